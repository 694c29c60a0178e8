/-! The reference's token. -/
def TM (q L : Nat) (t : Nat → Int32) (κ : zI) : Prop := L ≤ 900 ∧ κ q 14 = nI L ∧ ∀ i, i < L → κ (q + 1) i = t i ∧ 0 ≤ (t i).toInt ∧ (t i).toInt ≤ 255
theorem TM.fr {q L : Nat} {t : Nat → Int32} {κ κ' : zI} (h : TM q L t κ) (e1 : κ' (q + 1) = κ (q + 1)) (e14 : κ' q 14 = κ q 14) : TM q L t κ' := by
  unfold TM
  rw [e1, e14]
  exact h
def hrT (t : Nat → Int32) (L p : Nat) : Int32 := if p < L then t p else -1
theorem kd_m1 : kd (-1) = 5 := by decide
theorem TM.here {q L p : Nat} {t : Nat → Int32} {κ : zI} {τ : zJ} (h : TM q L t κ) (hp : κ q 15 = nI p) (hL : p ≤ L) : E_M_here q κ τ = some (hrT t L p, κ, τ) := by
  have h9 := h.1
  rw [E_M_here, e_M_here_0, h.2.1, hp, hrT]
  by_cases c : p < L
  · rw [if_neg (nI_ge c (by omega)), if_pos (zin_nI (by omega) (by decide)), nI_clamp (by omega), (h.2.2 p c).1, if_pos c, e_M_here_24]
  · rw [if_pos (nI_le (by omega) (by omega)), if_neg c, e_M_here_24]
theorem M_small {c : Int32} {κ : zI} {τ : zJ} : E_M_isSmall c κ τ = some (if kd c = 2 then 1 else 0, κ, τ) := by
  have h := kd_c c
  have l97 : (c < 97) ↔ c.toInt < 97 := ilt
  have g122 : ((122 : Int32) < c) ↔ 122 < c.toInt := ilt
  rw [E_M_isSmall, e_M_isSmall_0, e_M_isSmall_16, e_M_isSmall_17, e_M_isSmall_17, if_pos (show zb 0 = true from rfl), if_pos (show zb 1 = true from rfl)]
  by_cases k : kd c = 2
  · have h2 : 97 ≤ c.toInt ∧ c.toInt ≤ 122 := by
      rcases h with ⟨a, b⟩ | ⟨a, b⟩ | ⟨a, b⟩ | ⟨a, b⟩ | ⟨a, b⟩
      · rw [k] at a; exact absurd a (by decide)
      · exact b
      · rw [k] at a; exact absurd a (by decide)
      · rw [k] at a; exact absurd a (by decide)
      · rw [k] at a; exact absurd a (by decide)
    rw [if_pos k, if_neg (fun g => by have := l97.mp g; omega), if_neg (fun g => by have := g122.mp g; omega)]
  · have h2 : ¬ (97 ≤ c.toInt ∧ c.toInt ≤ 122) := by
      rcases h with ⟨a, b⟩ | ⟨a, b⟩ | ⟨a, b⟩ | ⟨a, b⟩ | ⟨a, b⟩
      · omega
      · exact absurd a k
      · omega
      · omega
      · omega
    rw [if_neg k]
    by_cases c1 : c < 97
    · rw [if_pos c1]
    · have hh : ¬ c.toInt < 97 := fun g => c1 (l97.mpr g)
      rw [if_neg c1, if_pos (g122.mpr (by omega))]
theorem M_digit {c : Int32} {κ : zI} {τ : zJ} : E_M_isDigit c κ τ = some (if kd c = 3 then 1 else 0, κ, τ) := by
  have h := kd_c c
  have l48 : (c < 48) ↔ c.toInt < 48 := ilt
  have g57 : ((57 : Int32) < c) ↔ 57 < c.toInt := ilt
  rw [E_M_isDigit, e_M_isDigit_0, e_M_isDigit_16, e_M_isDigit_17, e_M_isDigit_17, if_pos (show zb 0 = true from rfl), if_pos (show zb 1 = true from rfl)]
  by_cases k : kd c = 3
  · have h2 : 48 ≤ c.toInt ∧ c.toInt ≤ 57 := by
      rcases h with ⟨a, b⟩ | ⟨a, b⟩ | ⟨a, b⟩ | ⟨a, b⟩ | ⟨a, b⟩
      · rw [k] at a; exact absurd a (by decide)
      · rw [k] at a; exact absurd a (by decide)
      · exact b
      · rw [k] at a; exact absurd a (by decide)
      · rw [k] at a; exact absurd a (by decide)
    rw [if_pos k, if_neg (fun g => by have := l48.mp g; omega), if_neg (fun g => by have := g57.mp g; omega)]
  · have h2 : ¬ (48 ≤ c.toInt ∧ c.toInt ≤ 57) := by
      rcases h with ⟨a, b⟩ | ⟨a, b⟩ | ⟨a, b⟩ | ⟨a, b⟩ | ⟨a, b⟩
      · omega
      · omega
      · exact absurd a k
      · omega
      · omega
    rw [if_neg k]
    by_cases c1 : c < 48
    · rw [if_pos c1]
    · have hh : ¬ c.toInt < 48 := fun g => c1 (l48.mpr g)
      rw [if_neg c1, if_pos (g57.mpr (by omega))]
/-! ## its words -/
def ixL : List Nat := [1, 2, 3, 4, 5, 0, 6, 7, 8, 9]
def ofL : List Nat := [0, 8, 15, 24, 31, 35, 42, 45, 51, 56, 61]
def ix (n : Nat) : Nat := ixL.getD n 10
def ofs (n : Nat) : Nat := ofL.getD n 61
theorem ix_lt : ∀ n, n < 10 → ix n < 10 := by decide
theorem ix_inj : ∀ n, n < 10 → ∀ m, m < 10 → ix n = ix m → n = m := by decide
theorem ix_sur : ∀ k, k < 10 → ∃ n, n < 10 ∧ ix n = k := by decide
theorem big_c : ∀ n, n < 10 → ∀ i, i < zSl (ix n) → zSc 11 (nI (ofs n + i)) = zSb (ix n) i ∧ zSb (ix n) i ≠ 32 := by decide
theorem big_s : ∀ n, n < 10 → zSc 11 (nI (ofs n + zSl (ix n))) = 32 ∧ ofs (n + 1) = ofs n + zSl (ix n) + 1 ∧ ofs n + zSl (ix n) < 61 := by decide
theorem big_l : zSl 11 = 61 := by decide
theorem M_w97 {q n : Nat} {κ : zI} {τ : zJ} {r4 : Int32 → Int32 → zI → zJ → Option (Int32 × zI × zJ)} {x1 x3 : Int32} (hn : n < 10) : ∀ (d i f : Nat), i + d = zSl (ix n) → d < f → f_M_wordHere_97 q r4 f x1 (nI (ofs n + i)) x3 κ τ = r4 (x1 + 1) (nI (ofs (n + 1))) κ τ := by
  obtain ⟨s1, s2, s3⟩ := big_s n hn
  intro d
  induction d with
  | zero =>
    intro i f hi hf
    obtain ⟨f, rfl⟩ : ∃ i, f = i + 1 := ⟨f - 1, by omega⟩
    have e : i = zSl (ix n) := by omega
    subst e
    rw [f_M_wordHere_97, if_pos (by decide), big_l, if_pos (zin_nI (by omega) (by decide)), s1, if_pos rfl, nI_1, s2]
  | succ d ih =>
    intro i f hi hf
    obtain ⟨f, rfl⟩ : ∃ i, f = i + 1 := ⟨f - 1, by omega⟩
    obtain ⟨c1, c2⟩ := big_c n hn i (by omega)
    rw [f_M_wordHere_97, if_pos (by decide), big_l, if_pos (zin_nI (by omega) (by decide)), c1, if_neg c2, nI_1]
    exact ih (i + 1) f (by omega) (by omega)
theorem M_w15 {q L s e n : Nat} {t : Nat → Int32} {κ : zI} {τ : zJ} {r4 : Int32 → Int32 → zI → zJ → Option (Int32 × zI × zJ)} {x1 : Int32} (hT : TM q L t κ) (hs : κ q 16 = nI s) (he : κ q 15 = nI e) (heL : e ≤ L) (hn : n < 10) : ∀ (d i f : Nat), i + d = zSl (ix n) → d < f → s + i ≤ e → (∀ j, j < i → zSb (ix n) j = t (s + j)) → f_M_wordHere_15 q r4 f x1 (nI (ofs n)) (nI i) κ τ = if spB t s e (ix n) = true then some (x1, κ, τ) else r4 (x1 + 1) (nI (ofs (n + 1))) κ τ := by
  obtain ⟨s1, s2, s3⟩ := big_s n hn
  have h9 := hT.1
  have w97 : ∀ x3, f_M_wordHere_97 q r4 zFuel x1 (nI (ofs n)) x3 κ τ = r4 (x1 + 1) (nI (ofs (n + 1))) κ τ := fun x3 => M_w97 (x3 := x3) hn (zSl (ix n)) 0 zFuel (by omega) (by unfold zFuel; omega)
  intro d
  induction d with
  | zero =>
    intro i f hi hf hse hj
    obtain ⟨f, rfl⟩ : ∃ i, f = i + 1 := ⟨f - 1, by omega⟩
    have e0 : i = zSl (ix n) := by omega
    subst e0
    have z11 : zin (nI (ofs n + zSl (ix n))) (zSl 11) = true := by rw [big_l]; exact zin_nI (by omega) (by decide)
    rw [f_M_wordHere_15, if_pos (by decide), nI_add, if_pos z11, s1, if_pos rfl, e_M_wordHere_69, if_pos (by decide), nI_add, if_pos z11, s1, if_pos rfl, hs, he, nI_add, w97]
    by_cases c : s + zSl (ix n) = e
    · rw [if_pos (by rw [c]), if_pos (spB_iff.mpr ⟨by omega, hj⟩)]
    · rw [if_neg (fun g => c ((nI_eq (by omega) (by omega)).mp g)), if_neg (fun g => by have := (spB_iff.mp g).1; omega)]
  | succ d ih =>
    intro i f hi hf hse hj
    obtain ⟨f, rfl⟩ : ∃ i, f = i + 1 := ⟨f - 1, by omega⟩
    obtain ⟨c1, c2⟩ := big_c n hn i (by omega)
    have z11 : zin (nI (ofs n + i)) (zSl 11) = true := by rw [big_l]; exact zin_nI (by omega) (by decide)
    have no : e_M_wordHere_69 q r4 x1 (nI (ofs n)) (nI i) κ τ = r4 (x1 + 1) (nI (ofs (n + 1))) κ τ := by
      rw [e_M_wordHere_69, if_pos (by decide), nI_add, if_pos z11, c1, if_neg c2, w97]
    rw [f_M_wordHere_15, if_pos (by decide), nI_add, if_pos z11, c1, if_neg c2, hs, he, nI_add, no]
    by_cases c : s + i < e
    · rw [if_neg (nI_ge c (by omega)), if_pos (zin_nI (by omega) (by decide)), if_pos (by decide), if_pos z11, nI_clamp (by omega), (hT.2.2 (s + i) (by omega)).1]
      by_cases g : t (s + i) = zSb (ix n) i
      · rw [if_pos g, nI_1]
        refine ih (i + 1) f (by omega) (by omega) (by omega) (fun j h => ?_)
        by_cases ej : j = i
        · rw [ej]; exact g.symm
        · exact hj j (by omega)
      · rw [if_neg g, if_neg (fun g2 => g ((spB_iff.mp g2).2 i (by omega)).symm)]
    · rw [if_pos (nI_le (by omega) (by omega)), if_neg (fun g2 => by have := (spB_iff.mp g2).1; omega)]
def mwA (t : Nat → Int32) (s e : Nat) : Nat → Nat → Int32
  | 0, _ => -1
  | d + 1, n => if spB t s e (ix n) = true then nI n else mwA t s e d (n + 1)
theorem M_w4 {q L s e : Nat} {t : Nat → Int32} {κ : zI} {τ : zJ} (hT : TM q L t κ) (hs : κ q 16 = nI s) (he : κ q 15 = nI e) (hse : s ≤ e) (heL : e ≤ L) : ∀ (d n f : Nat), n + d = 10 → d < f → f_M_wordHere_4 q f (nI n) (nI (ofs n)) κ τ = some (mwA t s e d n, κ, τ) := by
  intro d
  induction d with
  | zero =>
    intro n f hn hf
    obtain ⟨f, rfl⟩ : ∃ i, f = i + 1 := ⟨f - 1, by omega⟩
    have e10 : n = 10 := by omega
    subst e10
    rw [f_M_wordHere_4, if_pos (by decide), big_l, if_pos (by decide)]
    rfl
  | succ d ih =>
    intro n f hn hf
    obtain ⟨f, rfl⟩ : ∃ i, f = i + 1 := ⟨f - 1, by omega⟩
    obtain ⟨s1, s2, s3⟩ := big_s n (by omega)
    rw [f_M_wordHere_4, if_pos (by decide), big_l, if_neg (nI_ge (by omega) (by decide)), show (0 : Int32) = nI 0 from rfl, M_w15 hT hs he heL (by omega) (zSl (ix n)) 0 zFuel (by omega) (by have := zSl_9 (ix n) (by have := ix_lt n (by omega); omega); unfold zFuel; omega) (by omega) (fun j h => by omega), mwA]
    by_cases c : spB t s e (ix n) = true
    · rw [if_pos c, if_pos c]
    · rw [if_neg c, if_neg c, nI_1]
      exact ih (n + 1) f (by omega) (by omega)
theorem M_word {q L s e : Nat} {t : Nat → Int32} {κ : zI} {τ : zJ} (hT : TM q L t κ) (hs : κ q 16 = nI s) (he : κ q 15 = nI e) (hse : s ≤ e) (heL : e ≤ L) : E_M_wordHere q κ τ = some (mwA t s e 10 0, κ, τ) := by
  rw [E_M_wordHere, e_M_wordHere_0]
  exact M_w4 hT hs he hse heL 10 0 zFuel (by omega) (by unfold zFuel; omega)
theorem mwA_b {t : Nat → Int32} {s e : Nat} : ∀ d n, n + d = 10 → (∃ m, m < 10 ∧ mwA t s e d n = nI m ∧ spB t s e (ix m) = true) ∨ (mwA t s e d n = -1 ∧ ∀ m, n ≤ m → m < 10 → ¬ spB t s e (ix m) = true) := by
  intro d
  induction d with
  | zero => intro n h; exact Or.inr ⟨rfl, fun m h1 h2 => by omega⟩
  | succ d ih =>
    intro n h
    rw [mwA]
    by_cases c : spB t s e (ix n) = true
    · rw [if_pos c]; exact Or.inl ⟨n, by omega, rfl, c⟩
    · rw [if_neg c]
      rcases ih (n + 1) (by omega) with a | ⟨a, b⟩
      · exact Or.inl a
      · refine Or.inr ⟨a, fun m h1 h2 => ?_⟩
        by_cases em : m = n
        · rw [em]; exact c
        · exact b m (by omega) h2
/-- the two numbers of a word -/
theorem wd_rel {t : Nat → Int32} {s e : Nat} : (∃ n, n < 10 ∧ mwA t s e 10 0 = nI n ∧ cwA t s e 10 0 = ix n) ∨ (mwA t s e 10 0 = -1 ∧ cwA t s e 10 0 = 10) := by
  rcases mwA_b (t := t) (s := s) (e := e) 10 0 rfl with ⟨m, m9, e1, e2⟩ | ⟨e1, e2⟩
  · rcases cwA_b (t := t) (s := s) (e := e) 10 0 rfl with ⟨c1, c2⟩ | ⟨c1, c2⟩
    · exact Or.inl ⟨m, m9, e1, sp_uniq c1 (ix_lt m m9) c2 e2⟩
    · exact absurd e2 (c2 _ (by omega) (ix_lt m m9))
  · rcases cwA_b (t := t) (s := s) (e := e) 10 0 rfl with ⟨c1, c2⟩ | ⟨c1, c2⟩
    · obtain ⟨n, n9, en⟩ := ix_sur _ c1
      rw [← en] at c2
      exact absurd c2 (e2 n (by omega) n9)
    · exact Or.inr ⟨e1, c1⟩
/-! ## the token -/
theorem M_skip {q L : Nat} {t : Nat → Int32} {τ : zJ} : ∀ (d p f : Nat) (κ : zI), p + d = L → d < f → TM q L t κ → κ q 15 = nI p → ∃ κ' f', f_M_token_0 q f κ τ = f_M_token_0 q (f' + 1) κ' τ ∧ (∀ r, r ≠ q → κ' r = κ r) ∧ (∀ k, k ≠ 15 → κ' q k = κ q k) ∧ κ' q 15 = nI (skA t d p) := by
  intro d
  induction d with
  | zero =>
    intro p f κ hp hf hT h15
    obtain ⟨f, rfl⟩ : ∃ i, f = i + 1 := ⟨f - 1, by omega⟩
    exact ⟨κ, f, rfl, fun _ _ => rfl, fun _ _ => rfl, h15⟩
  | succ d ih =>
    intro p f κ hp hf hT h15
    obtain ⟨f, rfl⟩ : ∃ i, f = i + 1 := ⟨f - 1, by omega⟩
    have h9 := hT.1
    rw [skA]
    by_cases c : kd (t p) = 1
    · rw [if_pos c]
      obtain ⟨κ', f', a1, a2, a3, a4⟩ := ih (p + 1) f (zu κ q 15 (nI (p + 1))) (by omega) (by omega) (hT.fr (zgr (by omega)) (zgk (by decide))) zgh
      refine ⟨κ', f', ?_, fun r h => (a2 r h).trans (zgr h), fun k h => (a3 k h).trans (zgk h), a4⟩
      have hb : t p = 10 ∨ t p = 32 := by
        rcases kd_c (t p) with ⟨a, b⟩ | ⟨a, b⟩ | ⟨a, b⟩ | ⟨a, b⟩ | ⟨a, b⟩
        · rcases b with b | b
          · exact Or.inl (ieq.mpr b)
          · exact Or.inr (ieq.mpr b)
        · rw [c] at a; exact absurd a (by decide)
        · rw [c] at a; exact absurd a (by decide)
        · rw [c] at a; exact absurd a (by decide)
        · rw [c] at a; exact absurd a (by decide)
      have eh : E_M_here q κ τ = some (t p, κ, τ) := by rw [hT.here h15 (by omega), hrT, if_pos (by omega)]
      have e18 : e_M_token_18 q (f_M_token_0 q f) κ τ = f_M_token_0 q f (zu κ q 15 (nI (p + 1))) τ := by
        rw [e_M_token_18, zlet_eq, h15, nI_1]
      rw [← a1, f_M_token_0, ob_eq eh]
      dsimp only
      rcases hb with hb | hb
      · rw [if_pos hb, e18]
      · rw [if_neg (by rw [hb]; decide), ob_eq eh, if_pos hb, e18]
    · rw [if_neg c]
      exact ⟨κ, f, rfl, fun _ _ => rfl, fun _ _ => rfl, h15⟩
theorem M_ext {q L : Nat} {t : Nat → Int32} {τ : zJ} {x1 : Int32} : ∀ (d p f : Nat) (κ : zI), p + d = L → d < f → TM q L t κ → κ q 15 = nI p → ∃ κ', f_M_token_64 q f x1 κ τ = (Option.bind (E_M_wordHere q κ' τ) fun ty4 => zlet (zu ty4.2.1 q 18 ty4.1) fun μy5 => (if (μy5 q 18) = (-1) then e_M_token_109 q x1 4 μy5 ty4.2.2 else e_M_token_109 q x1 0 μy5 ty4.2.2)) ∧ (∀ r, r ≠ q → κ' r = κ r) ∧ (∀ k, k ≠ 15 → κ' q k = κ q k) ∧ κ' q 15 = nI (exA t 2 d p) := by
  intro d
  induction d with
  | zero =>
    intro p f κ hp hf hT h15
    obtain ⟨f, rfl⟩ : ∃ i, f = i + 1 := ⟨f - 1, by omega⟩
    refine ⟨κ, ?_, fun _ _ => rfl, fun _ _ => rfl, h15⟩
    rw [f_M_token_64, ob_eq (hT.here h15 (by omega)), ob_eq M_small]
    rw [if_pos (show (if kd (hrT t L p) = 2 then (1 : Int32) else 0) = 0 by rw [hrT, if_neg (show ¬ p < L by omega), kd_m1]; decide)]
  | succ d ih =>
    intro p f κ hp hf hT h15
    obtain ⟨f, rfl⟩ : ∃ i, f = i + 1 := ⟨f - 1, by omega⟩
    have h9 := hT.1
    have eh : hrT t L p = t p := by rw [hrT, if_pos (by omega)]
    rw [exA]
    by_cases c : kd (t p) = 2
    · rw [if_pos c]
      obtain ⟨κ', a1, a2, a3, a4⟩ := ih (p + 1) f (zu κ q 15 (nI (p + 1))) (by omega) (by omega) (hT.fr (zgr (by omega)) (zgk (by decide))) zgh
      refine ⟨κ', ?_, fun r h => (a2 r h).trans (zgr h), fun k h => (a3 k h).trans (zgk h), a4⟩
      rw [← a1, f_M_token_64, ob_eq (hT.here h15 (by omega)), ob_eq M_small, if_neg (show ¬ (if kd (hrT t L p) = 2 then (1 : Int32) else 0) = 0 by rw [eh, if_pos c]; decide), zlet_eq]
      dsimp only
      rw [h15, nI_1]
    · rw [if_neg c]
      refine ⟨κ, ?_, fun _ _ => rfl, fun _ _ => rfl, h15⟩
      rw [f_M_token_64, ob_eq (hT.here h15 (by omega)), ob_eq M_small, if_pos (show (if kd (hrT t L p) = 2 then (1 : Int32) else 0) = 0 by rw [eh, if_neg c])]
theorem M_dig {q L : Nat} {t : Nat → Int32} {τ : zJ} {x1 : Int32} : ∀ (d p f : Nat) (κ : zI) (v : Int32), p + d = L → d < f → TM q L t κ → κ q 15 = nI p → κ q 18 = v → ∃ κ', f_M_token_132 q f x1 κ τ = some (κ', τ) ∧ (∀ r, r ≠ q → κ' r = κ r) ∧ (∀ k, k ≠ 15 → k ≠ 18 → κ' q k = κ q k) ∧ κ' q 15 = nI (exA t 3 d p) ∧ κ' q 18 = mvA t (exA t 3 d p - p) p v := by
  intro d
  induction d with
  | zero =>
    intro p f κ v hp hf hT h15 h18
    obtain ⟨f, rfl⟩ : ∃ i, f = i + 1 := ⟨f - 1, by omega⟩
    refine ⟨κ, ?_, fun _ _ => rfl, fun _ _ _ => rfl, h15, ?_⟩
    · rw [f_M_token_132, ob_eq (hT.here h15 (by omega)), ob_eq M_digit, if_pos (show (if kd (hrT t L p) = 3 then (1 : Int32) else 0) = 0 by rw [hrT, if_neg (show ¬ p < L by omega), kd_m1]; decide), e_M_token_215]
    · rw [exA, Nat.sub_self]; exact h18
  | succ d ih =>
    intro p f κ v hp hf hT h15 h18
    obtain ⟨f, rfl⟩ : ∃ i, f = i + 1 := ⟨f - 1, by omega⟩
    have h9 := hT.1
    have eh : hrT t L p = t p := by rw [hrT, if_pos (by omega)]
    rw [exA]
    by_cases c : kd (t p) = 3
    · rw [if_pos c]
      obtain ⟨κ', a1, a2, a3, a4, a5⟩ := ih (p + 1) f (zu (zu κ q 18 (if v ≤ 99999 then 10 * v + t p - 48 else v)) q 15 (nI (p + 1))) (if v ≤ 99999 then 10 * v + t p - 48 else v) (by omega) (by omega) (hT.fr (by rw [zgr (by omega), zgr (by omega)]) (by rw [zgk (by decide), zgk (by decide)])) zgh (by rw [zgk (by decide), zgh])
      have xb := (exA_b t 3 d (p + 1)).1
      refine ⟨κ', ?_, fun r h => by rw [a2 r h, zgr h, zgr h], fun k h h' => by rw [a3 k h h', zgk h, zgk h'], a4, ?_⟩
      · have e174 : ∀ w, e_M_token_174 q (f_M_token_132 q f) x1 w κ τ = f_M_token_132 q f x1 (zu (zu κ q 18 w) q 15 (nI (p + 1))) τ := fun w => by
          rw [e_M_token_174, zlet_eq, zlet_eq, zgk (show (15 : Nat) ≠ 18 by decide), h15, nI_1]
        rw [← a1, f_M_token_132, ob_eq (hT.here h15 (by omega)), ob_eq M_digit, if_neg (show ¬ (if kd (hrT t L p) = 3 then (1 : Int32) else 0) = 0 by rw [eh, if_pos c]; decide)]
        simp only [h18]
        by_cases cv : v ≤ 99999
        · rw [if_pos cv, if_pos cv, ob_eq (hT.here h15 (by omega)), eh]
          dsimp only
          rw [e174]
        · rw [if_neg cv, if_neg cv, e174]
      · rw [a5, show exA t 3 d (p + 1) - p = exA t 3 d (p + 1) - (p + 1) + 1 by omega, mvA]
    · rw [if_neg c]
      refine ⟨κ, ?_, fun _ _ => rfl, fun _ _ _ => rfl, h15, ?_⟩
      · rw [f_M_token_132, ob_eq (hT.here h15 (by omega)), ob_eq M_digit, if_pos (show (if kd (hrT t L p) = 3 then (1 : Int32) else 0) = 0 by rw [eh, if_neg c]), e_M_token_215]
      · rw [Nat.sub_self]; exact h18
/-- what the reference knows of the token at s -/
def tkF (t : Nat → Int32) (L s : Nat) (so va : Int32) : Prop := (tkK t L s = 0 → so = 3) ∧ (tkK t L s = 2 → va = mwA t s (tkE t L s) 10 0 ∧ so = if va = -1 then 4 else 0) ∧ (tkK t L s = 3 → so = 1 ∧ va = mvA t (tkE t L s - s) s 0) ∧ (tkK t L s = 4 → so = 2) ∧ (tkK t L s = 5 → so = 4)
theorem M_tok {q L p : Nat} {t : Nat → Int32} {κ : zI} {τ : zJ} (hT : TM q L t κ) (h15 : κ q 15 = nI p) (hp : p ≤ L) : ∃ κ', E_M_token q κ τ = some (κ', τ) ∧ (∀ r, r ≠ q → κ' r = κ r) ∧ (∀ k, k ≠ 15 → k ≠ 16 → k ≠ 17 → k ≠ 18 → κ' q k = κ q k) ∧ κ' q 16 = nI (tkS t L p) ∧ κ' q 15 = nI (tkE t L (tkS t L p)) ∧ tkF t L (tkS t L p) (κ' q 17) (κ' q 18) := by
  have h9 := hT.1
  obtain ⟨κ1, f', a1, a2, a3, a4⟩ := M_skip (q := q) (L := L) (t := t) (τ := τ) (L - p) p zFuel κ (by omega) (by unfold zFuel; omega) hT h15
  have sb := tkS_b (t := t) hp
  have sk := (skA_b t (L - p) p).2.2
  have a4' : κ1 q 15 = nI (tkS t L p) := a4
  have sk' : tkS t L p < L → ¬ kd (t (tkS t L p)) = 1 := fun g => sk (by unfold tkS at g; omega)
  generalize tkS t L p = s at *
  have T1 : TM q L t κ1 := hT.fr (a2 _ (by omega)) (a3 14 (by decide))
  obtain ⟨A, hA⟩ : ∃ A, A = zu κ1 q 16 (nI s) := ⟨_, rfl⟩
  have ar : ∀ r, r ≠ q → A r = κ r := fun r h => by rw [hA, zgr h, a2 r h]
  have aq : ∀ k, k ≠ 15 → k ≠ 16 → A q k = κ q k := fun k h h' => by rw [hA, zgk h', a3 k h]
  have a16 : A q 16 = nI s := by rw [hA, zgh]
  have a15 : A q 15 = nI s := by rw [hA, zgk (by decide)]; exact a4'
  have TA : TM q L t A := hT.fr (ar _ (by omega)) (aq 14 (by decide) (by decide))
  have key : E_M_token q κ τ = (if hrT t L s = (-1) then zlet (zu A q 17 3) fun μy16 => e_M_token_215 q (hrT t L s) μy16 τ else Option.bind (E_M_isSmall (hrT t L s) A τ) fun ty9 => (if ty9.1 = 0 then Option.bind (E_M_isDigit (hrT t L s) ty9.2.1 ty9.2.2) fun ty11 => (if ty11.1 = 0 then (if hrT t L s = 59 then e_M_token_202 q (hrT t L s) 2 ty11.2.1 ty11.2.2 else e_M_token_202 q (hrT t L s) 4 ty11.2.1 ty11.2.2) else zlet (zu ty11.2.1 q 17 1) fun μy14 => zlet (zu μy14 q 18 0) fun μy15 => f_M_token_132 q zFuel (hrT t L s) μy15 ty11.2.2) else f_M_token_64 q zFuel (hrT t L s) ty9.2.1 ty9.2.2)) := by
    have nb : ¬ hrT t L s = 10 ∧ ¬ hrT t L s = 32 := by
      rw [hrT]
      by_cases c : s < L
      · rw [if_pos c]
        have k1 := sk' c
        exact ⟨fun g => k1 (by rw [g]; decide), fun g => k1 (by rw [g]; decide)⟩
      · rw [if_neg c]; decide
    rw [E_M_token, a1, f_M_token_0, ob_eq (T1.here a4' sb.2)]
    dsimp only
    rw [if_neg nb.1, ob_eq (T1.here a4' sb.2)]
    dsimp only
    rw [if_neg nb.2, zlet_eq, a4', ← hA, ob_eq (TA.here a15 sb.2), zlet_eq]
  by_cases c : s < L
  · have eh : hrT t L s = t s := by rw [hrT, if_pos c]
    obtain ⟨-, t0, t255⟩ := hT.2.2 s c
    have n1 : ¬ t s = -1 := fun g => by
      rw [g] at t0
      exact absurd t0 (by decide)
    have ek : tkK t L s = kd (t s) := by rw [tkK, if_pos c]
    have Ls : L - s = L - (s + 1) + 1 := by omega
    rw [eh, if_neg n1, ob_eq M_small] at key
    by_cases c2 : kd (t s) = 2
    · rw [if_neg (show ¬ (if kd (t s) = 2 then (1 : Int32) else 0) = 0 by rw [if_pos c2]; decide)] at key
      obtain ⟨κ2, b1, b2, b3, b4⟩ := M_ext (q := q) (L := L) (t := t) (τ := τ) (x1 := t s) (L - s) s zFuel A (by omega) (by unfold zFuel; omega) TA a15
      have ee : tkE t L s = exA t 2 (L - s) s := by
        rw [tkE, if_pos c, if_pos (Or.inl c2), Ls, exA, if_pos c2, c2]
      have eb := tkE_b (t := t) (Nat.le_of_lt c)
      rw [← ee] at b4
      have W := M_word (τ := τ) (TA.fr (b2 _ (by omega)) (b3 14 (by decide))) ((b3 16 (by decide)).trans a16) b4 eb.1 eb.2.1
      generalize hw : mwA t s (tkE t L s) 10 0 = w at W
      have key2 : E_M_token q κ τ = some (zu (zu κ2 q 18 w) q 17 (if w = -1 then 4 else 0), τ) := by
        rw [key, b1, ob_eq W, zlet_eq]
        dsimp only
        rw [zgh, e_M_token_109, e_M_token_109, zlet_eq, zlet_eq, e_M_token_215, e_M_token_215]
        split <;> rfl
      refine ⟨_, key2, fun r h => by rw [zgr h, zgr h, b2 r h, ar r h], fun k k15 k16 k17 k18 => by rw [zgk k17, zgk k18, b3 k k15, aq k k15 k16], by rw [zgk (by decide), zgk (by decide), b3 16 (by decide), a16], by rw [zgk (by decide), zgk (by decide), b4], ?_⟩
      rw [zgh, zgk (by decide), zgh]
      refine ⟨fun g => ?_, fun _ => ⟨hw.symm, rfl⟩, fun g => ?_, fun g => ?_, fun g => ?_⟩
      all_goals
        rw [ek, c2] at g
        exact absurd g (by decide)
    · rw [if_pos (show (if kd (t s) = 2 then (1 : Int32) else 0) = 0 by rw [if_neg c2])] at key
      dsimp only at key
      rw [ob_eq M_digit] at key
      by_cases c3 : kd (t s) = 3
      · rw [if_neg (show ¬ (if kd (t s) = 3 then (1 : Int32) else 0) = 0 by rw [if_pos c3]; decide), zlet_eq, zlet_eq] at key
        obtain ⟨κ2, b1, b2, b3, b4, b5⟩ := M_dig (q := q) (L := L) (t := t) (τ := τ) (x1 := t s) (L - s) s zFuel (zu (zu A q 17 1) q 18 0) 0 (by omega) (by unfold zFuel; omega) (TA.fr (by rw [zgr (by omega), zgr (by omega)]) (by rw [zgk (by decide), zgk (by decide)])) (by rw [zgk (by decide), zgk (by decide)]; exact a15) zgh
        have ee : tkE t L s = exA t 3 (L - s) s := by
          rw [tkE, if_pos c, if_pos (Or.inr c3), Ls, exA, if_pos c3, c3]
        rw [← ee] at b4 b5
        refine ⟨κ2, key.trans b1, fun r h => by rw [b2 r h, zgr h, zgr h, ar r h], fun k k15 k16 k17 k18 => by rw [b3 k k15 k18, zgk k18, zgk k17, aq k k15 k16], by rw [b3 16 (by decide) (by decide), zgk (by decide), zgk (by decide), a16], b4, ?_⟩
        rw [b3 17 (by decide) (by decide), zgk (by decide), zgh, b5]
        refine ⟨fun g => ?_, fun g => ?_, fun _ => ⟨rfl, rfl⟩, fun g => ?_, fun g => ?_⟩
        all_goals
          rw [ek, c3] at g
          exact absurd g (by decide)
      · rw [if_pos (show (if kd (t s) = 3 then (1 : Int32) else 0) = 0 by rw [if_neg c3])] at key
        have ee : tkE t L s = s + 1 := by
          rw [tkE, if_pos c, if_neg (fun g => g.elim c2 c3)]
        have e202 : ∀ w, e_M_token_202 q (t s) w A τ = some (zu (zu A q 17 w) q 15 (nI (s + 1)), τ) := fun w => by
          rw [e_M_token_202, zlet_eq, zlet_eq, zgk (show (15 : Nat) ≠ 17 by decide), a15, nI_1, e_M_token_215]
        have key2 : E_M_token q κ τ = some (zu (zu A q 17 (if t s = 59 then 2 else 4)) q 15 (nI (s + 1)), τ) := by
          rw [key]
          dsimp only
          rw [e202, e202]
          split <;> rfl
        refine ⟨_, key2, fun r h => by rw [zgr h, zgr h, ar r h], fun k k15 k16 k17 k18 => by rw [zgk k15, zgk k17, aq k k15 k16], by rw [zgk (by decide), zgk (by decide), a16], by rw [zgh, ee], ?_⟩
        rw [zgk (by decide), zgh]
        have kc := kd_c (t s)
        have i59 : (t s = 59) ↔ (t s).toInt = 59 := ieq
        refine ⟨fun g => ?_, fun g => ?_, fun g => ?_, fun g => ?_, fun g => ?_⟩
        · rw [ek] at g
          rcases kc with ⟨x, -⟩ | ⟨x, -⟩ | ⟨x, -⟩ | ⟨x, -⟩ | ⟨x, -⟩ <;> rw [x] at g <;> exact absurd g (by decide)
        · rw [ek] at g; exact absurd g c2
        · rw [ek] at g; exact absurd g c3
        · rw [ek] at g
          rcases kc with ⟨x, y⟩ | ⟨x, y⟩ | ⟨x, y⟩ | ⟨x, y⟩ | ⟨x, y⟩
          · rw [x] at g; exact absurd g (by decide)
          · rw [x] at g; exact absurd g (by decide)
          · rw [x] at g; exact absurd g (by decide)
          · rw [if_pos (i59.mpr y)]
          · rw [x] at g; exact absurd g (by decide)
        · rw [ek] at g
          rcases kc with ⟨x, y⟩ | ⟨x, y⟩ | ⟨x, y⟩ | ⟨x, y⟩ | ⟨x, y⟩
          · rw [x] at g; exact absurd g (by decide)
          · rw [x] at g; exact absurd g (by decide)
          · rw [x] at g; exact absurd g (by decide)
          · rw [x] at g; exact absurd g (by decide)
          · rw [if_neg (fun g2 => y.2.2.2.2 (i59.mp g2))]
  · have eh : hrT t L s = -1 := by rw [hrT, if_neg c]
    have ek : tkK t L s = 0 := by rw [tkK, if_neg c]
    have ee : tkE t L s = L := by rw [tkE, if_neg c]
    have sL : s = L := by omega
    rw [eh, if_pos rfl, zlet_eq, e_M_token_215] at key
    refine ⟨_, key, fun r h => by rw [zgr h, ar r h], fun k k15 k16 k17 k18 => by rw [zgk k17, aq k k15 k16], by rw [zgk (by decide), a16], by rw [zgk (by decide), a15, ee, sL], ?_⟩
    rw [zgh]
    refine ⟨fun _ => rfl, fun g => ?_, fun g => ?_, fun g => ?_, fun g => ?_⟩
    all_goals
      rw [ek] at g
      exact absurd g (by decide)
