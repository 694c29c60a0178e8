/-! Arithmetic within the bounds; the panel's power. -/
theorem iad {a b : Int32} (h1 : -2147483648 ≤ a.toInt + b.toInt) (h2 : a.toInt + b.toInt < 2147483648) : (a + b).toInt = a.toInt + b.toInt := by
  rw [Int32.toInt_add]
  exact Int.bmod_eq_of_le (by omega) (by omega)
theorem isb {a b : Int32} (h1 : -2147483648 ≤ a.toInt - b.toInt) (h2 : a.toInt - b.toInt < 2147483648) : (a - b).toInt = a.toInt - b.toInt := by
  rw [Int32.toInt_sub]
  exact Int.bmod_eq_of_le (by omega) (by omega)
theorem imu {a b : Int32} (h1 : -2147483648 ≤ a.toInt * b.toInt) (h2 : a.toInt * b.toInt < 2147483648) : (a * b).toInt = a.toInt * b.toInt := by
  rw [Int32.toInt_mul]
  exact Int.bmod_eq_of_le (by omega) (by omega)
theorem idv {a b : Int32} (h1 : 0 ≤ a.toInt) (h2 : 0 < b.toInt) : (a / b).toInt = a.toInt / b.toInt := by
  have hb : b ≠ -1 := by
    intro e
    rw [e] at h2
    exact absurd h2 (by decide)
  rw [Int32.toInt_div_of_ne_right a b hb, Int.tdiv_eq_ediv_of_nonneg h1]
theorem ile {a b : Int32} : a ≤ b ↔ a.toInt ≤ b.toInt := Int32.le_iff_toInt_le
theorem ilt {a b : Int32} : a < b ↔ a.toInt < b.toInt := Int32.lt_iff_toInt_lt
theorem ieq {a b : Int32} : a = b ↔ a.toInt = b.toInt := Int32.toInt_inj.symm
theorem nIt {n : Nat} (h : n < 2147483648) : (nI n).toInt = (n : Int) := nI_toInt (by omega)
/-- volts of the first k modules at x, by their lit and their volts -/
def pV (lit vo : Nat → Int32) (x : Int32) : Nat → Int32
  | 0 => 0
  | i + 1 => if x < lit i then pV lit vo x i + vo i * (lit i * lit i - x * x) / (lit i * lit i) else pV lit vo x i
def pP (lit vo : Nat → Int32) (n : Nat) (x : Int32) : Int32 := x * pV lit vo x n / 10
/-- the best of the first k points: power, and its x -/
def pB (lit vo : Nat → Int32) (n : Nat) : Nat → Int32 × Int32
  | 0 => (0, 0)
  | k + 1 => if (pB lit vo n k).1 < pP lit vo n (nI k) then (pP lit vo n (nI k), nI k) else pB lit vo n k
def pOK (lit vo : Nat → Int32) (n : Nat) : Prop := n ≤ 6 ∧ ∀ i, i < n → 0 ≤ (lit i).toInt ∧ (lit i).toInt ≤ 999 ∧ 1 ≤ (vo i).toInt ∧ (vo i).toInt ≤ 999
theorem sq_b {a : Int} (h0 : 0 ≤ a) (h1 : a ≤ 999) : 0 ≤ a * a ∧ a * a ≤ 998001 := by
  refine ⟨Int.mul_nonneg h0 h0, ?_⟩
  have := Int.mul_le_mul h1 h1 h0 (by omega)
  omega
theorem sq_t {a : Int32} (h0 : 0 ≤ a.toInt) (h1 : a.toInt ≤ 999) : (a * a).toInt = a.toInt * a.toInt := by
  have := sq_b h0 h1
  exact imu (by omega) (by omega)
theorem sq_lt {a b : Int} (h0 : 0 ≤ a) (h1 : a < b) : a * a < b * b := by
  have h2 := Int.mul_le_mul (show a ≤ b - 1 by omega) (show a ≤ b - 1 by omega) h0 (by omega)
  have h3 : (b - 1) * (b - 1) = b * b - 2 * b + 1 := by
    rw [Int.sub_mul, Int.mul_sub, Int.mul_one, Int.one_mul]
    omega
  omega
/-- one module's volts -/
theorem pT_b {l v x : Int32} (hx : 0 ≤ x.toInt) (hl : x.toInt < l.toInt) (hl9 : l.toInt ≤ 999) (hv : 1 ≤ v.toInt) (hv9 : v.toInt ≤ 999) : 0 < (l * l).toInt ∧ (v * (l * l - x * x) / (l * l)).toInt = v.toInt * (l.toInt * l.toInt - x.toInt * x.toInt) / (l.toInt * l.toInt) ∧ 0 ≤ (v * (l * l - x * x) / (l * l)).toInt ∧ (v * (l * l - x * x) / (l * l)).toInt ≤ v.toInt := by
  have e1 := sq_t (a := l) (by omega) hl9
  have e2 := sq_t (a := x) hx (by omega)
  have b1 := sq_b (a := l.toInt) (by omega) hl9
  have b2 := sq_b (a := x.toInt) hx (by omega)
  have b3 := sq_lt hx hl
  have e3 : (l * l - x * x).toInt = l.toInt * l.toInt - x.toInt * x.toInt := by rw [isb (by omega) (by omega), e1, e2]
  have b4 : 0 ≤ v.toInt * (l.toInt * l.toInt - x.toInt * x.toInt) := Int.mul_nonneg (by omega) (by omega)
  have b5 : v.toInt * (l.toInt * l.toInt - x.toInt * x.toInt) ≤ v.toInt * (l.toInt * l.toInt) := Int.mul_le_mul_of_nonneg_left (by omega) (by omega)
  have b6 : v.toInt * (l.toInt * l.toInt) ≤ 999 * 998001 := Int.mul_le_mul hv9 b1.2 b1.1 (by omega)
  have e4 : (v * (l * l - x * x)).toInt = v.toInt * (l.toInt * l.toInt - x.toInt * x.toInt) := by rw [imu (by rw [e3]; omega) (by rw [e3]; omega), e3]
  have p0 : 0 < (l * l).toInt := by rw [e1]; omega
  have e5 : (v * (l * l - x * x) / (l * l)).toInt = v.toInt * (l.toInt * l.toInt - x.toInt * x.toInt) / (l.toInt * l.toInt) := by rw [idv (by rw [e4]; exact b4) p0, e4, e1]
  refine ⟨p0, e5, ?_, ?_⟩
  · rw [e5]; exact Int.ediv_nonneg b4 (by omega)
  · rw [e5]; exact Int.ediv_le_of_le_mul (by omega) b5
theorem pV_b {lit vo : Nat → Int32} {n : Nat} (h : pOK lit vo n) {x : Int32} (hx : 0 ≤ x.toInt) : ∀ k, k ≤ n → 0 ≤ (pV lit vo x k).toInt ∧ (pV lit vo x k).toInt ≤ 999 * k := by
  intro k
  induction k with
  | zero =>
    intro _
    show 0 ≤ (0 : Int32).toInt ∧ (0 : Int32).toInt ≤ 999 * ((0 : Nat) : Int)
    decide
  | succ k ih =>
    intro hk
    have h1 := ih (by omega)
    obtain ⟨g1, g2, g3, g4⟩ := h.2 k (by omega)
    have hn := h.1
    by_cases c : x < lit k
    · have t := pT_b hx (ilt.mp c) g2 g3 g4
      rw [pV, if_pos c, iad (by omega) (by omega)]
      omega
    · rw [pV, if_neg c]
      omega
theorem pV_0 {lit vo : Nat → Int32} {x : Int32} : ∀ k, (∀ i, i < k → ¬ x < lit i) → pV lit vo x k = 0 := by
  intro k
  induction k with
  | zero => intro _; rfl
  | succ k ih => intro h; rw [pV, if_neg (h k (by omega)), ih (fun i hi => h i (by omega))]
theorem pP_b {lit vo : Nat → Int32} {n : Nat} (h : pOK lit vo n) {x : Int32} (hx : 0 ≤ x.toInt) (hx9 : x.toInt ≤ 999) : (pP lit vo n x).toInt = x.toInt * (pV lit vo x n).toInt / 10 ∧ 0 ≤ (pP lit vo n x).toInt ∧ (pP lit vo n x).toInt ≤ 598801 := by
  have h1 := pV_b h hx n (Nat.le_refl _)
  have hn := h.1
  have b1 : 0 ≤ x.toInt * (pV lit vo x n).toInt := Int.mul_nonneg hx h1.1
  have b2 : x.toInt * (pV lit vo x n).toInt ≤ 999 * 5994 := Int.mul_le_mul hx9 (by omega) h1.1 (by omega)
  have e1 : (x * pV lit vo x n).toInt = x.toInt * (pV lit vo x n).toInt := imu (by omega) (by omega)
  have e2 : (pP lit vo n x).toInt = x.toInt * (pV lit vo x n).toInt / 10 := by
    rw [pP, idv (by rw [e1]; exact b1) (by decide), e1]
    rfl
  refine ⟨e2, ?_, ?_⟩
  · rw [e2]; omega
  · rw [e2]; omega
/-! ## the reference's -/
def mLit (q : Nat) (κ : zI) (i : Nat) : Int32 := if i < 6 then κ (q + 4) i * κ (q + 7) (19 + i) / 100 else 0
theorem lit19 (i : Nat) : (19 : Int32) + nI i = nI (19 + i) := by
  rw [show (19 : Int32) = nI 19 from rfl, nI_add]
theorem lge {c : Int32} (N : Nat) {k : Nat} (hc : c = nI N) (h : k < N) (hN : N < 2 ^ 31) : ¬ c ≤ nI k := by
  rw [hc]
  exact nI_ge h hN
theorem zin_nI {n N : Nat} (h : n < N) (hN : N < 2 ^ 31) : zin (nI n) N = true := vp_zin (vp_in_nI h hN)
theorem M_litOf_eq {q i : Nat} {κ : zI} {τ : zJ} (hi : i < 6) : E_M_litOf q (nI i) κ τ = some (mLit q κ i, κ, τ) := by
  have h1 : zin (nI i) 12 = true := zin_nI (by omega) (by decide)
  have h3 : zin (nI (19 + i)) 146 = true := zin_nI (by omega) (by decide)
  rw [E_M_litOf, e_M_litOf_0, lit19, if_pos h1, if_pos h3, nI_clamp (by omega), nI_clamp (by omega), mLit, if_pos hi]
theorem M_voltsAt_f {q n : Nat} {κ : zI} {τ : zJ} {x : Int32} (hn : κ q 9 = nI n) (hx : 0 ≤ x.toInt) (hok : pOK (mLit q κ) (κ (q + 5)) n) : ∀ (j i f : Nat), i + j = n → j < f → f_M_voltsAt_4 q f x (pV (mLit q κ) (κ (q + 5)) x i) (nI i) κ τ = some (pV (mLit q κ) (κ (q + 5)) x n, κ, τ) := by
  have h6 := hok.1
  intro j
  induction j with
  | zero =>
    intro i f hi hf
    have : i = n := by omega
    subst this
    cases f with
    | zero => omega
    | succ f => rw [f_M_voltsAt_4, hn, if_pos (nI_le (Nat.le_refl _) (by omega))]
  | succ j ih =>
    intro i f hi hf
    cases f with
    | zero => omega
    | succ f =>
      have hi6 : i < n := by omega
      obtain ⟨g1, g2, g3, g4⟩ := hok.2 i hi6
      rw [f_M_voltsAt_4, hn, if_neg (nI_ge hi6 (by omega)), M_litOf_eq (by omega), Option.bind_some]
      simp only [zlet]
      by_cases c : x < mLit q κ i
      · have t := pT_b hx (ilt.mp c) g2 g3 g4
        have hne : ¬ mLit q κ i * mLit q κ i = 0 := by
          intro e
          rw [e] at t
          exact absurd t.1 (by decide)
        rw [if_neg (Int32.not_le.mpr c), if_pos (zin_nI (by omega) (by decide)), if_neg hne, e_M_voltsAt_50, nI_1, nI_clamp (by omega)]
        have := ih (i + 1) f (by omega) (by omega)
        rw [pV, if_pos c] at this
        exact this
      · rw [if_pos (Int32.not_lt.mp c), e_M_voltsAt_50, nI_1]
        have := ih (i + 1) f (by omega) (by omega)
        rw [pV, if_neg c] at this
        exact this
theorem M_voltsAt_eq {q n : Nat} {κ : zI} {τ : zJ} {x : Int32} (hn : κ q 9 = nI n) (hx : 0 ≤ x.toInt) (hok : pOK (mLit q κ) (κ (q + 5)) n) : E_M_voltsAt q x κ τ = some (pV (mLit q κ) (κ (q + 5)) x n, κ, τ) := by
  have h6 := hok.1
  rw [E_M_voltsAt, e_M_voltsAt_0]
  exact M_voltsAt_f hn hx hok n 0 zFuel (by omega) (by unfold zFuel; omega)
theorem M_powerAt_eq {q n : Nat} {κ : zI} {τ : zJ} {x : Int32} (hn : κ q 9 = nI n) (hx : 0 ≤ x.toInt) (hok : pOK (mLit q κ) (κ (q + 5)) n) : E_M_powerAt q x κ τ = some (pP (mLit q κ) (κ (q + 5)) n x, κ, τ) := by
  rw [E_M_powerAt, e_M_powerAt_0, M_voltsAt_eq hn hx hok, Option.bind_some]
  rfl
/-- the memory is another one only in what finding the best may change -/
def mSame (q : Nat) (κ κ' : zI) : Prop := (∀ r, r ≠ q + 7 → κ' r = κ r) ∧ ∀ k, k ≠ 143 → k ≠ 144 → k ≠ 145 → κ' (q + 7) k = κ (q + 7) k
theorem mSame.rf {q : Nat} {κ : zI} : mSame q κ κ := ⟨fun _ _ => rfl, fun _ _ _ _ => rfl⟩
theorem mSame.tr {q : Nat} {κ κ1 κ2 : zI} (h : mSame q κ κ1) (h1 : mSame q κ1 κ2) : mSame q κ κ2 := ⟨fun r hr => (h1.1 r hr).trans (h.1 r hr), fun k a b c => (h1.2 k a b c).trans (h.2 k a b c)⟩
theorem mSame.put {q k : Nat} {v : Int32} {κ κ1 : zI} (h : mSame q κ κ1) (hk : k = 143 ∨ k = 144 ∨ k = 145) : mSame q κ (zu κ1 (q + 7) k v) := by
  refine ⟨fun r hr => by rw [zu_off κ1 _ _ _ hr]; exact h.1 r hr, fun j a b c => ?_⟩
  have hj : j ≠ k := by omega
  rw [zu_eq, if_neg (fun e => hj e.2)]
  exact h.2 j a b c
theorem mSame.lit {q : Nat} {κ κ' : zI} (h : mSame q κ κ') : mLit q κ' = mLit q κ := by
  funext i
  unfold mLit
  by_cases hi : i < 6
  · rw [if_pos hi, if_pos hi, h.1 (q + 4) (by omega), h.2 (19 + i) (by omega) (by omega) (by omega)]
  · rw [if_neg hi, if_neg hi]
theorem M_finds_f {q n : Nat} {κ : zI} {τ : zJ} (hn : κ q 9 = nI n) (hok : pOK (mLit q κ) (κ (q + 5)) n) : ∀ (j k f : Nat) (κ1 : zI), k + j = 1000 → j < f → mSame q κ κ1 → κ1 (q + 7) 144 = (pB (mLit q κ) (κ (q + 5)) n k).1 → κ1 (q + 7) 143 = (pB (mLit q κ) (κ (q + 5)) n k).2 →
    ∃ κ2, f_M_finds_33 q f (nI k) κ1 τ = some (κ2, τ) ∧ mSame q κ κ2 ∧ κ2 (q + 7) 144 = (pB (mLit q κ) (κ (q + 5)) n 1000).1 ∧ κ2 (q + 7) 143 = (pB (mLit q κ) (κ (q + 5)) n 1000).2 ∧ κ2 (q + 7) 145 = 1 := by
  intro j
  induction j with
  | zero =>
    intro k f κ1 hk hf hs h1 h2
    have : k = 1000 := by omega
    subst this
    cases f with
    | zero => omega
    | succ f =>
      rw [f_M_finds_33, if_pos (show (1000 : Int32) ≤ nI 1000 by decide)]
      simp only [zlet]
      refine ⟨_, rfl, hs.put (Or.inr (Or.inr rfl)), ?_, ?_, ?_⟩
      · rw [zu_eq, if_neg (by omega)]; exact h1
      · rw [zu_eq, if_neg (by omega)]; exact h2
      · rw [zu_eq, if_pos ⟨rfl, rfl⟩]
  | succ j ih =>
    intro k f κ1 hk hf hs h1 h2
    cases f with
    | zero => omega
    | succ f =>
      have hx : 0 ≤ (nI k).toInt := by rw [nIt (by omega)]; omega
      have hl := hs.lit
      have hv : κ1 (q + 5) = κ (q + 5) := hs.1 _ (by omega)
      have hn1 : κ1 q 9 = nI n := by rw [hs.1 q (by omega)]; exact hn
      rw [f_M_finds_33, if_neg (lge (c := 1000) (k := k) 1000 rfl (by omega) (by decide)), M_powerAt_eq hn1 hx (by rw [hl, hv]; exact hok), Option.bind_some, hl, hv]
      simp only [zlet, h1]
      by_cases c : (pB (mLit q κ) (κ (q + 5)) n k).1 < pP (mLit q κ) (κ (q + 5)) n (nI k)
      · rw [if_pos c, e_M_finds_79, nI_1]
        refine ih (k + 1) f _ (by omega) (by omega) ((hs.put (Or.inr (Or.inl rfl))).put (Or.inl rfl)) ?_ ?_
        · rw [zu_eq, if_neg (by omega), zu_eq, if_pos ⟨rfl, rfl⟩, pB, if_pos c]
        · rw [zu_eq, if_pos ⟨rfl, rfl⟩, pB, if_pos c]
      · rw [if_neg c, e_M_finds_79, nI_1]
        refine ih (k + 1) f _ (by omega) (by omega) hs ?_ ?_
        · rw [pB, if_neg c]; exact h1
        · rw [pB, if_neg c]; exact h2
/-- what is known of the best is right -/
def mKn (q n : Nat) (κ : zI) : Prop := κ (q + 7) 145 = 1 → κ (q + 7) 144 = (pB (mLit q κ) (κ (q + 5)) n 1000).1 ∧ κ (q + 7) 143 = (pB (mLit q κ) (κ (q + 5)) n 1000).2
theorem M_finds_eq {q n : Nat} {κ : zI} {τ : zJ} (hn : κ q 9 = nI n) (hok : pOK (mLit q κ) (κ (q + 5)) n) (hk : mKn q n κ) : ∃ κ2, E_M_finds q κ τ = some (κ2, τ) ∧ mSame q κ κ2 ∧ κ2 (q + 7) 144 = (pB (mLit q κ) (κ (q + 5)) n 1000).1 ∧ κ2 (q + 7) 143 = (pB (mLit q κ) (κ (q + 5)) n 1000).2 ∧ κ2 (q + 7) 145 = 1 := by
  rw [E_M_finds, e_M_finds_0]
  by_cases c : κ (q + 7) 145 = 1
  · rw [if_pos c]
    exact ⟨κ, rfl, mSame.rf, (hk c).1, (hk c).2, c⟩
  · rw [if_neg c]
    simp only [zlet]
    refine M_finds_f hn hok 1000 0 zFuel _ (by omega) (by unfold zFuel; omega) ((mSame.rf.put (Or.inr (Or.inl rfl))).put (Or.inl rfl)) ?_ ?_
    · rw [zu_eq, if_neg (by omega), zu_eq, if_pos ⟨rfl, rfl⟩, pB]
    · rw [zu_eq, if_pos ⟨rfl, rfl⟩, pB]
theorem M_bestNow_eq {q n : Nat} {κ : zI} {τ : zJ} (hn : κ q 9 = nI n) (hok : pOK (mLit q κ) (κ (q + 5)) n) (hk : mKn q n κ) : ∃ κ2, E_M_bestNow q κ τ = some ((pB (mLit q κ) (κ (q + 5)) n 1000).1, κ2, τ) ∧ mSame q κ κ2 ∧ κ2 (q + 7) 144 = (pB (mLit q κ) (κ (q + 5)) n 1000).1 ∧ κ2 (q + 7) 143 = (pB (mLit q κ) (κ (q + 5)) n 1000).2 ∧ κ2 (q + 7) 145 = 1 := by
  obtain ⟨κ2, h1, h2, h3, h4, h5⟩ := M_finds_eq (τ := τ) hn hok hk
  refine ⟨κ2, ?_, h2, h3, h4, h5⟩
  rw [E_M_bestNow, e_M_bestNow_0, h1, Option.bind_some]
  show some (κ2 (q + 7) 144, κ2, τ) = _
  rw [h3]
/-! ## the class's -/
theorem C_voltsAt_f {b n : Nat} {μ : zI} {ν : zJ} {x : Int32} (hn : μ (b + 3) 0 = nI n) (hx : 0 ≤ x.toInt) (hok : pOK (μ (b + 7)) (μ (b + 5)) n) : ∀ (j i f : Nat), i + j = n → j < f → f_Panel_voltsAt_4 b f x (pV (μ (b + 7)) (μ (b + 5)) x i) (nI i) μ ν = some (pV (μ (b + 7)) (μ (b + 5)) x n, μ, ν) := by
  have h6 := hok.1
  intro j
  induction j with
  | zero =>
    intro i f hi hf
    have : i = n := by omega
    subst this
    cases f with
    | zero => omega
    | succ f => rw [f_Panel_voltsAt_4, hn, if_pos (nI_le (Nat.le_refl _) (by omega)), e_Panel_voltsAt_73]
  | succ j ih =>
    intro i f hi hf
    cases f with
    | zero => omega
    | succ f =>
      have hi6 : i < n := by omega
      obtain ⟨g1, g2, g3, g4⟩ := hok.2 i hi6
      have hz : zin (nI i) 6 = true := zin_nI (by omega) (by decide)
      rw [f_Panel_voltsAt_4, hn, if_neg (nI_ge hi6 (by omega)), if_neg (lge (c := 6) (k := i) 6 rfl (by omega) (by decide)), if_pos hz, if_pos hz]
      simp only [zlet]
      rw [if_pos hz, nI_clamp (by omega)]
      by_cases c : x < μ (b + 7) i
      · have t := pT_b hx (ilt.mp c) g2 g3 g4
        have hne : ¬ μ (b + 7) i * μ (b + 7) i = 0 := by
          intro e
          rw [e] at t
          exact absurd t.1 (by decide)
        have hne2 : ¬ μ (b + 7) i * μ (b + 7) i ≤ 0 := by
          rw [ile, show (0 : Int32).toInt = 0 from rfl]
          omega
        rw [if_neg (Int32.not_le.mpr c), if_neg hne2, if_pos hz, if_neg hne, e_Panel_voltsAt_67, nI_1]
        have := ih (i + 1) f (by omega) (by omega)
        rw [pV, if_pos c] at this
        exact this
      · rw [if_pos (Int32.not_lt.mp c), e_Panel_voltsAt_67, nI_1]
        have := ih (i + 1) f (by omega) (by omega)
        rw [pV, if_neg c] at this
        exact this
theorem C_voltsAt_eq {b n : Nat} {μ : zI} {ν : zJ} {x : Int32} (hn : μ (b + 3) 0 = nI n) (hx : 0 ≤ x.toInt) (hok : pOK (μ (b + 7)) (μ (b + 5)) n) : E_Panel_voltsAt b x μ ν = some (pV (μ (b + 7)) (μ (b + 5)) x n, μ, ν) := by
  have h6 := hok.1
  rw [E_Panel_voltsAt, e_Panel_voltsAt_0]
  exact C_voltsAt_f hn hx hok n 0 zFuel (by omega) (by unfold zFuel; omega)
/-- the greatest lit of the first k -/
def gL (lit : Nat → Int32) : Nat → Int32
  | 0 => 0
  | i + 1 => zMax (gL lit i) (lit i)
theorem zMax_t (x w : Int32) : (zMax x w).toInt = if x.toInt < w.toInt then w.toInt else x.toInt := by
  unfold zMax
  by_cases c : x < w
  · rw [if_pos c, if_pos (ilt.mp c)]
  · rw [if_neg c, if_neg (fun h => c (ilt.mpr h))]
theorem gL_b {lit : Nat → Int32} : ∀ (n k : Nat), (∀ i, i < n → 0 ≤ (lit i).toInt ∧ (lit i).toInt ≤ 999) → k ≤ n → 0 ≤ (gL lit k).toInt ∧ (gL lit k).toInt ≤ 999 ∧ ∀ i, i < k → (lit i).toInt ≤ (gL lit k).toInt := by
  intro n k h
  induction k with
  | zero =>
    intro _
    exact ⟨by show 0 ≤ (0 : Int32).toInt; decide, by show (0 : Int32).toInt ≤ 999; decide, fun i hi => by omega⟩
  | succ k ih =>
    intro hk
    obtain ⟨a, b, c⟩ := ih (by omega)
    obtain ⟨d, e⟩ := h k (by omega)
    rw [gL, zMax_t]
    by_cases t : (gL lit k).toInt < (lit k).toInt
    · rw [if_pos t]
      refine ⟨by omega, by omega, fun i hi => ?_⟩
      by_cases hik : i = k
      · subst hik; omega
      · have := c i (by omega)
        omega
    · rw [if_neg t]
      refine ⟨by omega, by omega, fun i hi => ?_⟩
      by_cases hik : i = k
      · subst hik; omega
      · exact c i (by omega)
theorem C_gL_f {b n : Nat} {μ : zI} {ν : zJ} (hn : μ (b + 3) 0 = nI n) (h6 : n ≤ 6) : ∀ (j i f : Nat), i + j = n → j < f → f_Panel_greatestLit_4 b f (gL (μ (b + 7)) i) (nI i) μ ν = some (gL (μ (b + 7)) n, μ, ν) := by
  intro j
  induction j with
  | zero =>
    intro i f hi hf
    have : i = n := by omega
    subst this
    cases f with
    | zero => omega
    | succ f => rw [f_Panel_greatestLit_4, hn, if_pos (nI_le (Nat.le_refl _) (by omega)), e_Panel_greatestLit_35]
  | succ j ih =>
    intro i f hi hf
    cases f with
    | zero => omega
    | succ f =>
      rw [f_Panel_greatestLit_4, hn, if_neg (nI_ge (show i < n by omega) (by omega)), if_neg (lge (c := 6) (k := i) 6 rfl (by omega) (by decide)), if_pos (zin_nI (show i < 6 by omega) (by decide))]
      simp only [zlet]
      rw [nI_clamp (by omega), nI_1]
      have := ih (i + 1) f (by omega) (by omega)
      rw [gL] at this
      exact this
theorem C_gL_eq {b n : Nat} {μ : zI} {ν : zJ} (hn : μ (b + 3) 0 = nI n) (h6 : n ≤ 6) : E_Panel_greatestLit b μ ν = some (gL (μ (b + 7)) n, μ, ν) := by
  rw [E_Panel_greatestLit, e_Panel_greatestLit_0]
  exact C_gL_f hn h6 n 0 zFuel (by omega) (by unfold zFuel; omega)
