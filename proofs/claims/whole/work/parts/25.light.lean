/-! lightFor: the class halves, the reference goes up. -/
theorem frac_mono {a b c d : Int} (hb : 0 < b) (hd : 0 < d) (h : a * d ≤ c * b) : a / b ≤ c / d := by
  refine Int.le_ediv_of_mul_le hd ?_
  have h1 : a / b * b ≤ a := Int.ediv_mul_le a (by omega)
  have h2 : a / b * b * d ≤ a * d := Int.mul_le_mul_of_nonneg_right h1 (by omega)
  have h3 : a / b * d * b ≤ c * b := by
    have e : a / b * d * b = a / b * b * d := by rw [Int.mul_assoc, Int.mul_comm d b, ← Int.mul_assoc]
    rw [e]
    omega
  exact Int.le_of_mul_le_mul_right h3 hb
theorem pT_mono {l l' v x : Int32} (hx : 0 ≤ x.toInt) (hl : x.toInt < l.toInt) (hll : l.toInt ≤ l'.toInt) (hl9 : l'.toInt ≤ 999) (hv : 1 ≤ v.toInt) (hv9 : v.toInt ≤ 999) : (v * (l * l - x * x) / (l * l)).toInt ≤ (v * (l' * l' - x * x) / (l' * l')).toInt := by
  have t := pT_b hx hl (by omega) hv hv9
  have t' := pT_b (l := l') hx (by omega) hl9 hv hv9
  have e1 := sq_t (a := l) (by omega) (by omega)
  have e2 := sq_t (a := l') (by omega) hl9
  have p1 : 0 < l.toInt * l.toInt := by rw [← e1]; exact t.1
  have p2 : 0 < l'.toInt * l'.toInt := by rw [← e2]; exact t'.1
  rw [t.2.1, t'.2.1]
  refine frac_mono p1 p2 ?_
  have s1 : l.toInt * l.toInt ≤ l'.toInt * l'.toInt := Int.mul_le_mul hll hll (by omega) (by omega)
  have s2 : 0 ≤ x.toInt * x.toInt := Int.mul_nonneg hx hx
  generalize l.toInt * l.toInt = A at *
  generalize l'.toInt * l'.toInt = B at *
  generalize x.toInt * x.toInt = C at *
  have s3 : C * A ≤ C * B := Int.mul_le_mul_of_nonneg_left s1 s2
  have s4 : (A - C) * B ≤ (B - C) * A := by
    rw [Int.sub_mul, Int.sub_mul, Int.mul_comm B A]
    omega
  rw [Int.mul_assoc, Int.mul_assoc]
  exact Int.mul_le_mul_of_nonneg_left s4 (by omega)
theorem pV_mono {lit lit' vo : Nat → Int32} {n : Nat} (h : pOK lit vo n) (h' : pOK lit' vo n) (hl : ∀ i, i < n → (lit i).toInt ≤ (lit' i).toInt) {x : Int32} (hx : 0 ≤ x.toInt) : ∀ k, k ≤ n → (pV lit vo x k).toInt ≤ (pV lit' vo x k).toInt := by
  intro k
  induction k with
  | zero => intro _; exact Int.le_refl _
  | succ k ih =>
    intro hk
    have h0 := ih (by omega)
    have b1 := pV_b h hx k (by omega)
    have b2 := pV_b h' hx k (by omega)
    obtain ⟨g1, g2, g3, g4⟩ := h.2 k (by omega)
    obtain ⟨g1', g2', -, -⟩ := h'.2 k (by omega)
    have hn := h.1
    have hll := hl k (by omega)
    by_cases c : x < lit k
    · have c1 := ilt.mp c
      have c' : x < lit' k := ilt.mpr (by omega)
      have t := pT_b hx c1 g2 g3 g4
      have t' := pT_b hx (ilt.mp c') g2' g3 g4
      have m := pT_mono hx c1 hll g2' g3 g4
      rw [pV, if_pos c, pV, if_pos c', iad (by omega) (by omega), iad (by omega) (by omega)]
      omega
    · by_cases c' : x < lit' k
      · have t' := pT_b hx (ilt.mp c') g2' g3 g4
        rw [pV, if_neg c, pV, if_pos c', iad (by omega) (by omega)]
        omega
      · rw [pV, if_neg c, pV, if_neg c']
        exact h0
theorem pP_mono {lit lit' vo : Nat → Int32} {n : Nat} (h : pOK lit vo n) (h' : pOK lit' vo n) (hl : ∀ i, i < n → (lit i).toInt ≤ (lit' i).toInt) {x : Int32} (hx : 0 ≤ x.toInt) (hx9 : x.toInt ≤ 999) : (pP lit vo n x).toInt ≤ (pP lit' vo n x).toInt := by
  rw [(pP_b h hx hx9).1, (pP_b h' hx hx9).1]
  refine Int.ediv_le_ediv (by decide) ?_
  exact Int.mul_le_mul_of_nonneg_left (pV_mono h h' hl hx n (Nat.le_refl _)) hx
theorem pB_mono {lit lit' vo : Nat → Int32} {n : Nat} (h : pOK lit vo n) (h' : pOK lit' vo n) (hl : ∀ i, i < n → (lit i).toInt ≤ (lit' i).toInt) : (pB lit vo n 1000).1.toInt ≤ (pB lit' vo n 1000).1.toInt := by
  obtain ⟨a, b, ⟨x, x1, x2, x3, x4⟩, d⟩ := pB_b h 1000 (Nat.le_refl _)
  obtain ⟨a', b', -, d'⟩ := pB_b h' 1000 (Nat.le_refl _)
  by_cases c : 0 < (pB lit vo n 1000).1.toInt
  · obtain ⟨y1, y2⟩ := x3 c
    rw [← y2]
    have hx : (nI x).toInt = (x : Int) := nIt (by omega)
    have m := pP_mono h h' hl (x := nI x) (by rw [hx]; omega) (by rw [hx]; omega)
    have := d' x y1
    omega
  · omega
/-- the best, were the light of module i so -/
def gV (q n : Nat) (κ : zI) (i v : Nat) : Int32 := (pB (litV (mLit q κ) (κ (q + 4)) i (nI v)) (κ (q + 5)) n 1000).1
theorem gV_q {q n : Nat} {κ κ' : zI} (h : mQ q κ κ') : gV q n κ' = gV q n κ := by
  funext i v
  rw [gV, gV, h.lit, h.1 (q + 4) (by omega) (by omega), h.1 (q + 5) (by omega) (by omega)]
theorem litV_ok {b q n i v : Nat} {μ κ : zI} (h : RP b q n μ κ) (hi : i < n) (hv : v ≤ 100) : pOK (litV (mLit q κ) (κ (q + 4)) i (nI v)) (κ (q + 5)) n := by
  have o := h.ok
  have hv1 : (nI v).toInt = (v : Int) := nIt (by omega)
  refine ⟨h.1, fun j hj => ?_⟩
  obtain ⟨o1, o2, o3, o4⟩ := o.2 j hj
  by_cases hji : j = i
  · subst hji
    obtain ⟨a1, a2, a3, a4, a5, a6⟩ := h.2.2.2.2.1 j hj
    have t := lit_b (l := nI v) a1 a2 (by omega) (by omega)
    rw [litV, if_pos rfl]
    exact ⟨t.2.1, by omega, o3, o4⟩
  · rw [litV, if_neg hji]
    exact ⟨o1, o2, o3, o4⟩
theorem gV_mono {b q n i v v' : Nat} {μ κ : zI} (h : RP b q n μ κ) (hi : i < n) (hv : v ≤ v') (hv' : v' ≤ 100) : (gV q n κ i v).toInt ≤ (gV q n κ i v').toInt := by
  refine pB_mono (litV_ok h hi (by omega)) (litV_ok h hi hv') (fun j hj => ?_)
  by_cases hji : j = i
  · subst hji
    obtain ⟨a1, a2, -, -, -, -⟩ := h.2.2.2.2.1 j hj
    have e1 : (nI v).toInt = (v : Int) := nIt (by omega)
    have e2 : (nI v').toInt = (v' : Int) := nIt (by omega)
    rw [litV, if_pos rfl, litV, if_pos rfl, (lit_b (l := nI v) a1 a2 (by omega) (by omega)).1, (lit_b (l := nI v') a1 a2 (by omega) (by omega)).1]
    refine Int.ediv_le_ediv (by decide) (Int.mul_le_mul_of_nonneg_left (by omega) (by omega))
  · rw [litV, if_neg hji, litV, if_neg hji]
    exact Int.le_refl _
theorem C_gV {q n i v : Nat} {μ κ : zI} {ν : zJ} (h : RP 4 q n μ κ) (hi : i < n) (hv : v ≤ 100) : ∃ t : Int32 × zI × zJ, E_S_bestIfLight (nI i) (nI v) μ ν = some t ∧ t.1 = gV q n κ i v ∧ (∀ r, r < 19 → t.2.1 r = μ r) ∧ t.2.2 = ν := by
  have e1 : (nI v).toInt = (v : Int) := nIt (by omega)
  obtain ⟨μ', e⟩ := C_bestIf (ν := ν) (v := nI v) h hi (by omega) (by omega)
  have f := fr_S_bestIfLight e
  exact ⟨_, e, rfl, fun r hr => f.1 r (by dsimp only; omega), rfl⟩
/-- the class's halving comes to the least light -/
theorem C_light_f {q n i : Nat} {μ κ : zI} {ν : zJ} {w : Int32} (h : RP 4 q n μ κ) (hi : i < n) : ∀ (j k lo hi2 f : Nat) (μ1 : zI), k + j = 7 → j < f → lo ≤ hi2 → hi2 ≤ 100 → hi2 - lo < 2 ^ j → w ≤ gV q n κ i hi2 → (∀ v, v < lo → ¬ w ≤ gV q n κ i v) → (∀ r, r < 19 → μ1 r = μ r) → ∃ e μ2, f_S_lightFor_43 f (nI i) w (nI lo) (nI hi2) (nI k) μ1 ν = some (nI e, μ2, ν) ∧ e ≤ 100 ∧ w ≤ gV q n κ i e ∧ ∀ v, v < e → ¬ w ≤ gV q n κ i v := by
  intro j
  induction j with
  | zero =>
    intro k lo hi2 f μ1 hk hf hle h100 hw hP hN hfr
    have : k = 7 := by omega
    subst this
    cases f with
    | zero => omega
    | succ f =>
      have e : lo = hi2 := by omega
      rw [f_S_lightFor_43, if_pos (show (7 : Int32) ≤ nI 7 by decide), e_S_lightFor_93]
      exact ⟨hi2, μ1, rfl, h100, hP, by rw [← e]; exact hN⟩
  | succ j ih =>
    intro k lo hi2 f μ1 hk hf hle h100 hw hP hN hfr
    cases f with
    | zero => omega
    | succ f =>
      rw [f_S_lightFor_43, if_neg (lge (c := 7) (k := k) 7 rfl (by omega) (by decide))]
      by_cases c : hi2 ≤ lo
      · have e : lo = hi2 := by omega
        rw [if_pos (nI_le c (by omega)), e_S_lightFor_93]
        exact ⟨hi2, μ1, rfl, h100, hP, by rw [← e]; exact hN⟩
      · rw [if_neg (nI_ge (show lo < hi2 by omega) (by omega))]
        have em : (nI lo + nI hi2) / 2 = nI ((lo + hi2) / 2) := by
          rw [nI_add, show (2 : Int32) = nI 2 from rfl, pk_div (by omega) (by decide) (by decide)]
        obtain ⟨t, g1, g2, g3, g4⟩ := C_gV (ν := ν) (v := (lo + hi2) / 2) (h.cong hfr) hi (by omega)
        simp only [zlet]
        rw [em, g1]
        simp only [Option.bind_some]
        rw [g2, g4]
        have hfr2 : ∀ r, r < 19 → t.2.1 r = μ r := fun r hr => (g3 r hr).trans (hfr r hr)
        have hp : 2 ^ (j + 1) = 2 * 2 ^ j := by rw [Nat.pow_succ, Nat.mul_comm]
        by_cases d : gV q n κ i ((lo + hi2) / 2) < w
        · rw [if_pos d, e_S_lightFor_87, nI_1, nI_1]
          refine ih (k + 1) ((lo + hi2) / 2 + 1) hi2 f t.2.1 (by omega) (by omega) (by omega) h100 (by omega) hP (fun v hv => ?_) hfr2
          have m := gV_mono h hi (show v ≤ (lo + hi2) / 2 by omega) (by omega)
          have d1 := ilt.mp d
          rw [ile]
          omega
        · rw [if_neg d, e_S_lightFor_87, nI_1]
          exact ih (k + 1) lo ((lo + hi2) / 2) f t.2.1 (by omega) (by omega) (by omega) (by omega) (by omega) (Int32.not_lt.mp d) hN hfr2
/-- the reference's going up comes to it too -/
theorem M_light_f {q n i : Nat} {μ κ : zI} {τ : zJ} {w : Int32} (h : RP 4 q n μ κ) (hi : i < n) : ∀ (j k f : Nat) (κ1 : zI), k + j = 101 → j < f → (∀ v, v < k → ¬ w ≤ gV q n κ i v) → mQ q κ κ1 → mKn q n κ1 → ∃ r κ2, f_M_lightFor_28 q f (nI i) w (nI k) κ1 τ = some (r, κ2, τ) ∧ mQ q κ κ2 ∧ mKn q n κ2 ∧ ((r = -2 ∧ ∀ v, v < 101 → ¬ w ≤ gV q n κ i v) ∨ ∃ e, r = nI e ∧ e ≤ 100 ∧ w ≤ gV q n κ i e ∧ ∀ v, v < e → ¬ w ≤ gV q n κ i v) := by
  intro j
  induction j with
  | zero =>
    intro k f κ1 hk hf hN hq hkn
    have : k = 101 := by omega
    subst this
    cases f with
    | zero => omega
    | succ f =>
      rw [f_M_lightFor_28, if_pos (show (100 : Int32) < nI 101 by decide)]
      exact ⟨-2, κ1, rfl, hq, hkn, Or.inl ⟨rfl, hN⟩⟩
  | succ j ih =>
    intro k f κ1 hk hf hN hq hkn
    cases f with
    | zero => omega
    | succ f =>
      have hx : (nI k).toInt = (k : Int) := nIt (by omega)
      have h1 := h.q hq hkn
      obtain ⟨κ2, g1, g2, g3⟩ := M_bestBy_eq (τ := τ) (v := nI k) h1 hi (by omega) (by omega)
      have hg : (pB (litV (mLit q κ1) (κ1 (q + 4)) i (nI k)) (κ1 (q + 5)) n 1000).1 = gV q n κ i k := by rw [← gV_q hq]; rfl
      rw [hg] at g1
      rw [f_M_lightFor_28, if_neg (show ¬ (100 : Int32) < nI k by rw [ilt, hx, show (100 : Int32).toInt = 100 from rfl]; omega), g1]
      simp only [Option.bind_some]
      by_cases d : gV q n κ i k < w
      · rw [if_pos d, nI_1]
        refine ih (k + 1) f κ2 (by omega) (by omega) (fun v hv => ?_) (hq.tr g2) g3
        by_cases hvk : v = k
        · subst hvk
          exact Int32.not_le.mpr d
        · exact hN v (by omega)
      · rw [if_neg d]
        exact ⟨nI k, κ2, rfl, hq.tr g2, g3, Or.inr ⟨k, rfl, by omega, Int32.not_lt.mp d, hN⟩⟩
theorem sim_lightFor {q n : Nat} {μ κ : zI} {ν τ : zJ} (h : RP 4 q n μ κ) (x w : Int32) : ∃ r μ' κ', E_S_lightFor x w μ ν = some (r, μ', ν) ∧ E_M_lightFor q x w κ τ = some (r, κ', τ) ∧ mQ q κ κ' ∧ mKn q n κ' := by
  have h0 : RP 4 q n μ (zu κ q 0 0) := h.th
  have hk0 := h0.2.2.2.2.2.2.2.2
  rw [E_S_lightFor, e_S_lightFor_0, E_M_lightFor, e_M_lightFor_0]
  simp only [zlet]
  rcases md_or x h.1 with c | ⟨i, hi, rfl⟩
  · rw [S_mod_out h.2.1 h.1 c, M_mod_out h0.2.2.1 c]
    simp only [Option.bind_some, t00, if_true, e_S_lightFor_18, e_M_lightFor_24]
    exact ⟨_, _, _, rfl, rfl, mQ.th, hk0⟩
  · rw [S_mod_in h.2.1 h.1 hi, M_mod_in h0.2.2.1 h.1 hi]
    simp only [Option.bind_some, n10, if_false]
    by_cases c0 : w < 0
    · rw [S_out (Or.inl c0), if_pos c0]
      simp only [Option.bind_some, t00, if_true, e_S_lightFor_18, e_M_lightFor_24]
      exact ⟨_, _, _, rfl, rfl, mQ.th, hk0⟩
    · rw [if_neg c0]
      by_cases c1 : w ≤ 9999999
      · rw [S_in c0 (Int32.not_lt.mpr c1), if_pos c1]
        simp only [Option.bind_some, n10, if_false]
        obtain ⟨t, g1, g2, g3, g4⟩ := C_gV (ν := ν) (v := 100) h0 hi (Nat.le_refl _)
        obtain ⟨r, κ2, m1, m2, m3, m4⟩ := M_light_f (τ := τ) (w := w) h0 hi 101 0 zFuel _ (by omega) (by unfold zFuel; omega) (fun v hv => by omega) mQ.rf hk0
        rw [show (100 : Int32) = nI 100 from rfl, g1]
        simp only [Option.bind_some]
        rw [g2, g4]
        by_cases d : w ≤ gV q n (zu κ q 0 0) i 100
        · rw [if_pos d]
          obtain ⟨e, μ2, l1, l2, l3, l4⟩ := C_light_f (ν := ν) (w := w) h0 hi 7 0 0 100 zFuel t.2.1 (by omega) (by unfold zFuel; omega) (by omega) (Nat.le_refl _) (by decide) d (fun v hv => by omega) g3
          refine ⟨nI e, μ2, κ2, l1, ?_, mQ.th.tr m2, m3⟩
          rcases m4 with ⟨-, m4⟩ | ⟨e2, m5, m6, m7, m8⟩
          · exact absurd d (m4 100 (by omega))
          · have : e = e2 := by
              rcases Nat.lt_trichotomy e e2 with a | a | a
              · exact absurd l3 (m8 e a)
              · exact a
              · exact absurd m7 (l4 e2 a)
            rw [this, ← m5]
            exact m1
        · rw [if_neg d]
          refine ⟨-2, _, κ2, rfl, ?_, mQ.th.tr m2, m3⟩
          rcases m4 with ⟨m4, -⟩ | ⟨e2, m5, m6, m7, m8⟩
          · rw [← m4]
            exact m1
          · have m := gV_mono h0 hi m6 (Nat.le_refl 100)
            exact absurd (ile.mpr (Int.le_trans (ile.mp m7) m)) d
      · rw [S_out (Or.inr (Int32.not_le.mp c1)), if_neg c1]
        simp only [Option.bind_some, t00, if_true, e_S_lightFor_18, e_M_lightFor_24]
        exact ⟨_, _, _, rfl, rfl, mQ.th, hk0⟩
