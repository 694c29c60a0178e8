/-- the tops from x on, j points: how many with m before them, up to the k-th; its point, or 1000 -/
def tpI (pw : Nat → Int32) (k : Int32) : Nat → Nat → Nat → Nat × Nat
  | 0, _, m => (m, 1000)
  | j + 1, x, m => if isT pw x = true then (if nI m = k then (m + 1, x) else tpI pw k j (x + 1) (m + 1)) else tpI pw k j (x + 1) m
theorem tp_b (pw : Nat → Int32) (k : Int32) : ∀ j x m, (tpI pw k j x m).1 ≤ m + j := by
  intro j
  induction j with
  | zero => intro x m; exact Nat.le_refl _
  | succ j ih =>
    intro x m
    rw [tpI]
    split
    · split
      · show m + 1 ≤ _; omega
      · have := ih (x + 1) (m + 1); omega
    · have := ih (x + 1) m; omega
theorem tp_fnd (pw : Nat → Int32) {k : Int32} (hk : 0 ≤ k.toInt) : ∀ j x m : Nat, x + j = 1000 → m ≤ x → (m : Int) ≤ k.toInt → ((tpI pw k j x m).2 = 1000 ∧ ((tpI pw k j x m).1 : Int) ≤ k.toInt) ∨ ((tpI pw k j x m).2 < 1000 ∧ ((tpI pw k j x m).1 : Int) = k.toInt + 1) := by
  intro j
  induction j with
  | zero => intro x m _ _ h; exact Or.inl ⟨rfl, h⟩
  | succ j ih =>
    intro x m hx hm h
    rw [tpI]
    split
    · split
      · rename_i c
        refine Or.inr ⟨by show x < 1000; omega, ?_⟩
        show ((m + 1 : Nat) : Int) = _
        rw [← c, nIt (by omega)]; omega
      · rename_i c
        have hc : (m : Int) ≠ k.toInt := fun e => c (Int32.toInt_inj.mp (by rw [nIt (by omega)]; exact e))
        exact ih (x + 1) (m + 1) (by omega) (by omega) (by omega)
    · exact ih (x + 1) m (by omega) (by omega) h
theorem nI_nm1 {m : Nat} (h : m < 2147483648) : ¬ nI m = -1 := fun e => by
  have := congrArg Int32.toInt e
  rw [nIt h, show (-1 : Int32).toInt = -1 from rfl] at this
  omega
theorem tp_neg (pw : Nat → Int32) : ∀ j x m, x + j = 1000 → m ≤ x → (tpI pw (-1) j x m).2 = 1000 := by
  intro j
  induction j with
  | zero => intro x m _ _; rfl
  | succ j ih =>
    intro x m hx hm
    rw [tpI, if_neg (nI_nm1 (m := m) (by omega))]
    split
    · exact ih (x + 1) (m + 1) (by omega) (by omega)
    · exact ih (x + 1) m (by omega) (by omega)
theorem tp_skip (pw : Nat → Int32) (k : Int32) (j : Nat) : ∀ d x m, (∀ y, x ≤ y → y < x + d → isT pw y = false) → tpI pw k (d + j) x m = tpI pw k j (x + d) m := by
  intro d
  induction d with
  | zero => intro x m _; rw [Nat.zero_add]; rfl
  | succ d ih =>
    intro x m h
    rw [show d + 1 + j = (d + j) + 1 by omega, tpI, if_neg (by rw [h x (Nat.le_refl _) (by omega)]; decide), ih (x + 1) m (fun y a b => h y (by omega) (by omega)), show x + 1 + d = x + (d + 1) by omega]
theorem C_tops_f {q n : Nat} {μ κ : zI} {ν : zJ} (h : RP 4 q n μ κ) : ∀ (j x m f : Nat), x + j = 1000 → j < f → m ≤ x → f_S_tops_4 f (nI m) (nI x) μ ν = some (nI (tpI (fun k => pP (mLit q κ) (κ (q + 5)) n (nI k)) (-1) j x m).1, μ, ν) := by
  intro j
  induction j with
  | zero =>
    intro x m f hx hf hm
    have : x = 1000 := by omega
    subst this
    cases f with
    | zero => omega
    | succ f => rw [f_S_tops_4, if_pos (show (1000 : Int32) ≤ nI 1000 by decide), tpI]
  | succ j ih =>
    intro x m f hx hf hm
    cases f with
    | zero => omega
    | succ f =>
      rw [f_S_tops_4, if_neg (lge (c := 1000) (k := x) 1000 rfl (by omega) (by decide)), ob_eq (h.topEnd (show x < 1000 by omega)), tpI, if_neg (nI_nm1 (m := m) (by omega))]
      by_cases c : isT (fun k => pP (mLit q κ) (κ (q + 5)) n (nI k)) x = true
      · rw [if_pos c, if_pos c, if_neg (nI_nm1 (Nat.lt_trans (plE_b _ (999 - x) x (by omega)).2.1 (by decide))), e_S_tops_29, nI_1, nI_1]
        exact ih (x + 1) (m + 1) f (by omega) (by omega) (by omega)
      · rw [if_neg c, if_neg c, if_pos rfl, e_S_tops_29, nI_1]
        exact ih (x + 1) m f (by omega) (by omega) (by omega)
def vTop (pw : Nat → Int32) (w : Int32) (t : Nat) : Int32 := if t = 1000 then -2 else if w = 0 then nI t else if w = 1 then pw t else nI (plE pw (999 - t) t) - nI t + 1
theorem C_top_f {q n : Nat} {μ κ : zI} {ν : zJ} {k w : Int32} (h : RP 4 q n μ κ) : ∀ (j x m f : Nat), x + j = 1000 → j < f → m ≤ x → f_S_top_20 f k w (nI m) (nI x) μ ν = some (vTop (fun k => pP (mLit q κ) (κ (q + 5)) n (nI k)) w (tpI (fun k => pP (mLit q κ) (κ (q + 5)) n (nI k)) k j x m).2, μ, ν) := by
  intro j
  induction j with
  | zero =>
    intro x m f hx hf hm
    have : x = 1000 := by omega
    subst this
    cases f with
    | zero => omega
    | succ f => rw [f_S_top_20, if_pos (show (1000 : Int32) ≤ nI 1000 by decide), tpI, vTop, if_pos rfl]
  | succ j ih =>
    intro x m f hx hf hm
    cases f with
    | zero => omega
    | succ f =>
      rw [f_S_top_20, if_neg (lge (c := 1000) (k := x) 1000 rfl (by omega) (by decide)), ob_eq (h.topEnd (show x < 1000 by omega)), zlet_eq, tpI]
      by_cases c : isT (fun k => pP (mLit q κ) (κ (q + 5)) n (nI k)) x = true
      · rw [if_pos c, if_pos c, if_neg (nI_nm1 (Nat.lt_trans (plE_b _ (999 - x) x (by omega)).2.1 (by decide)))]
        by_cases d : nI m = k
        · rw [if_pos d, if_pos d, vTop, if_neg (show ¬ x = 1000 by omega)]
          by_cases w0 : w = 0
          · rw [if_pos w0, if_pos w0, e_S_top_92]
          · rw [if_neg w0, if_neg w0]
            by_cases w1 : w = 1
            · rw [if_pos w1, if_pos w1, ob_eq (h.pw (ν := ν) (τ := fun _ _ => 0) (show x < 1000 by omega)).1, e_S_top_92]
            · rw [if_neg w1, if_neg w1, e_S_top_92]
        · rw [if_neg d, if_neg d, e_S_top_96, nI_1, nI_1]
          exact ih (x + 1) (m + 1) f (by omega) (by omega) (by omega)
      · rw [if_neg c, if_neg c, if_pos rfl, e_S_top_96, nI_1]
        exact ih (x + 1) m f (by omega) (by omega) (by omega)
/-! the reference -/
theorem M_in_f {b q n : Nat} {μ κ : zI} {τ : zJ} {r4 : Int32 → Int32 → Int32 → zI → zJ → Option (Int32 × zI × zJ)} {k c s v : Int32} (h : RP b q n μ κ) : ∀ (j e f : Nat), e + j = 999 → j < f → pP (mLit q κ) (κ (q + 5)) n (nI e) = v → f_M_topsTo_21 q r4 f k c s v (nI e) κ τ = e_M_topsTo_50 q r4 k c s v (nI (plE (fun k => pP (mLit q κ) (κ (q + 5)) n (nI k)) j e)) κ τ := by
  intro j
  induction j with
  | zero =>
    intro e f he hf hv
    have : e = 999 := by omega
    subst this
    cases f with
    | zero => omega
    | succ f => rw [f_M_topsTo_21, if_pos (show (1000 : Int32) ≤ nI 999 + 1 by decide), plE]
  | succ j ih =>
    intro e f he hf hv
    cases f with
    | zero => omega
    | succ f =>
      rw [f_M_topsTo_21, nI_1, if_neg (lge (c := 1000) (k := e + 1) 1000 rfl (by omega) (by decide)), ob_eq (h.pw (ν := fun _ _ => 0) (τ := τ) (show e + 1 < 1000 by omega)).2]
      by_cases d : pP (mLit q κ) (κ (q + 5)) n (nI (e + 1)) = v
      · rw [if_pos d, plE_y (pw := fun k => pP (mLit q κ) (κ (q + 5)) n (nI k)) (d.trans hv.symm)]
        exact ih (e + 1) f (by omega) (by omega) d
      · rw [if_neg d, plE_n (pw := fun k => pP (mLit q κ) (κ (q + 5)) n (nI k)) (fun g => d (g.trans hv))]
theorem M_50 {b q n : Nat} {μ κ : zI} {τ : zJ} {r4 : Int32 → Int32 → Int32 → zI → zJ → Option (Int32 × zI × zJ)} {k c : Int32} (h : RP b q n μ κ) {x : Nat} (h0 : 0 < x) (hx : x < 1000) : e_M_topsTo_50 q r4 k c (nI x) (pP (mLit q κ) (κ (q + 5)) n (nI x)) (nI (plE (fun k => pP (mLit q κ) (κ (q + 5)) n (nI k)) (999 - x) x)) κ τ = e_M_topsTo_88 q r4 k c (nI x) (pP (mLit q κ) (κ (q + 5)) n (nI x)) (nI (plE (fun k => pP (mLit q κ) (κ (q + 5)) n (nI k)) (999 - x) x)) (if isT (fun k => pP (mLit q κ) (κ (q + 5)) n (nI k)) x = true then 1 else 0) κ τ := by
  have he := (plE_b (fun k => pP (mLit q κ) (κ (q + 5)) n (nI k)) (999 - x) x (by omega)).2.1
  have z : 0 ≤ (pP (mLit q κ) (κ (q + 5)) n (nI (x - 1))).toInt := h.p0 (x - 1) (by omega)
  rw [e_M_topsTo_50, nI_m1 h0, ob_eq (h.pw (ν := fun _ _ => 0) (τ := τ) (show x - 1 < 1000 by omega)).2]
  unfold isT dnC
  rw [if_pos h0]
  generalize hE : plE (fun k => pP (mLit q κ) (κ (q + 5)) n (nI k)) (999 - x) x = e at *
  by_cases d : pP (mLit q κ) (κ (q + 5)) n (nI x) ≤ pP (mLit q κ) (κ (q + 5)) n (nI (x - 1))
  · rw [if_pos d, decide_eq_false (Int32.not_lt.mpr d), Bool.false_and, if_neg (by decide), e_M_topsTo_87]
  · rw [if_neg d, decide_eq_true (Int32.not_le.mp d), Bool.true_and]
    have d' := ilt.mp (Int32.not_le.mp d)
    by_cases c9 : e = 999
    · subst c9
      rw [if_pos (show nI 999 = 999 by decide), decide_eq_false (by rw [upC, if_neg (by decide)]; exact fun g => by have : (pP (mLit q κ) (κ (q + 5)) n (nI x)).toInt ≤ (0 : Int32).toInt := ile.mp g; rw [show (0 : Int32).toInt = 0 from rfl] at this; omega), if_pos (by decide), e_M_topsTo_83]
    · rw [if_neg (show ¬ nI e = 999 from fun g => by have := congrArg Int32.toInt g; rw [nIt (by omega), show (999 : Int32).toInt = 999 from rfl] at this; omega), nI_1, ob_eq (h.pw (ν := fun _ _ => 0) (τ := τ) (show e + 1 < 1000 by omega)).2, upC, if_pos (show e + 1 < 1000 by omega)]
      by_cases g : pP (mLit q κ) (κ (q + 5)) n (nI x) ≤ pP (mLit q κ) (κ (q + 5)) n (nI (e + 1))
      · rw [if_pos g, decide_eq_true g, if_neg (by decide), e_M_topsTo_87]
      · rw [if_neg g, decide_eq_false g, if_pos (by decide), e_M_topsTo_83]
theorem M_tops_f {b q n : Nat} {μ κ : zI} {τ : zJ} {k : Int32} (h : RP b q n μ κ) : ∀ (N j x m f : Nat), j ≤ N → x + j = 1000 → 0 < x → j < f → m ≤ x → ∃ κ', f_M_topsTo_4 q f k (nI m) (nI x) κ τ = some (nI (tpI (fun k => pP (mLit q κ) (κ (q + 5)) n (nI k)) k j x m).1, κ', τ) ∧ mQ q κ κ' ∧ (∀ i, κ' (q + 7) i = κ (q + 7) i) ∧ ((tpI (fun k => pP (mLit q κ) (κ (q + 5)) n (nI k)) k j x m).2 < 1000 → κ' q 33 = nI (tpI (fun k => pP (mLit q κ) (κ (q + 5)) n (nI k)) k j x m).2 ∧ κ' q 34 = nI (plE (fun k => pP (mLit q κ) (κ (q + 5)) n (nI k)) (999 - (tpI (fun k => pP (mLit q κ) (κ (q + 5)) n (nI k)) k j x m).2) (tpI (fun k => pP (mLit q κ) (κ (q + 5)) n (nI k)) k j x m).2) - nI (tpI (fun k => pP (mLit q κ) (κ (q + 5)) n (nI k)) k j x m).2 + 1) := by
  have hF := zFuel_1001
  intro N
  induction N with
  | zero =>
    intro j x m f hj hx h0 hf hm
    have : x = 1000 := by omega
    subst this
    have : j = 0 := by omega
    subst this
    cases f with
    | zero => omega
    | succ f =>
      refine ⟨κ, ?_, mQ.rf, fun _ => rfl, fun g => absurd g (by rw [tpI]; exact Nat.lt_irrefl 1000)⟩
      rw [f_M_topsTo_4, if_pos (show (1000 : Int32) ≤ nI 1000 by decide), tpI]
  | succ N ih =>
    intro j x m f hj hx h0 hf hm
    by_cases hx1 : x = 1000
    · exact ih j x m f (by omega) hx h0 hf hm
    · obtain ⟨j, rfl⟩ : ∃ i, j = i + 1 := ⟨j - 1, by omega⟩
      cases f with
      | zero => omega
      | succ f =>
        have he := plE_b (fun k => pP (mLit q κ) (κ (q + 5)) n (nI k)) (999 - x) x (by omega)
        have hin := plE_in (fun k => pP (mLit q κ) (κ (q + 5)) n (nI k)) (999 - x) x (by omega)
        rw [f_M_topsTo_4, if_neg (lge (c := 1000) (k := x) 1000 rfl (by omega) (by decide)), ob_eq (h.pw (ν := fun _ _ => 0) (τ := τ) (show x < 1000 by omega)).2, zlet_eq, M_in_f h (999 - x) x zFuel (by omega) (by omega) rfl, M_50 h h0 (by omega), e_M_topsTo_88]
        generalize hE : plE (fun k => pP (mLit q κ) (κ (q + 5)) n (nI k)) (999 - x) x = e at *
        have hsk : ∀ m', tpI (fun k => pP (mLit q κ) (κ (q + 5)) n (nI k)) k j (x + 1) m' = tpI (fun k => pP (mLit q κ) (κ (q + 5)) n (nI k)) k (999 - e) (e + 1) m' := by
          intro m'
          have := tp_skip (fun k => pP (mLit q κ) (κ (q + 5)) n (nI k)) k (999 - e) (e - x) (x + 1) m' (fun y a c => isT_no (hin y (by omega) (by omega)) (by omega))
          rw [show e - x + (999 - e) = j by omega, show x + 1 + (e - x) = e + 1 by omega] at this
          exact this
        by_cases c : isT (fun k => pP (mLit q κ) (κ (q + 5)) n (nI k)) x = true
        · rw [if_pos c, if_neg one_ne_0, tpI, if_pos c]
          by_cases d : nI m = k
          · rw [if_pos d, if_pos d, zlet_eq, zlet_eq, nI_1]
            refine ⟨_, rfl, ⟨fun r a c => ?_, fun i a c d => ?_, fun i a c d => ?_⟩, fun i => ?_, fun _ => ⟨?_, ?_⟩⟩
            · funext i; rw [zu_off _ _ _ _ a, zu_off _ _ _ _ a]
            · rw [zu_eq, if_neg (fun e => d e.2), zu_eq, if_neg (fun e => c e.2)]
            · rw [zu_eq, if_neg (by omega), zu_eq, if_neg (by omega)]
            · rw [zu_eq, if_neg (by omega), zu_eq, if_neg (by omega)]
            · rw [zu_eq, if_neg (by omega), zu_eq, if_pos ⟨rfl, rfl⟩]
            · rw [zu_eq, if_pos ⟨rfl, rfl⟩]
              show _ = nI (plE _ (999 - x) x) - nI x + 1
              rw [hE]
          · rw [if_neg d, if_neg d, e_M_topsTo_119, if_neg one_ne_0, e_M_topsTo_130, zlet_eq, zlet_eq, nI_1, nI_1, hsk]
            exact ih (999 - e) (e + 1) (m + 1) f (by omega) (by omega) (by omega) (by omega) (by omega)
        · rw [if_neg c, if_pos rfl, e_M_topsTo_119, if_pos rfl, e_M_topsTo_130, zlet_eq, zlet_eq, nI_1, tpI, if_neg c, hsk, show nI m + 0 = nI m from Int32.add_zero _]
          exact ih (999 - e) (e + 1) m f (by omega) (by omega) (by omega) (by omega) (by omega)
theorem RP.tp0 {b q n : Nat} {μ κ : zI} (h : RP b q n μ κ) (k : Int32) : tpI (fun k => pP (mLit q κ) (κ (q + 5)) n (nI k)) k 1000 0 0 = tpI (fun k => pP (mLit q κ) (κ (q + 5)) n (nI k)) k 999 1 0 := by
  have e0 : pP (mLit q κ) (κ (q + 5)) n (nI 0) = 0 := by
    show (0 : Int32) * _ / 10 = 0
    rw [Int32.zero_mul]; rfl
  rw [show (1000 : Nat) = 999 + 1 from rfl, tpI, if_neg]
  unfold isT dnC
  rw [if_neg (Nat.lt_irrefl 0), decide_eq_false (show ¬ (0 : Int32) < pP (mLit q κ) (κ (q + 5)) n (nI 0) by rw [e0]; decide), Bool.false_and]
  decide
theorem sim_tops {q n : Nat} {μ κ : zI} {ν τ : zJ} (h : RP 4 q n μ κ) : ∃ r κ', E_S_tops μ ν = some (r, μ, ν) ∧ E_M_tops q κ τ = some (r, κ', τ) ∧ mQ q κ κ' ∧ mKn q n κ' := by
  have h0 : RP 4 q n μ (zu κ q 0 0) := h.th
  have hF := zFuel_1001
  have e1 := C_tops_f (ν := ν) h0 1000 0 0 zFuel (by omega) (by omega) (by omega)
  obtain ⟨κ2, e2, g2, g3, -⟩ := M_tops_f (τ := τ) (k := -1) h0 999 999 1 0 zFuel (by omega) (by omega) (by omega) (by omega) (by omega)
  rw [h0.tp0] at e1
  rw [show nI 0 = (0 : Int32) by decide, show nI 1 = (1 : Int32) by decide] at e2
  generalize nI (tpI (fun k => pP (mLit q (zu κ q 0 0)) (zu κ q 0 0 (q + 5)) n (nI k)) (-1) 999 1 0).1 = r at e1 e2
  refine ⟨r, κ2, ?_, ?_, mQ.th.tr g2, h0.2.2.2.2.2.2.2.2.q g2 (fun k _ => g3 k)⟩
  · rw [E_S_tops, e_S_tops_0]
    exact e1
  · rw [E_M_tops, e_M_tops_0, zlet_eq, E_M_topsTo, e_M_topsTo_0, ob_eq e2]
theorem sim_top {q n : Nat} {μ κ : zI} {ν τ : zJ} (h : RP 4 q n μ κ) (k w : Int32) : ∃ r κ', E_S_top k w μ ν = some (r, μ, ν) ∧ E_M_top q k w κ τ = some (r, κ', τ) ∧ mQ q κ κ' ∧ mKn q n κ' := by
  have h0 : RP 4 q n μ (zu κ q 0 0) := h.th
  have hk0 := h0.2.2.2.2.2.2.2.2
  have hF := zFuel_1001
  rw [E_S_top, e_S_top_0, E_M_top, e_M_top_0, zlet_eq]
  by_cases c : k < 0
  · rw [if_pos c, if_pos c, e_S_top_13, e_M_top_18]
    exact ⟨_, _, rfl, rfl, mQ.th, hk0⟩
  · rw [if_neg c, if_neg c]
    by_cases c0 : w < 0
    · rw [if_pos c0, ob_eq (S_out (Or.inl c0)), if_pos rfl, e_S_top_13, e_M_top_18]
      exact ⟨_, _, rfl, rfl, mQ.th, hk0⟩
    · rw [if_neg c0]
      by_cases c2 : w ≤ 2
      · rw [if_pos c2, ob_eq (S_in c0 (Int32.not_lt.mpr c2)), if_neg one_ne_0]
        have e1 := C_top_f (ν := ν) (k := k) (w := w) h0 1000 0 0 zFuel (by omega) (by omega) (by omega)
        obtain ⟨κ2, e2, g2, g3, g4⟩ := M_tops_f (τ := τ) (k := k) h0 999 999 1 0 zFuel (by omega) (by omega) (by omega) (by omega) (by omega)
        have hr : RP 4 q n μ κ2 := h0.q g2 (hk0.q g2 (fun k _ => g3 k))
        have hk : 0 ≤ k.toInt := by
          have := ile.mp (Int32.not_lt.mp c)
          rw [show (0 : Int32).toInt = 0 from rfl] at this
          exact this
        have hfd := tp_fnd (fun k => pP (mLit q (zu κ q 0 0)) (zu κ q 0 0 (q + 5)) n (nI k)) hk 999 1 0 (by omega) (by omega) (by omega)
        have hb := tp_b (fun k => pP (mLit q (zu κ q 0 0)) (zu κ q 0 0 (q + 5)) n (nI k)) k 999 1 0
        rw [h0.tp0] at e1
        rw [show nI 0 = (0 : Int32) by decide, show nI 1 = (1 : Int32) by decide] at e2
        rw [E_M_topsTo, e_M_topsTo_0, ob_eq e2]
        generalize tpI (fun k => pP (mLit q (zu κ q 0 0)) (zu κ q 0 0 (q + 5)) n (nI k)) k 999 1 0 = t at *
        rcases hfd with ⟨a, d⟩ | ⟨a, d⟩
        · rw [if_neg (show ¬ k < nI t.1 from fun g => by have := ilt.mp g; rw [nIt (by omega)] at this; omega)]
          refine ⟨-2, κ2, ?_, rfl, mQ.th.tr g2, hr.2.2.2.2.2.2.2.2⟩
          refine Eq.trans e1 ?_
          rw [vTop, if_pos a]
        · rw [if_pos (show k < nI t.1 from ilt.mpr (by rw [nIt (by omega)]; omega))]
          have g5 := g4 a
          refine ⟨_, κ2, e1, ?_, mQ.th.tr g2, hr.2.2.2.2.2.2.2.2⟩
          rw [vTop, if_neg (show ¬ t.2 = 1000 by omega)]
          by_cases w0 : w = 0
          · rw [if_pos w0, if_pos w0, e_M_top_63]
            show some (κ2 q 33, κ2, τ) = _
            rw [g5.1]
          · rw [if_neg w0, if_neg w0]
            by_cases w1 : w = 1
            · rw [if_pos w1, if_pos w1]
              show Option.bind (E_M_powerAt q (κ2 q 33) κ2 τ) _ = _
              rw [g5.1, ob_eq (hr.pw (ν := fun _ _ => 0) (τ := τ) a).2, e_M_top_63]
              show some (pP (mLit q κ2) (κ2 (q + 5)) n (nI t.2), κ2, τ) = some (pP _ _ n (nI t.2), κ2, τ)
              rw [g2.lit, g2.1 (q + 5) (by omega) (by omega)]
            · rw [if_neg w1, if_neg w1, e_M_top_63]
              show some (κ2 q 34, κ2, τ) = _
              rw [g5.2]
      · rw [if_neg c2, ob_eq (S_out (Or.inr (Int32.not_le.mp c2))), if_pos rfl, e_S_top_13, e_M_top_18]
        exact ⟨_, _, rfl, rfl, mQ.th, hk0⟩
