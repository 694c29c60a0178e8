/-! What a line settles. -/
def tbits (b0 b1 b2 b3 b4 : Bool) : Int32 := (if b0 then 1 else 0) ||| (if b1 then 4 else 0) ||| (if b2 then 128 else 0) ||| (if b3 then 4096 else 0) ||| (if b4 then 131072 else 0)
def tB (B : Nat → Bool) : Int32 := tbits (B 0) (B 1) (B 2) (B 3) (B 4)
def cB (B : Nat → Bool) : Nat := (B 0).toNat + (B 1).toNat + (B 2).toNat + (B 3).toNat + (B 4).toNat
def bit1 (w : Nat) : Int32 := ([1, 4, 128, 4096, 131072] : List Int32).getD w 0
def setB (B : Nat → Bool) (w : Nat) : Nat → Bool := fun j => if j = w then true else B j
theorem w5 {w : Nat} (h : w < 5) : w = 0 ∨ w = 1 ∨ w = 2 ∨ w = 3 ∨ w = 4 := by omega
theorem tB_get {B : Nat → Bool} {w : Nat} (h : w < 5) : tB B &&& bit1 w = 0 ↔ B w = false := by
  unfold tB
  rcases w5 h with rfl | rfl | rfl | rfl | rfl
  all_goals
    generalize B 0 = b0
    generalize B 1 = b1
    generalize B 2 = b2
    generalize B 3 = b3
    generalize B 4 = b4
    revert b0 b1 b2 b3 b4
    decide
theorem tB_set {B : Nat → Bool} {w : Nat} (h : w < 5) : tB B ||| bit1 w = tB (setB B w) := by
  unfold tB setB
  rcases w5 h with rfl | rfl | rfl | rfl | rfl
  all_goals
    generalize B 0 = b0
    generalize B 1 = b1
    generalize B 2 = b2
    generalize B 3 = b3
    generalize B 4 = b4
    revert b0 b1 b2 b3 b4
    decide
theorem tB_zero {B : Nat → Bool} : tB B = 0 ↔ cB B = 0 := by
  unfold tB cB
  generalize B 0 = b0
  generalize B 1 = b1
  generalize B 2 = b2
  generalize B 3 = b3
  generalize B 4 = b4
  revert b0 b1 b2 b3 b4
  decide
theorem cB_5 {B : Nat → Bool} : cB B ≤ 5 := by
  unfold cB
  generalize B 0 = b0
  generalize B 1 = b1
  generalize B 2 = b2
  generalize B 3 = b3
  generalize B 4 = b4
  revert b0 b1 b2 b3 b4
  decide
theorem cB_set {B : Nat → Bool} {w : Nat} (h : w < 5) (hw : B w = false) : cB (setB B w) = cB B + 1 := by
  unfold cB setB
  rcases w5 h with rfl | rfl | rfl | rfl | rfl
  all_goals
    revert hw
    generalize B 0 = b0
    generalize B 1 = b1
    generalize B 2 = b2
    generalize B 3 = b3
    generalize B 4 = b4
    revert b0 b1 b2 b3 b4
    decide
/-- told and charge alike -/
def JT (q : Nat) (μ κ : zI) : Prop := (∀ k, k < 19 → μ (19 + 2) k = κ (q + 2) k ∧ tLO.getD k 0 ≤ (κ (q + 2) k).toInt ∧ (κ (q + 2) k).toInt ≤ tHI.getD k 0) ∧ μ (19 + 12) 0 = κ q 5 ∧ 0 ≤ (κ q 5).toInt ∧ (κ q 5).toInt ≤ (κ (q + 2) 0).toInt
def sC (μ μ' : zI) : Prop := (∀ r, r ≠ 3 → r ≠ 19 + 2 → r ≠ 19 + 12 → μ' r = μ r) ∧ μ' 3 7 = μ 3 7 ∧ ∀ k, k ≠ 0 → μ' (19 + 12) k = μ (19 + 12) k
def sM (q : Nat) (κ κ' : zI) : Prop := (∀ r, r ≠ q → r ≠ q + 2 → κ' r = κ r) ∧ ∀ k, k ≠ 5 → k < 15 ∨ 20 < k → κ' q k = κ q k
theorem sC.rf {μ : zI} : sC μ μ := ⟨fun _ _ _ _ => rfl, rfl, fun _ _ => rfl⟩
theorem sM.rf {q : Nat} {κ : zI} : sM q κ κ := ⟨fun _ _ _ => rfl, fun _ _ _ => rfl⟩
theorem sC.tr {μ μ1 μ2 : zI} (h : sC μ μ1) (g : sC μ1 μ2) : sC μ μ2 := ⟨fun r a b c => (g.1 r a b c).trans (h.1 r a b c), g.2.1.trans h.2.1, fun k a => (g.2.2 k a).trans (h.2.2 k a)⟩
theorem sM.tr {q : Nat} {κ κ1 κ2 : zI} (h : sM q κ κ1) (g : sM q κ1 κ2) : sM q κ κ2 := ⟨fun r a b => (g.1 r a b).trans (h.1 r a b), fun k a b => (g.2 k a b).trans (h.2 k a b)⟩
theorem pC.s {μ μ' : zI} (h : pC μ μ') : sC μ μ' := ⟨fun r a _ _ => h.1 r a, h.2, fun k _ => by rw [h.1 _ (by decide)]⟩
theorem pM.s {q : Nat} {κ κ' : zI} (h : pM q κ κ') : sM q κ κ' := ⟨fun r a _ => h.1 r a, fun k _ b => h.2 k b⟩
theorem TC.s {L : Nat} {t : Nat → Int32} {μ μ' : zI} (h : TC L t μ) (g : sC μ μ') : TC L t μ' := h.fr (g.1 1 (by decide) (by decide) (by decide)) (g.1 2 (by decide) (by decide) (by decide))
theorem TM.s {q L : Nat} {t : Nat → Int32} {κ κ' : zI} (h : TM q L t κ) (g : sM q κ κ') : TM q L t κ' := h.fr (g.1 _ (by omega) (by omega)) (g.2 14 (by decide) (by decide))
theorem CT.fr {L s : Nat} {t : Nat → Int32} {μ μ' : zI} (h : CT L t s μ) (e : μ' 3 = μ 3) : CT L t s μ' := by
  unfold CT
  rw [e]
  exact h
theorem T0.fr {q L s : Nat} {t : Nat → Int32} {μ μ' κ κ' : zI} (h : T0 q L t s μ κ) (e : μ' 3 = μ 3) (g : ∀ k, 15 ≤ k → k ≤ 19 → κ' q k = κ q k) : T0 q L t s μ' κ' := by
  unfold T0 CT
  rw [e, g 15 (by omega) (by omega), g 16 (by omega) (by omega), g 17 (by omega) (by omega), g 18 (by omega) (by omega), g 19 (by omega) (by omega)]
  exact h
theorem K0.fr {q L : Nat} {t : Nat → Int32} {μ μ' κ κ' : zI} (h : K0 q L t μ κ) (e : μ' 3 = μ 3) (g : ∀ k, 19 ≤ k → k ≤ 20 → κ' q k = κ q k) : K0 q L t μ' κ' := by
  unfold K0 CT
  rw [e, g 19 (by omega) (by omega), g 20 (by omega) (by omega)]
  exact h
theorem C_least {k : Nat} {μ : zI} {ν : zJ} (h : k < 19) : E_Told_leastOf (nI k) μ ν = some (tl k, μ, ν) := by
  rw [E_Told_leastOf, e_Told_leastOf_0, if_neg (nI_pos (by omega)), if_neg (lge (c := 19) (k := k) 19 rfl h (by decide)), if_pos (zin_nI h (by decide)), nI_clamp (by omega), e_Told_leastOf_19]
  rfl
theorem C_most {k : Nat} {μ : zI} {ν : zJ} (h : k < 19) : E_Told_mostOf (nI k) μ ν = some (tm k, μ, ν) := by
  rw [E_Told_mostOf, e_Told_mostOf_0, if_neg (nI_pos (by omega)), if_neg (lge (c := 19) (k := k) 19 rfl h (by decide)), if_pos (zin_nI h (by decide)), nI_clamp (by omega), e_Told_mostOf_19]
  rfl
theorem tl_0 : ∀ k, k < 19 → 0 ≤ (tl k).toInt := by decide
theorem tm_9 : ∀ k, k < 19 → (tm k).toInt ≤ 99999 := by decide
/-- one of them read -/
theorem set_T {q L s k : Nat} {t : Nat → Int32} {μ κ : zI} {ν τ : zJ} {hi : Int32} {r66 : Nat → Int32 → Int32 → zI → zJ → Option (zI × zJ)} {n2 : Nat} {x3 : Int32} (h : T0 q L t s μ κ) (hC : TC L t μ) (hM : TM q L t κ) (hJ : JT q μ κ) (hk : k < 19) (h9 : hi.toInt ≤ tHI.getD k 0) (h99 : hi.toInt ≤ 99999) (h0 : k = 0 → κ q 5 = 0) : ∃ b μ' κ', e_Reader_readSettings_130 r66 n2 x3 (nI k) hi μ ν = r66 n2 x3 (nI (k + 1)) μ' ν ∧ E_M_numeral q (tl k) hi κ τ = some (b, κ', τ) ∧ sC μ μ' ∧ sM q κ (zu κ' (q + 2) k b) ∧ (zu κ' (q + 2) k b) q 5 = κ q 5 ∧ μ' (19 + 12) 0 = μ (19 + 12) 0 ∧ ((∃ s', s ≤ s' ∧ T0 q L t s' μ' (zu κ' (q + 2) k b) ∧ JT q μ' (zu κ' (q + 2) k b)) ∨ K0 q L t μ' (zu κ' (q + 2) k b)) := by
  obtain ⟨a, b, μ1, κ1, a1, a2, a3, a4, a5⟩ := h.num (ν := ν) (τ := τ) (x1 := tl k) (x2 := hi) hC hM (tl_0 k hk) h99
  have eb := tkE_b (t := t) h.1.1
  refine ⟨b, zu μ1 (19 + 2) k a, κ1, ?_, a2, ⟨fun r r3 r2 r12 => by rw [zgr r2, a3.1 r r3], by rw [zgr (by decide)]; exact a3.2, fun j _ => by rw [zgr (by decide), a3.1 _ (by decide)]⟩, ⟨fun r rq r2 => by rw [zgr r2, a4.1 r rq], fun j j5 jj => by rw [zgr (by omega), a4.2 j jj]⟩, by rw [zgr (by omega), a4.2 5 (by decide)], by rw [zgr (by decide), a3.1 _ (by decide)], ?_⟩
  · rw [e_Reader_readSettings_130, ob_eq (C_least hk), ob_eq a1, ob_eq (C_put hk), nI_1]
  · rcases a5 with ⟨s', b1, b2, b3, b4, b5⟩ | b
    · refine Or.inl ⟨s', by omega, b2.fr (zgr (by decide)) (fun j _ _ => by rw [zgr (by omega)]), fun j hj => ?_, ?_, ?_, ?_⟩
      · by_cases e : j = k
        · subst e
          rw [zgh, zgh, ← b3]
          rw [tl_t j hj] at b4
          exact ⟨rfl, b4, by omega⟩
        · rw [zgk e, zgk e, a3.1 _ (by decide), a4.1 _ (by omega)]
          exact hJ.1 j hj
      · rw [zgr (by decide), zgr (by omega), a3.1 _ (by decide), a4.2 5 (by decide)]
        exact hJ.2.1
      · rw [zgr (by omega), a4.2 5 (by decide)]
        exact hJ.2.2.1
      · rw [zgr (by omega), a4.2 5 (by decide)]
        by_cases e : k = 0
        · subst e
          rw [zgh, h0 rfl, ← b3]
          have z : (0 : Int32).toInt = 0 := rfl
          have := tl_0 0 (by decide)
          omega
        · rw [zgk (fun g => e g.symm), a4.1 _ (by omega)]
          exact hJ.2.2.2
    · exact Or.inr (b.fr (zgr (by decide)) (fun j _ _ => by rw [zgr (by omega)]))
theorem tells_K {q : Nat} {τ : zJ} {x1 : Int32} {e : Nat} (he : e < 19) : ∀ (d k f : Nat) (κ : zI), k + d = e + 1 → (∀ j, k ≤ j → j ≤ e → j ≠ 3) → d < f → ¬ κ q 19 = 0 → ∃ κ', f_M_tells_2 q f x1 (nI e) (nI k) κ τ = some (κ', τ) ∧ (∀ r, r ≠ q + 2 → κ' r = κ r) := by
  intro d
  induction d with
  | zero =>
    intro k f κ hk h3 hf hq
    obtain ⟨f, rfl⟩ : ∃ i, f = i + 1 := ⟨f - 1, by omega⟩
    exact ⟨κ, by rw [f_M_tells_2, if_pos (nI_lt (by omega) (by omega))], fun _ _ => rfl⟩
  | succ d ih =>
    intro k f κ hk h3 hf hq
    obtain ⟨f, rfl⟩ : ∃ i, f = i + 1 := ⟨f - 1, by omega⟩
    obtain ⟨κ', a1, a2⟩ := ih (k + 1) f (zu κ (q + 2) k (tl k)) (by omega) (fun j h1 h2 => h3 j (by omega) h2) (by omega) (by rw [zgr (by omega)]; exact hq)
    refine ⟨κ', ?_, fun r h => (a2 r h).trans (zgr h)⟩
    rw [f_M_tells_2, if_neg (nI_nlt (by omega) (by omega)), ob_eq (M_least k (by omega)), ob_eq (M_most k (by omega) (h3 k (by omega) (by omega))), show E_M_numeral q (tl k) (tm k) κ τ = some (tl k, κ, τ) by rw [E_M_numeral, e_M_numeral_0, if_neg hq], Option.bind_some, if_pos (zin_nI (by omega) (by decide)), zlet_eq, nI_clamp (by omega), nI_1]
    exact a1
def fst5 (w : Nat) : Nat := ([0, 2, 7, 12, 17] : List Nat).getD w 0
def lst5 (w : Nat) : Nat := ([1, 6, 11, 16, 18] : List Nat).getD w 0
theorem wf_f : ∀ w, w < 5 → ((zWf.getD 1 ("", "", "", [])).2.2.2).getD (ix w) 0 = nI (fst5 w) ∧ ((zWf.getD 2 ("", "", "", [])).2.2.2).getD (ix w) 0 = nI (lst5 w) ∧ ix w < 11 ∧ lst5 w < 19 ∧ (1 : Int32) <<< (nI (fst5 w) &&& 31) = bit1 w := by decide
/-- the class's loop ends where a fault is -/
theorem f66_K {w f : Nat} {x3 x4 : Int32} {μ : zI} {ν : zJ} (hw : w < 5) (h : ¬ μ 3 0 = 0) : f_Reader_readSettings_66 (f + 1) (ix w) x3 x4 μ ν = some (μ, ν) := by
  obtain ⟨a1, a2, a3, a4, a5⟩ := wf_f w hw
  rw [f_Reader_readSettings_66, if_pos (decide_eq_true a3), if_neg h, e_Reader_readSettings_158, ite_self]
theorem f66_E {w f : Nat} {x3 : Int32} {μ : zI} {ν : zJ} (hw : w < 5) : f_Reader_readSettings_66 (f + 1) (ix w) x3 (nI (lst5 w + 1)) μ ν = some (μ, ν) := by
  obtain ⟨a1, a2, a3, a4, a5⟩ := wf_f w hw
  rw [f_Reader_readSettings_66, if_pos (decide_eq_true a3), a2, if_pos (nI_lt (by omega) (by omega)), e_Reader_readSettings_158]
theorem f66_S {w f k : Nat} {x3 : Int32} {μ : zI} {ν : zJ} (hw : w < 5) (hk : k ≤ lst5 w) (h1 : k ≠ 1) (h0 : μ 3 0 = 0) : f_Reader_readSettings_66 (f + 1) (ix w) x3 (nI k) μ ν = e_Reader_readSettings_108 (f_Reader_readSettings_66 f) (ix w) x3 (nI k) μ ν := by
  obtain ⟨a1, a2, a3, a4, a5⟩ := wf_f w hw
  rw [f_Reader_readSettings_66, if_pos (decide_eq_true a3), a2, if_neg (nI_nlt (by omega) (by omega)), if_pos h0, if_neg (show ¬ nI k = 1 from fun e => h1 ((nI_eq (b := 1) (by omega) (by decide)).mp e))]
theorem e108_n {f w k : Nat} {x3 : Int32} {μ : zI} {ν : zJ} {r66 : Nat → Int32 → Int32 → zI → zJ → Option (zI × zJ)} (hk : k < 19) (h3 : k ≠ 3) : e_Reader_readSettings_108 r66 w x3 (nI k) μ ν = e_Reader_readSettings_130 r66 w x3 (nI k) (tm k) μ ν := by
  rw [e_Reader_readSettings_108, if_neg (show ¬ nI k = 3 from fun e => h3 ((nI_eq (b := 3) (by omega) (by decide)).mp e)), ob_eq (C_most hk)]
/-- several read, none of them the charge or the low -/
theorem tells_T {q L w e : Nat} {t : Nat → Int32} {ν τ : zJ} {x1 x3 : Int32} (hw : w < 5) (he : e ≤ lst5 w) : ∀ (d k f g s : Nat) (μ κ : zI), k + d = e + 1 → (∀ j, k ≤ j → j ≤ e → j ≠ 1 ∧ j ≠ 3 ∧ j ≠ 0) → d + 1 < f → d < g → T0 q L t s μ κ → TC L t μ → TM q L t κ → JT q μ κ → ∃ μ' κ', f_M_tells_2 q g x1 (nI e) (nI k) κ τ = some (κ', τ) ∧ sC μ μ' ∧ sM q κ κ' ∧ κ' q 5 = κ q 5 ∧ μ' (19 + 12) 0 = μ (19 + 12) 0 ∧ ((∃ s', s ≤ s' ∧ f_Reader_readSettings_66 f (ix w) x3 (nI k) μ ν = f_Reader_readSettings_66 (f - d) (ix w) x3 (nI (e + 1)) μ' ν ∧ T0 q L t s' μ' κ' ∧ JT q μ' κ') ∨ (f_Reader_readSettings_66 f (ix w) x3 (nI k) μ ν = some (μ', ν) ∧ K0 q L t μ' κ')) := by
  obtain ⟨w1, w2, w3, w4, w5'⟩ := wf_f w hw
  intro d
  induction d with
  | zero =>
    intro k f g s μ κ hk hn hf hg hT hC hM hJ
    obtain ⟨g, rfl⟩ : ∃ i, g = i + 1 := ⟨g - 1, by omega⟩
    have ek : k = e + 1 := by omega
    subst ek
    exact ⟨μ, κ, by rw [f_M_tells_2, if_pos (nI_lt (by omega) (by omega))], sC.rf, sM.rf, rfl, rfl, Or.inl ⟨s, Nat.le_refl _, rfl, hT, hJ⟩⟩
  | succ d ih =>
    intro k f g s μ κ hk hn hf hg hT hC hM hJ
    obtain ⟨g, rfl⟩ : ∃ i, g = i + 1 := ⟨g - 1, by omega⟩
    obtain ⟨f, rfl⟩ : ∃ i, f = i + 1 + 1 := ⟨f - 2, by omega⟩
    obtain ⟨n1, n3, n0⟩ := hn k (by omega) (by omega)
    have tmk := tm_t k (by omega)
    obtain ⟨b, μ1, κ1, a1, a2, a3, a4, a5, a6, a7⟩ := set_T (r66 := f_Reader_readSettings_66 (f + 1)) (n2 := ix w) (x3 := x3) (ν := ν) (τ := τ) (hi := tm k) (k := k) hT hC hM hJ (by omega) (by omega) (tm_9 k (by omega)) (fun g => absurd g n0)
    have sC1 : f_Reader_readSettings_66 (f + 1 + 1) (ix w) x3 (nI k) μ ν = f_Reader_readSettings_66 (f + 1) (ix w) x3 (nI (k + 1)) μ1 ν := by
      rw [f66_S hw (by omega) n1 hT.2.1, e108_n (f := f) (by omega) n3]
      exact a1
    have sM1 : f_M_tells_2 q (g + 1) x1 (nI e) (nI k) κ τ = f_M_tells_2 q g x1 (nI e) (nI (k + 1)) (zu κ1 (q + 2) k b) τ := by
      rw [f_M_tells_2, if_neg (nI_nlt (by omega) (by omega)), ob_eq (M_least k (by omega)), ob_eq (M_most k (by omega) n3), ob_eq a2, if_pos (zin_nI (by omega) (by decide)), zlet_eq, nI_clamp (by omega), nI_1]
    rw [sC1, sM1]
    rcases a7 with ⟨s1, b1, b2, b3⟩ | b2
    · obtain ⟨μ', κ', c1, c2, c3, c4, c5, c6⟩ := ih (k + 1) (f + 1) g s1 μ1 _ (by omega) (fun j h1 h2 => hn j (by omega) h2) (by omega) (by omega) b2 (hC.s a3) (hM.s a4) b3
      refine ⟨μ', κ', c1, a3.tr c2, a4.tr c3, c4.trans a5, c5.trans a6, ?_⟩
      rcases c6 with ⟨s', d1, d2, d3, d4⟩ | d
      · exact Or.inl ⟨s', by omega, by rw [d2]; congr 1; omega, d3, d4⟩
      · exact Or.inr d
    · obtain ⟨κ', c1, c2⟩ := tells_K (q := q) (τ := τ) (x1 := x1) (e := e) (by omega) d (k + 1) g (zu κ1 (q + 2) k b) (by omega) (fun j h1 h2 => (hn j (by omega) h2).2.1) (by omega) b2.2.1
      refine ⟨μ1, κ', c1, a3, a4.tr ⟨fun r _ r2 => c2 r r2, fun j _ _ => by rw [c2 q (by omega)]⟩, by rw [c2 q (by omega)]; exact a5, a6, Or.inr ⟨f66_K hw (by rw [b2.2.2.1]; exact b2.2.1), b2.fr rfl (fun j _ _ => by rw [c2 q (by omega)])⟩⟩
