/-! A line of settings, both readers. -/
theorem CT.b7 {L s : Nat} {t : Nat → Int32} {μ : zI} {v : Int32} (h : CT L t s μ) : CT L t s (zu μ 3 7 v) := by
  unfold CT
  rw [zgk (by decide), zgk (by decide), zgk (by decide), zgk (by decide)]
  exact h
theorem T0.b7 {q L s : Nat} {t : Nat → Int32} {μ κ κ' : zI} {v : Int32} (h : T0 q L t s μ κ) (g : ∀ k, 15 ≤ k → k ≤ 19 → κ' q k = κ q k) : T0 q L t s (zu μ 3 7 v) κ' := by
  obtain ⟨h1, h2⟩ := h
  refine ⟨h1.b7, ?_⟩
  rw [zgk (by decide), zgk (by decide), g 15 (by omega) (by omega), g 16 (by omega) (by omega), g 17 (by omega) (by omega), g 18 (by omega) (by omega), g 19 (by omega) (by omega)]
  exact h2
theorem K0.b7 {q L : Nat} {t : Nat → Int32} {μ κ κ' : zI} {v : Int32} (h : K0 q L t μ κ) (g : ∀ k, 19 ≤ k → k ≤ 20 → κ' q k = κ q k) : K0 q L t (zu μ 3 7 v) κ' := by
  obtain ⟨⟨s, h1⟩, h2⟩ := h
  refine ⟨⟨s, h1.b7⟩, ?_⟩
  rw [zgk (by decide), zgk (by decide), g 19 (by omega) (by omega), g 20 (by omega) (by omega)]
  exact h2
theorem numK {q : Nat} {κ : zI} {τ : zJ} {a b : Int32} (h : ¬ κ q 19 = 0) : E_M_numeral q a b κ τ = some (a, κ, τ) := by
  rw [E_M_numeral, e_M_numeral_0, if_neg h]
/-- the frames of a line of settings -/
def oC (μ μ' : zI) : Prop := (∀ r, r ≠ 3 → r ≠ 19 + 2 → r ≠ 19 + 12 → μ' r = μ r) ∧ ∀ k, k ≠ 0 → μ' (19 + 12) k = μ (19 + 12) k
def oM (q : Nat) (κ κ' : zI) : Prop := (∀ r, r ≠ q → r ≠ q + 2 → r ≠ q + 3 → κ' r = κ r) ∧ ∀ k, k ≠ 5 → k ≠ 6 → k < 15 ∨ 20 < k → κ' q k = κ q k
theorem sC.o {μ μ' : zI} (h : sC μ μ') : oC μ μ' := ⟨h.1, h.2.2⟩
theorem sM.o {q : Nat} {κ κ' : zI} (h : sM q κ κ') : oM q κ κ' := ⟨fun r a b _ => h.1 r a b, fun k a _ b => h.2 k a b⟩
theorem oC.tr {μ μ1 μ2 : zI} (h : oC μ μ1) (g : oC μ1 μ2) : oC μ μ2 := ⟨fun r a b c => (g.1 r a b c).trans (h.1 r a b c), fun k a => (g.2 k a).trans (h.2 k a)⟩
theorem oM.tr {q : Nat} {κ κ1 κ2 : zI} (h : oM q κ κ1) (g : oM q κ1 κ2) : oM q κ κ2 := ⟨fun r a b c => (g.1 r a b c).trans (h.1 r a b c), fun k a b c => (g.2 k a b c).trans (h.2 k a b c)⟩
theorem oC.b7 {μ : zI} {v : Int32} : oC μ (zu μ 3 7 v) := ⟨fun r a _ _ => zgr a, fun k _ => by rw [zgr (by decide)]⟩
theorem C46_K {q L w : Nat} {t : Nat → Int32} {μ κ : zI} {ν : zJ} {x3 : Int32} (hw : w < 5) (h : K0 q L t μ κ) (hC : TC L t μ) : ∃ μ', e_Reader_readSettings_46 (ix w) x3 μ ν = some (μ', ν) ∧ oC μ μ' ∧ K0 q L t μ' κ := by
  obtain ⟨w1, w2, w3, w4, w5'⟩ := wf_f w hw
  have hK := h.b7 (v := μ 3 7 ||| x3) (κ' := κ) (fun _ _ _ => rfl)
  obtain ⟨μ', a1, -, a2, a3⟩ := hK.next (ν := ν) (τ := ν) (hC.fr (zgr (by decide)) (zgr (by decide)))
  refine ⟨μ', ?_, oC.b7.tr a2.s.o, a3⟩
  rw [e_Reader_readSettings_46, zlet_eq, ob_eq a1, if_pos (decide_eq_true w3), zlet_eq, show zFuel = 99999 + 1 from rfl]
  exact f66_K (μ := μ') hw (by rw [a3.2.2.1]; exact a3.2.1)
theorem M36_K {q w : Nat} {κ : zI} {τ : zJ} (hw : w < 5) (h : ¬ κ q 19 = 0) : ∃ κ', e_M_readOther_36 q (nI w) κ τ = some (κ', τ) ∧ oM q κ κ' ∧ κ' q 19 = κ q 19 ∧ κ' q 20 = κ q 20 := by
  obtain ⟨A, hA⟩ : ∃ A, A = zu (zu κ (q + 3) w (vp_nar .boolean 1)) q 6 (κ q 6 + 1) := ⟨_, rfl⟩
  have ar : ∀ r, r ≠ q → r ≠ q + 3 → A r = κ r := fun r a b => by rw [hA, zgr a, zgr b]
  have aq : ∀ k, k ≠ 6 → A q k = κ q k := fun k a => by rw [hA, zgk a, zgr (by omega)]
  have a19 : ¬ A q 19 = 0 := by rw [aq 19 (by decide)]; exact h
  have oA : oM q κ A := ⟨fun r a _ c => ar r a c, fun k _ b _ => aq k b⟩
  have gA : E_M_goOn q A τ = some (A, τ) := by rw [E_M_goOn, e_M_goOn_0, if_neg a19, e_M_goOn_11]
  have pre : e_M_readOther_36 q (nI w) κ τ = (if nI w = 0 then Option.bind (E_M_leastOf 0 A τ) fun ty16 => Option.bind (E_M_mostOf 0 ty16.2.1 ty16.2.2) fun ty17 => Option.bind (E_M_numeral q ty16.1 ty17.1 ty17.2.1 ty17.2.2) fun ty18 => zlet (zu ty18.2.1 (q + 2) 0 ty18.1) fun μy19 => Option.bind (E_M_numeral q 0 (μy19 (q + 2) 0) μy19 ty18.2.2) fun ty20 => zlet (zu ty20.2.1 q 5 ty20.1) fun μy21 => Option.bind (E_M_tells q 1 1 μy21 ty20.2.2) fun ty22 => e_M_readOther_183 q (nI w) ty22.1 ty22.2 else (if nI w = 1 then Option.bind (E_M_tells q 2 2 A τ) fun ty12 => Option.bind (E_M_numeral q 1100 (ty12.1 (q + 2) 2) ty12.1 ty12.2) fun ty13 => zlet (zu ty13.2.1 (q + 2) 3 ty13.1) fun μy14 => Option.bind (E_M_tells q 4 6 μy14 ty13.2.2) fun ty15 => e_M_readOther_183 q (nI w) ty15.1 ty15.2 else (if nI w = 2 then Option.bind (E_M_tells q 7 11 A τ) fun ty11 => e_M_readOther_183 q (nI w) ty11.1 ty11.2 else (if nI w = 3 then Option.bind (E_M_tells q 12 16 A τ) fun ty10 => e_M_readOther_183 q (nI w) ty10.1 ty10.2 else Option.bind (E_M_tells q 17 18 A τ) fun ty9 => e_M_readOther_183 q (nI w) ty9.1 ty9.2)))) := by
    rw [e_M_readOther_36, if_pos (zin_nI hw (by decide)), zlet_eq, nI_clamp (by omega), zlet_eq, zgr (show q ≠ q + 3 by omega), ← hA, ob_eq gA]
  have tel : ∀ (x : Int32) (k e : Nat) (B : zI), e < 19 → k ≤ e + 1 → (∀ j, k ≤ j → j ≤ e → j ≠ 3) → x = nI k → ¬ B q 19 = 0 → ∃ B', E_M_tells q x (nI e) B τ = some (B', τ) ∧ (∀ r, r ≠ q + 2 → B' r = B r) := by
    intro x k e B he hk h3 hx hB
    rw [hx]
    obtain ⟨B', b1, b2⟩ := tells_K (q := q) (τ := τ) (x1 := nI k) he (e + 1 - k) k zFuel B (by omega) h3 (by unfold zFuel; omega) hB
    exact ⟨B', by rw [E_M_tells, e_M_tells_0]; exact b1, b2⟩
  have fin : ∀ B, oM q A B → B q 19 = A q 19 → B q 20 = A q 20 → ∀ (_ : e_M_readOther_36 q (nI w) κ τ = some (B, τ)), ∃ κ', e_M_readOther_36 q (nI w) κ τ = some (κ', τ) ∧ oM q κ κ' ∧ κ' q 19 = κ q 19 ∧ κ' q 20 = κ q 20 := fun B o b19 b20 e => ⟨B, e, oA.tr o, b19.trans (aq 19 (by decide)), b20.trans (aq 20 (by decide))⟩
  rcases w5 hw with rfl | rfl | rfl | rfl | rfl
  · obtain ⟨A1, hA1⟩ : ∃ A1, A1 = zu (zu A (q + 2) 0 1000) q 5 0 := ⟨_, rfl⟩
    have a1q : ∀ k, k ≠ 5 → A1 q k = A q k := fun k a => by rw [hA1, zgk a, zgr (by omega)]
    have a1r : ∀ r, r ≠ q → r ≠ q + 2 → A1 r = A r := fun r a b => by rw [hA1, zgr a, zgr b]
    obtain ⟨B', b1, b2⟩ := tel 1 1 1 A1 (by decide) (by decide) (fun j _ _ => by omega) rfl (by rw [a1q 19 (by decide)]; exact a19)
    refine fin B' ⟨fun r a b _ => (b2 r b).trans (a1r r a b), fun k a b _ => by rw [b2 q (by omega), a1q k a]⟩ (by rw [b2 q (by omega), a1q 19 (by decide)]) (by rw [b2 q (by omega), a1q 20 (by decide)]) ?_
    rw [pre, if_pos (by decide), show E_M_leastOf 0 A τ = some (1000, A, τ) from rfl, Option.bind_some, show E_M_mostOf 0 A τ = some (99999, A, τ) from rfl, Option.bind_some, ob_eq (numK a19), zlet_eq]
    dsimp only
    rw [numK (by rw [zgr (by omega)]; exact a19), Option.bind_some, zlet_eq]
    dsimp only
    rw [← hA1, show (1 : Int32) = nI 1 from rfl]
    rw [show E_M_tells q (nI 1) (nI 1) A1 τ = some (B', τ) from b1, Option.bind_some, e_M_readOther_183]
  · obtain ⟨B1, b1, b2⟩ := tel 2 2 2 A (by decide) (by decide) (fun j _ _ => by omega) rfl a19
    have b19 : ¬ B1 q 19 = 0 := by rw [b2 q (by omega)]; exact a19
    obtain ⟨B', c1, c2⟩ := tel 4 4 6 (zu B1 (q + 2) 3 1100) (by decide) (by decide) (fun j _ _ => by omega) rfl (by rw [zgr (by omega)]; exact b19)
    have e' : ∀ r, r ≠ q + 2 → B' r = A r := fun r a => by rw [c2 r a, zgr a, b2 r a]
    refine fin B' ⟨fun r a b _ => e' r b, fun k _ _ _ => by rw [e' q (by omega)]⟩ (by rw [e' q (by omega)]) (by rw [e' q (by omega)]) ?_
    rw [pre, if_neg (by decide), if_pos (by decide), show E_M_tells q 2 2 A τ = some (B1, τ) from b1, Option.bind_some, numK b19, Option.bind_some, zlet_eq]
    dsimp only
    rw [show E_M_tells q 4 6 (zu B1 (q + 2) 3 1100) τ = some (B', τ) from c1, Option.bind_some, e_M_readOther_183]
  · obtain ⟨B1, b1, b2⟩ := tel 7 7 11 A (by decide) (by decide) (fun j _ _ => by omega) rfl a19
    refine fin B1 ⟨fun r a b _ => b2 r b, fun k _ _ _ => by rw [b2 q (by omega)]⟩ (by rw [b2 q (by omega)]) (by rw [b2 q (by omega)]) ?_
    rw [pre, if_neg (by decide), if_neg (by decide), if_pos (by decide), show E_M_tells q 7 11 A τ = some (B1, τ) from b1, Option.bind_some, e_M_readOther_183]
  · obtain ⟨B1, b1, b2⟩ := tel 12 12 16 A (by decide) (by decide) (fun j _ _ => by omega) rfl a19
    refine fin B1 ⟨fun r a b _ => b2 r b, fun k _ _ _ => by rw [b2 q (by omega)]⟩ (by rw [b2 q (by omega)]) (by rw [b2 q (by omega)]) ?_
    rw [pre, if_neg (by decide), if_neg (by decide), if_neg (by decide), if_pos (by decide), show E_M_tells q 12 16 A τ = some (B1, τ) from b1, Option.bind_some, e_M_readOther_183]
  · obtain ⟨B1, b1, b2⟩ := tel 17 17 18 A (by decide) (by decide) (fun j _ _ => by omega) rfl a19
    refine fin B1 ⟨fun r a b _ => b2 r b, fun k _ _ _ => by rw [b2 q (by omega)]⟩ (by rw [b2 q (by omega)]) (by rw [b2 q (by omega)]) ?_
    rw [pre, if_neg (by decide), if_neg (by decide), if_neg (by decide), if_neg (by decide), show E_M_tells q 17 18 A τ = some (B1, τ) from b1, Option.bind_some, e_M_readOther_183]
/-- what both do behind the head of such a line -/
theorem body_T {q L w s : Nat} {t : Nat → Int32} {μ κ : zI} {ν τ : zJ} {x3 : Int32} (hw : w < 5) (h : T0 q L t s μ κ) (hC : TC L t μ) (hM : TM q L t κ) (hJ : JT q μ κ) (h5 : w = 0 → κ q 5 = 0) (pre : e_M_readOther_36 q (nI w) κ τ = e_M_readOther_36 q (nI w) κ τ) : ∃ μ' κ', f_Reader_readSettings_66 zFuel (ix w) x3 (nI (fst5 w)) μ ν = some (μ', ν) ∧ (if nI w = 0 then Option.bind (E_M_leastOf 0 κ τ) fun ty16 => Option.bind (E_M_mostOf 0 ty16.2.1 ty16.2.2) fun ty17 => Option.bind (E_M_numeral q ty16.1 ty17.1 ty17.2.1 ty17.2.2) fun ty18 => zlet (zu ty18.2.1 (q + 2) 0 ty18.1) fun μy19 => Option.bind (E_M_numeral q 0 (μy19 (q + 2) 0) μy19 ty18.2.2) fun ty20 => zlet (zu ty20.2.1 q 5 ty20.1) fun μy21 => Option.bind (E_M_tells q 1 1 μy21 ty20.2.2) fun ty22 => e_M_readOther_183 q (nI w) ty22.1 ty22.2 else (if nI w = 1 then Option.bind (E_M_tells q 2 2 κ τ) fun ty12 => Option.bind (E_M_numeral q 1100 (ty12.1 (q + 2) 2) ty12.1 ty12.2) fun ty13 => zlet (zu ty13.2.1 (q + 2) 3 ty13.1) fun μy14 => Option.bind (E_M_tells q 4 6 μy14 ty13.2.2) fun ty15 => e_M_readOther_183 q (nI w) ty15.1 ty15.2 else (if nI w = 2 then Option.bind (E_M_tells q 7 11 κ τ) fun ty11 => e_M_readOther_183 q (nI w) ty11.1 ty11.2 else (if nI w = 3 then Option.bind (E_M_tells q 12 16 κ τ) fun ty10 => e_M_readOther_183 q (nI w) ty10.1 ty10.2 else Option.bind (E_M_tells q 17 18 κ τ) fun ty9 => e_M_readOther_183 q (nI w) ty9.1 ty9.2)))) = some (κ', τ) ∧ sC μ μ' ∧ sM q κ κ' ∧ (w ≠ 0 → κ' q 5 = κ q 5) ∧ ((∃ s', s ≤ s' ∧ T0 q L t s' μ' κ' ∧ JT q μ' κ') ∨ K0 q L t μ' κ') := by
  have telK : ∀ (x : Int32) (k e : Nat) (B : zI), e < 19 → k ≤ e + 1 → (∀ j, k ≤ j → j ≤ e → j ≠ 3) → x = nI k → ¬ B q 19 = 0 → ∃ B', E_M_tells q x (nI e) B τ = some (B', τ) ∧ (∀ r, r ≠ q + 2 → B' r = B r) := by
    intro x k e B he hk h3 hx hB
    rw [hx]
    obtain ⟨B', b1, b2⟩ := tells_K (q := q) (τ := τ) (x1 := nI k) he (e + 1 - k) k zFuel B (by omega) h3 (by unfold zFuel; omega) hB
    exact ⟨B', by rw [E_M_tells, e_M_tells_0]; exact b1, b2⟩
  -- a group of the plain kind, read to the line's end
  have plain : ∀ (k e f s : Nat) (μ κ : zI), e = lst5 w → k ≤ e + 1 → (∀ j, k ≤ j → j ≤ e → j ≠ 1 ∧ j ≠ 3 ∧ j ≠ 0) → 30 < f → T0 q L t s μ κ → TC L t μ → TM q L t κ → JT q μ κ → ∃ μ' κ', f_Reader_readSettings_66 f (ix w) x3 (nI k) μ ν = some (μ', ν) ∧ E_M_tells q (nI k) (nI e) κ τ = some (κ', τ) ∧ sC μ μ' ∧ sM q κ κ' ∧ κ' q 5 = κ q 5 ∧ ((∃ s', s ≤ s' ∧ T0 q L t s' μ' κ' ∧ JT q μ' κ') ∨ K0 q L t μ' κ') := by
    intro k e f s μ κ he hk hn hf hT hC hM hJ
    have e19 := (wf_f w hw).2.2.2.1
    obtain ⟨μ', κ', c1, c2, c3, c4, c5, c6⟩ := tells_T (q := q) (L := L) (t := t) (ν := ν) (τ := τ) (x1 := nI k) (x3 := x3) (e := e) hw (by omega) (e + 1 - k) k f zFuel s μ κ (by omega) hn (by omega) (by unfold zFuel; omega) hT hC hM hJ
    have tl' : E_M_tells q (nI k) (nI e) κ τ = some (κ', τ) := by rw [E_M_tells, e_M_tells_0]; exact c1
    rcases c6 with ⟨s', d1, d2, d3, d4⟩ | ⟨d1, d2⟩
    · refine ⟨μ', κ', ?_, tl', c2, c3, c4, Or.inl ⟨s', d1, d3, d4⟩⟩
      rw [d2, he]
      obtain ⟨g, hg⟩ : ∃ g, f - (lst5 w + 1 - k) = g + 1 := ⟨f - (lst5 w + 1 - k) - 1, by omega⟩
      rw [hg]
      exact f66_E hw
    · exact ⟨μ', κ', d1, tl', c2, c3, c4, Or.inr d2⟩
  have zF : zFuel = 99998 + 1 + 1 := rfl
  rcases w5 hw with rfl | rfl | rfl | rfl | rfl
  · -- battery
    rw [if_pos (by decide)]
    have k5 := h5 rfl
    obtain ⟨b, μ1, κ1, a1, a2, a3, a4, a5, a6, a7⟩ := set_T (r66 := f_Reader_readSettings_66 (99998 + 1)) (n2 := ix 0) (x3 := x3) (ν := ν) (τ := τ) (hi := tm 0) (k := 0) h hC hM hJ (by decide) (by decide) (by decide) (fun _ => k5)
    obtain ⟨κ2, hκ2⟩ : ∃ κ2, κ2 = zu κ1 (q + 2) 0 b := ⟨_, rfl⟩
    rw [← hκ2] at a4 a5 a7
    have cC : f_Reader_readSettings_66 zFuel (ix 0) x3 (nI (fst5 0)) μ ν = f_Reader_readSettings_66 (99998 + 1) (ix 0) x3 (nI 1) μ1 ν := by
      rw [zF, show fst5 0 = 0 from rfl, f66_S (by decide) (by decide) (by decide) h.2.1, e108_n (f := 0) (by decide) (by decide)]
      exact a1
    rw [cC, show E_M_leastOf 0 κ τ = some (tl 0, κ, τ) from rfl, Option.bind_some, show E_M_mostOf 0 κ τ = some (tm 0, κ, τ) from rfl, Option.bind_some, ob_eq a2, zlet_eq]
    dsimp only
    rw [← hκ2]
    rcases a7 with ⟨s1, b1, b2, b3⟩ | b2
    · have t0 := b3.1 0 (by decide)
      have hi9 : (κ2 (q + 2) 0).toInt ≤ 99999 := t0.2.2
      obtain ⟨c, d, μ2, κ3, c1, c2, c3, c4, c5⟩ := b2.num (ν := ν) (τ := τ) (x1 := 0) (x2 := κ2 (q + 2) 0) (hC.s a3) (hM.s a4) (by decide) hi9
      have f1 : f_Reader_readSettings_66 (99998 + 1) (ix 0) x3 (nI 1) μ1 ν = e_Reader_readSettings_108 (f_Reader_readSettings_66 99998) (ix 0) x3 (nI 1) (zu μ2 (19 + 12) 0 c) ν := by
        obtain ⟨w1, w2, w3, w4, w5'⟩ := wf_f 0 (by decide)
        rw [f_Reader_readSettings_66, if_pos (decide_eq_true w3), w2, if_neg (by decide), if_pos b2.2.1, if_pos (show nI 1 = 1 from rfl), ob_eq Tg0]
        dsimp only
        rw [show μ1 (19 + 2) 0 = κ2 (q + 2) 0 from t0.1, ob_eq c1, zlet_eq]
      rw [f1, ob_eq c2, zlet_eq]
      dsimp only
      obtain ⟨A, hA⟩ : ∃ A, A = zu μ2 (19 + 12) 0 c := ⟨_, rfl⟩
      obtain ⟨K, hK⟩ : ∃ K, K = zu κ3 q 5 d := ⟨_, rfl⟩
      rw [← hA, ← hK]
      have sA : sC μ A := a3.tr (c3.s.tr ⟨fun r a _ b => by rw [hA, zgr b], by rw [hA, zgr (by decide)], fun j hj => by rw [hA, zgk hj]⟩)
      have sK : sM q κ K := a4.tr (c4.s.tr ⟨fun r a _ => by rw [hK, zgr a], fun j hj _ => by rw [hK, zgk hj]⟩)
      have e3 : A 3 = μ2 3 := by rw [hA, zgr (by decide)]
      have eK : ∀ j, j ≠ 5 → K q j = κ3 q j := fun j hj => by rw [hK, zgk hj]
      rw [e108_n (f := 0) (k := 1) (by decide) (by decide)]
      rcases c5 with ⟨s2, d1, d2, d3, d4, d5⟩ | d2
      · have z0 : (0 : Int32).toInt = 0 := rfl
        have JA : JT q A K := by
          refine ⟨fun j hj => ?_, ?_, ?_, ?_⟩
          · rw [hA, hK, zgr (by decide), zgr (by omega), c3.1 _ (by decide), c4.1 _ (by omega)]
            exact b3.1 j hj
          · rw [hA, hK, zgh, zgh, d3]
          · rw [hK, zgh, ← d3]
            rw [z0] at d4
            exact d4
          · rw [hK, zgh, zgr (by omega), c4.1 _ (by omega), ← d3]
            exact d5
        have TA : T0 q L t s2 A K := d2.fr e3 (fun j _ _ => eK j (by omega))
        obtain ⟨b', μ3, κ4, p1, p2, p3, p4, p5, p6, p7⟩ := set_T (r66 := f_Reader_readSettings_66 99998) (n2 := ix 0) (x3 := x3) (ν := ν) (τ := τ) (hi := tm 1) (k := 1) TA (hC.s sA) (hM.s sK) JA (by decide) (by decide) (by decide) (fun g => absurd g (by decide))
        have tlM : E_M_tells q 1 1 K τ = some (zu κ4 (q + 2) 1 b', τ) := by
          rw [E_M_tells, e_M_tells_0, zF, f_M_tells_2, if_neg (by decide), show E_M_leastOf 1 K τ = some (tl 1, K, τ) from rfl, Option.bind_some, show E_M_mostOf 1 K τ = some (tm 1, K, τ) from rfl, Option.bind_some, ob_eq p2, if_pos (by decide), zlet_eq, show (1 : Int32).toNatClampNeg = 1 from rfl, f_M_tells_2, if_pos (by decide)]
        refine ⟨μ3, zu κ4 (q + 2) 1 b', ?_, ?_, sA.tr p3, sK.tr p4, fun g => absurd rfl g, ?_⟩
        · rw [p1]
          exact f66_E (w := 0) (f := 99997) (by decide)
        · rw [ob_eq tlM, e_M_readOther_183]
        · rcases p7 with ⟨s', q1, q2, q3⟩ | q2
          · exact Or.inl ⟨s', by have := tkE_b (t := t) b2.1.1; omega, q2, q3⟩
          · exact Or.inr q2
      · have KA : K0 q L t A K := d2.fr e3 (fun j _ _ => eK j (by omega))
        obtain ⟨a', μ3, p1, -, p2, p3⟩ := KA.num (ν := ν) (τ := τ) (x1 := tl 1) (x2 := tm 1) (y1 := 0) (y2 := 0) (hC.s sA)
        obtain ⟨B', r1, r2⟩ := telK 1 1 1 K (by decide) (by decide) (fun j _ _ => by omega) rfl KA.2.1
        refine ⟨zu μ3 (19 + 2) 1 a', B', ?_, ?_, sA.tr (p2.s.tr ⟨fun r _ b _ => zgr b, by rw [zgr (by decide)], fun j _ => by rw [zgr (by decide)]⟩), sK.tr ⟨fun r _ b => r2 r b, fun j _ _ => by rw [r2 q (by omega)]⟩, fun g => absurd rfl g, Or.inr (p3.fr (zgr (by decide)) (fun j _ _ => by rw [r2 q (by omega)]))⟩
        · rw [e_Reader_readSettings_130, ob_eq (C_least (k := 1) (by decide)), ob_eq p1, ob_eq (C_put (k := 1) (by decide))]
          exact f66_E (w := 0) (f := 99997) (by decide)
        · rw [show E_M_tells q 1 1 K τ = some (B', τ) from r1, Option.bind_some, e_M_readOther_183]
    · have n19 := b2.2.1
      obtain ⟨K, hK⟩ : ∃ K, K = zu κ2 q 5 0 := ⟨_, rfl⟩
      have k19 : ¬ K q 19 = 0 := by rw [hK, zgk (by decide)]; exact n19
      obtain ⟨B', r1, r2⟩ := telK 1 1 1 K (by decide) (by decide) (fun j _ _ => by omega) rfl k19
      have eK : ∀ j, j ≠ 5 → K q j = κ2 q j := fun j hj => by rw [hK, zgk hj]
      refine ⟨μ1, B', f66_K (w := 0) (by decide) (by rw [b2.2.2.1]; exact n19), ?_, a3, a4.tr ⟨fun r a b => by rw [r2 r b, hK, zgr a], fun j hj _ => by rw [r2 q (by omega), eK j hj]⟩, fun g => absurd rfl g, Or.inr (b2.fr rfl (fun j _ _ => by rw [r2 q (by omega), eK j (by omega)]))⟩
      rw [numK n19, Option.bind_some, zlet_eq]
      dsimp only
      rw [← hK, show E_M_tells q 1 1 K τ = some (B', τ) from r1, Option.bind_some, e_M_readOther_183]
  · -- stages
    rw [if_neg (by decide), if_pos (by decide)]
    obtain ⟨μ1, κ1, c1, c2, c3, c4, c5, c6⟩ := tells_T (q := q) (L := L) (t := t) (w := 1) (ν := ν) (τ := τ) (x1 := nI 2) (x3 := x3) (e := 2) (by decide) (by decide) 1 2 zFuel zFuel s μ κ (by decide) (fun j _ _ => by omega) (by unfold zFuel; omega) (by unfold zFuel; omega) h hC hM hJ
    have tl2 : E_M_tells q 2 2 κ τ = some (κ1, τ) := by rw [E_M_tells, e_M_tells_0]; exact c1
    rw [tl2, Option.bind_some]
    dsimp only
    rcases c6 with ⟨s1, d1, d2, d3, d4⟩ | ⟨d1, d2⟩
    · have t2 := d4.1 2 (by decide)
      have hi2 : (κ1 (q + 2) 2).toInt ≤ 2000 := t2.2.2
      obtain ⟨b, μ2, κ2, a1, a2, a3, a4, a5, a6, a7⟩ := set_T (r66 := f_Reader_readSettings_66 99998) (n2 := ix 1) (x3 := x3) (ν := ν) (τ := τ) (hi := κ1 (q + 2) 2) (k := 3) d3 (hC.s c2) (hM.s c3) d4 (by decide) hi2 (by omega) (fun g => absurd g (by decide))
      obtain ⟨κ3, hκ3⟩ : ∃ κ3, κ3 = zu κ2 (q + 2) 3 b := ⟨_, rfl⟩
      rw [← hκ3] at a4 a5 a7
      have cC : f_Reader_readSettings_66 zFuel (ix 1) x3 (nI (fst5 1)) μ ν = f_Reader_readSettings_66 99998 (ix 1) x3 (nI 4) μ2 ν := by
        rw [show fst5 1 = 2 from rfl, d2, show zFuel - 1 = 99998 + 1 from rfl, f66_S (w := 1) (k := 3) (by decide) (by decide) (by decide) d3.2.1, e_Reader_readSettings_108, if_pos (show nI 3 = 3 from rfl), ob_eq Tg2]
        dsimp only
        rw [t2.1]
        exact a1
      rw [cC, show E_M_numeral q 1100 (κ1 (q + 2) 2) κ1 τ = some (b, κ2, τ) from a2, Option.bind_some, zlet_eq]
      dsimp only
      rw [← hκ3]
      rcases a7 with ⟨s2, b1, b2, b3⟩ | b2
      · obtain ⟨μ', κ', p1, p2, p3, p4, p5, p6⟩ := plain 4 6 99998 s2 μ2 κ3 rfl (by decide) (fun j _ _ => by omega) (by decide) b2 ((hC.s c2).s a3) ((hM.s c3).s a4) b3
        refine ⟨μ', κ', p1, ?_, (c2.tr a3).tr p3, (c3.tr a4).tr p4, fun _ => by rw [p5, a5, c4], ?_⟩
        · rw [show E_M_tells q 4 6 κ3 τ = some (κ', τ) from p2, Option.bind_some, e_M_readOther_183]
        · rcases p6 with ⟨s', q1, q2⟩ | q2
          · exact Or.inl ⟨s', by omega, q2⟩
          · exact Or.inr q2
      · obtain ⟨B', r1, r2⟩ := telK 4 4 6 κ3 (by decide) (by decide) (fun j _ _ => by omega) rfl b2.2.1
        refine ⟨μ2, B', f66_K (w := 1) (f := 99997) (by decide) (by rw [b2.2.2.1]; exact b2.2.1), ?_, c2.tr a3, (c3.tr a4).tr ⟨fun r _ x => r2 r x, fun j _ _ => by rw [r2 q (by omega)]⟩, fun _ => by rw [r2 q (by omega), a5, c4], Or.inr (b2.fr rfl (fun j _ _ => by rw [r2 q (by omega)]))⟩
        rw [show E_M_tells q 4 6 κ3 τ = some (B', τ) from r1, Option.bind_some, e_M_readOther_183]
    · have n19 := d2.2.1
      obtain ⟨B', r1, r2⟩ := telK 4 4 6 (zu κ1 (q + 2) 3 1100) (by decide) (by decide) (fun j _ _ => by omega) rfl (by rw [zgr (by omega)]; exact n19)
      have e' : ∀ r, r ≠ q + 2 → B' r = κ1 r := fun r a => by rw [r2 r a, zgr a]
      refine ⟨μ1, B', d1, ?_, c2, c3.tr ⟨fun r _ x => e' r x, fun j _ _ => by rw [e' q (by omega)]⟩, fun _ => by rw [e' q (by omega), c4], Or.inr (d2.fr rfl (fun j _ _ => by rw [e' q (by omega)]))⟩
      rw [numK n19, Option.bind_some, zlet_eq]
      dsimp only
      rw [show E_M_tells q 4 6 (zu κ1 (q + 2) 3 1100) τ = some (B', τ) from r1, Option.bind_some, e_M_readOther_183]
  · rw [if_neg (by decide), if_neg (by decide), if_pos (by decide)]
    obtain ⟨μ', κ', p1, p2, p3, p4, p5, p6⟩ := plain 7 11 zFuel s μ κ rfl (by decide) (fun j _ _ => by omega) (by unfold zFuel; omega) h hC hM hJ
    exact ⟨μ', κ', p1, by rw [show E_M_tells q 7 11 κ τ = some (κ', τ) from p2, Option.bind_some, e_M_readOther_183], p3, p4, fun _ => p5, p6⟩
  · rw [if_neg (by decide), if_neg (by decide), if_neg (by decide), if_pos (by decide)]
    obtain ⟨μ', κ', p1, p2, p3, p4, p5, p6⟩ := plain 12 16 zFuel s μ κ rfl (by decide) (fun j _ _ => by omega) (by unfold zFuel; omega) h hC hM hJ
    exact ⟨μ', κ', p1, by rw [show E_M_tells q 12 16 κ τ = some (κ', τ) from p2, Option.bind_some, e_M_readOther_183], p3, p4, fun _ => p5, p6⟩
  · rw [if_neg (by decide), if_neg (by decide), if_neg (by decide), if_neg (by decide)]
    obtain ⟨μ', κ', p1, p2, p3, p4, p5, p6⟩ := plain 17 18 zFuel s μ κ rfl (by decide) (fun j _ _ => by omega) (by unfold zFuel; omega) h hC hM hJ
    exact ⟨μ', κ', p1, by rw [show E_M_tells q 17 18 κ τ = some (κ', τ) from p2, Option.bind_some, e_M_readOther_183], p3, p4, fun _ => p5, p6⟩
