/-! A line of what comes. -/
def eC' (μ μ' : zI) : Prop := (∀ r, r ≠ 3 → r ≠ 19 + 9 → r ≠ 19 + 10 → μ' r = μ r) ∧ (∀ j, j ≠ 0 → μ' (19 + 9) j = μ (19 + 9) j) ∧ μ' 3 7 = μ 3 7
def eM' (q : Nat) (κ κ' : zI) : Prop := (∀ r, r ≠ q → r ≠ q + 6 → κ' r = κ r) ∧ ∀ k, k ≠ 12 → k < 15 ∨ 20 < k → κ' q k = κ q k
theorem pC.a {μ μ' : zI} (h : pC μ μ') : eC' μ μ' := ⟨fun r a _ _ => h.1 r a, fun j _ => by rw [h.1 _ (by decide)], h.2⟩
theorem pM.a {q : Nat} {κ κ' : zI} (h : pM q κ κ') : eM' q κ κ' := ⟨fun r a _ => h.1 r a, fun k _ b => h.2 k b⟩
theorem eC'.tr {μ μ1 μ2 : zI} (h : eC' μ μ1) (g : eC' μ1 μ2) : eC' μ μ2 := ⟨fun r a b c => (g.1 r a b c).trans (h.1 r a b c), fun j a => (g.2.1 j a).trans (h.2.1 j a), g.2.2.trans h.2.2⟩
theorem eM'.tr {q : Nat} {κ κ1 κ2 : zI} (h : eM' q κ κ1) (g : eM' q κ1 κ2) : eM' q κ κ2 := ⟨fun r a b => (g.1 r a b).trans (h.1 r a b), fun k a b => (g.2 k a b).trans (h.2 k a b)⟩
theorem EV.p {q n m : Nat} {μ μ' κ κ' : zI} (h : EV q n m μ κ) (g : pC μ μ') (g' : pM q κ κ') : EV q n m μ' κ' := by
  unfold EV
  rw [g.1 (19 + 9) (by decide), g.1 (19 + 10) (by decide), g'.2 12 (by decide), g'.1 (q + 6) (by omega)]
  exact h
theorem addC_K {μ : zI} {ν : zJ} {a b c d : Int32} (h : ¬ μ 3 0 = 0) : E_Reader_addComing a b c d μ ν = some (μ, ν) := by
  rw [E_Reader_addComing, e_Reader_addComing_0, if_neg h]
  rfl
/-- the last number of the line, and the row -/
theorem at_last {q L n m s : Nat} {t : Nat → Int32} {μ κ : zI} {ν τ : zJ} {lo hi y x2 b c : Int32} (h : T0 q L t s μ κ) (hC : TC L t μ) (hM : TM q L t κ) (hE : EV q n m μ κ) (hm : m < 24) (y1 : 1 ≤ y.toInt) (y9 : y.toInt ≤ 9999) (hb : x2 - 7 = b) (ok : ∀ v : Int32, lo.toInt ≤ v.toInt → v.toInt ≤ hi.toInt → okE n b c v) (l0 : 0 ≤ lo.toInt) (l9 : hi.toInt ≤ 99999) : ∃ μ' κ', (Option.bind (E_Reader_readNumber lo hi μ ν) fun ty16 => Option.bind (E_Reader_addComing y b c ty16.1 ty16.2.1 ty16.2.2) fun ty17 => e_Reader_readAt_176 y ty17.1 ty17.2) = some (μ', ν) ∧ (Option.bind (E_M_numeral q lo hi κ τ) fun ty4 => e_M_readAt_143 q y x2 c ty4.1 ty4.2.1 ty4.2.2) = some (κ', τ) ∧ eC' μ μ' ∧ eM' q κ κ' ∧ ((∃ s', s ≤ s' ∧ T0 q L t s' μ' κ' ∧ EV q n (m + 1) μ' κ') ∨ (K0 q L t μ' κ' ∧ ∀ r, r ≠ 3 → μ' r = μ r)) := by
  obtain ⟨u, v, μ1, κ1, a1, a2, a3, a4, a5⟩ := h.num (ν := ν) (τ := τ) (x1 := lo) (x2 := hi) hC hM l0 l9
  have eb := tkE_b (t := t) h.1.1
  rw [ob_eq a1, ob_eq a2]
  dsimp only
  rcases a5 with ⟨s', b1, b2, b3, b4, b5⟩ | b2
  · subst b3
    obtain ⟨μ', κ', c1, c2, c3, c4, c5, c6, c7⟩ := (hE.p a3 a4).add (ν := ν) (τ := τ) hm b2.2.1 b2.2.2.2.1 (ok u b4 b5) y1 y9 hb
    refine ⟨μ', κ', by rw [ob_eq c1]; rfl, c2, ⟨fun r r3 r9 r10 => by rw [c3 r r9 r10, a3.1 r r3], fun j hj => by rw [c4 j hj, a3.1 _ (by decide)], by rw [c3 3 (by decide) (by decide), a3.2]⟩, ⟨fun r g1 g2 => by rw [c5 r g1 g2, a4.1 r g1], fun k g1 g2 => by rw [c6 k g1, a4.2 k g2]⟩, Or.inl ⟨s', by omega, b2.fr (c3 3 (by decide) (by decide)) (fun k _ _ => c6 k (by omega)), c7⟩⟩
  · refine ⟨μ1, κ1, by rw [ob_eq (addC_K (by rw [b2.2.2.1]; exact b2.2.1))]; rfl, by rw [e_M_readAt_143, if_neg b2.2.1], a3.a, a4.a, Or.inr ⟨b2, a3.1⟩⟩
theorem at_lastK {q L : Nat} {t : Nat → Int32} {μ κ : zI} {ν : zJ} {lo hi y b c : Int32} (h : K0 q L t μ κ) (hC : TC L t μ) : ∃ μ', (Option.bind (E_Reader_readNumber lo hi μ ν) fun ty16 => Option.bind (E_Reader_addComing y b c ty16.1 ty16.2.1 ty16.2.2) fun ty17 => e_Reader_readAt_176 y ty17.1 ty17.2) = some (μ', ν) ∧ pC μ μ' ∧ K0 q L t μ' κ := by
  obtain ⟨a, μ1, a1, -, a3, a4⟩ := h.num (ν := ν) (τ := ν) (x1 := lo) (x2 := hi) (y1 := lo) (y2 := hi) hC
  exact ⟨μ1, by rw [ob_eq a1]; dsimp only; rw [ob_eq (addC_K (by rw [a4.2.2.1]; exact a4.2.1))]; rfl, a3, a4⟩
theorem last_K {q : Nat} {κ : zI} {τ : zJ} {lo hi y x2 c : Int32} (h : ¬ κ q 19 = 0) : (Option.bind (E_M_numeral q lo hi κ τ) fun ty4 => e_M_readAt_143 q y x2 c ty4.1 ty4.2.1 ty4.2.2) = some (κ, τ) := by
  rw [ob_eq (numK h)]
  dsimp only
  rw [e_M_readAt_143, if_neg h]
theorem at103_K {q : Nat} {κ : zI} {τ : zJ} {y x2 c : Int32} (h : ¬ κ q 19 = 0) : e_M_readAt_103 q y x2 c κ τ = some (κ, τ) := by
  rw [e_M_readAt_103, last_K h, last_K h, last_K h, ite_self, ite_self]
theorem goOn_K {q : Nat} {κ : zI} {τ : zJ} (h : ¬ κ q 19 = 0) : E_M_goOn q κ τ = some (κ, τ) := by
  rw [E_M_goOn, e_M_goOn_0, if_neg h]
  rfl
theorem at77_K {q : Nat} {κ : zI} {τ : zJ} {y x2 : Int32} (h : ¬ κ q 19 = 0) : e_M_readAt_77 q y x2 κ τ = some (κ, τ) := by
  rw [e_M_readAt_77, ob_eq (goOn_K h)]
  dsimp only
  rw [at103_K h, ob_eq (numK h)]
  dsimp only
  rw [at103_K h, ite_self]
theorem at29_K {q : Nat} {κ : zI} {τ : zJ} (h : ¬ κ q 19 = 0) : e_M_readAt_29 q κ τ = some (κ, τ) := by
  rw [e_M_readAt_29, ob_eq (goOn_K h)]
  dsimp only
  rw [ob_eq (numK h), zlet_eq]
  dsimp only
  rw [if_neg h]
/-- the class's line from the word on -/
def cAt (y3 : Int32) (k : Nat) (μ : zI) (ν : zJ) : Option (zI × zJ) := if k = 7 then Option.bind (E_Reader_nextToken μ ν) fun ty10 => Option.bind (E_Reader_readNumber 0 ((ty10.1 (19 + 3) 0) - 1) ty10.1 ty10.2) fun ty11 => Option.bind (E_Reader_readNumber 0 100 ty11.2.1 ty11.2.2) fun ty13 => Option.bind (E_Reader_addComing y3 0 ty11.1 ty13.1 ty13.2.1 ty13.2.2) fun ty14 => e_Reader_readAt_176 y3 ty14.1 ty14.2 else if k = 8 then Option.bind (E_Reader_nextToken μ ν) fun ty15 => Option.bind (E_Reader_readNumber 0 1 ty15.1 ty15.2) fun ty16 => Option.bind (E_Reader_addComing y3 1 (-2) ty16.1 ty16.2.1 ty16.2.2) fun ty17 => e_Reader_readAt_176 y3 ty17.1 ty17.2 else if k = 9 then Option.bind (E_Reader_nextToken μ ν) fun ty18 => Option.bind (E_Reader_readNumber 45000 55000 ty18.1 ty18.2) fun ty19 => Option.bind (E_Reader_addComing y3 2 (-2) ty19.1 ty19.2.1 ty19.2.2) fun ty21 => e_Reader_readAt_176 y3 ty21.1 ty21.2 else Option.bind (E_Reader_refuse 1 μ ν) fun ty22 => e_Reader_readAt_176 y3 ty22.1 ty22.2
theorem sw_f : ∀ k, k < 11 → (decide (k < 11) = true) ∧ (nI k).toNatClampNeg = k ∧ zin (nI k) 11 = true := by decide
theorem sw_v : ∀ k, k < 11 → ((zTabs.getD 3 ("", "", [])).2.2).getD k 0 = if k = 10 then 0 else nI (k + 1) := by decide
theorem cAt_eq {μ μ1 μ2 : zI} {ν : zJ} {y : Int32} {k : Nat} (hk : k < 11) (e1 : E_Reader_nextToken μ ν = some (μ1, ν)) (e2 : E_Reader_readNumber 1 9999 μ1 ν = some (y, μ2, ν)) (e3 : E_Reader_wordHere μ2 ν = some (k, μ2, ν)) : e_Reader_readAt_32 μ ν = cAt y k μ2 ν := by
  obtain ⟨w1, w2, w3⟩ := sw_f k hk
  rw [e_Reader_readAt_32, ob_eq e1, ob_eq e2, zlet_eq, ob_eq e3, if_pos w1, if_pos w3, w2, sw_v k hk, cAt]
  have : k = 0 ∨ k = 1 ∨ k = 2 ∨ k = 3 ∨ k = 4 ∨ k = 5 ∨ k = 6 ∨ k = 7 ∨ k = 8 ∨ k = 9 ∨ k = 10 := by omega
  rcases this with e | e | e | e | e | e | e | e | e | e | e <;> subst e <;> rfl
theorem cAt_K {q L k : Nat} {t : Nat → Int32} {μ κ : zI} {ν : zJ} {y : Int32} (h : K0 q L t μ κ) (hC : TC L t μ) : ∃ μ', cAt y k μ ν = some (μ', ν) ∧ pC μ μ' ∧ K0 q L t μ' κ := by
  obtain ⟨μ1, a1, -, a3, a4⟩ := h.next (ν := ν) (τ := ν) hC
  by_cases c7 : k = 7
  · obtain ⟨z, μ2, b1, -, b3, b4⟩ := a4.num (ν := ν) (τ := ν) (x1 := 0) (x2 := μ1 (19 + 3) 0 - 1) (y1 := 0) (y2 := 0) (hC.p a3)
    obtain ⟨μ3, c1, c2, c3⟩ := at_lastK (ν := ν) (lo := 0) (hi := 100) (y := y) (b := 0) (c := z) b4 ((hC.p a3).p b3)
    exact ⟨μ3, by rw [cAt, if_pos c7, ob_eq a1, ob_eq b1]; exact c1, (a3.tr b3).tr c2, c3⟩
  · by_cases c8 : k = 8
    · obtain ⟨μ3, c1, c2, c3⟩ := at_lastK (ν := ν) (lo := 0) (hi := 1) (y := y) (b := 1) (c := -2) a4 (hC.p a3)
      exact ⟨μ3, by rw [cAt, if_neg c7, if_pos c8, ob_eq a1]; exact c1, a3.tr c2, c3⟩
    · by_cases c9 : k = 9
      · obtain ⟨μ3, c1, c2, c3⟩ := at_lastK (ν := ν) (lo := 45000) (hi := 55000) (y := y) (b := 2) (c := -2) a4 (hC.p a3)
        exact ⟨μ3, by rw [cAt, if_neg c7, if_neg c8, if_pos c9, ob_eq a1]; exact c1, a3.tr c2, c3⟩
      · exact ⟨μ, by rw [cAt, if_neg c7, if_neg c8, if_neg c9, ob_eq (h.ref (ν := ν) (τ := ν) (w := 1) (w' := 1)).1]; rfl, pC.rf, h⟩
/-- the class's line from its start, a fault there -/
theorem c32_K {q L : Nat} {t : Nat → Int32} {μ κ : zI} {ν : zJ} (h : K0 q L t μ κ) (hC : TC L t μ) : ∃ μ', e_Reader_readAt_32 μ ν = some (μ', ν) ∧ pC μ μ' ∧ K0 q L t μ' κ := by
  obtain ⟨μ1, a1, -, a3, a4⟩ := h.next (ν := ν) (τ := ν) hC
  obtain ⟨z, μ2, b1, -, b3, b4⟩ := a4.num (ν := ν) (τ := ν) (x1 := 1) (x2 := 9999) (y1 := 0) (y2 := 0) (hC.p a3)
  obtain ⟨k, k1, k2⟩ := b4.word (ν := ν) ((hC.p a3).p b3)
  obtain ⟨μ3, c1, c2, c3⟩ := cAt_K (k := k) (y := z) (ν := ν) b4 ((hC.p a3).p b3)
  exact ⟨μ3, by rw [cAt_eq k1 a1 b1 k2]; exact c1, (a3.tr b3).tr c2, c3⟩
theorem line_at {q L s n m : Nat} {t : Nat → Int32} {μ κ : zI} {ν τ : zJ} (h : T0 q L t s μ κ) (hC : TC L t μ) (hM : TM q L t κ) (n6 : n ≤ 6) (n1 : μ (19 + 3) 0 = nI n) (n2 : κ q 10 = nI n) (hE : EV q n m μ κ) : ∃ μ' κ', E_Reader_readAt μ ν = some (μ', ν) ∧ E_M_readAt q κ τ = some (κ', τ) ∧ eC' μ μ' ∧ eM' q κ κ' ∧ ((∃ s', s ≤ s' ∧ T0 q L t s' μ' κ' ∧ EV q n (m + 1) μ' κ' ∧ n ≠ 0) ∨ (K0 q L t μ' κ' ∧ ∀ r, r ≠ 3 → μ' r = μ r)) := by
  obtain ⟨m24, m1, m2, -⟩ := id hE
  have fault : ∀ v : Int32, ¬ v = 0 → (∀ μ1, E_Reader_refuse v μ ν = some (μ1, ν) → E_Reader_refuse 2 μ1 ν = some (μ1, ν) → μ1 (19 + 9) 0 = nI m → E_Reader_readAt μ ν = e_Reader_readAt_32 μ1 ν) → (E_M_readAt q κ τ = Option.bind (E_M_wrong q v κ τ) fun ty4 => e_M_readAt_29 q ty4.1 ty4.2) → ∃ μ' κ', E_Reader_readAt μ ν = some (μ', ν) ∧ E_M_readAt q κ τ = some (κ', τ) ∧ eC' μ μ' ∧ eM' q κ κ' ∧ ((∃ s', s ≤ s' ∧ T0 q L t s' μ' κ' ∧ EV q n (m + 1) μ' κ' ∧ n ≠ 0) ∨ (K0 q L t μ' κ' ∧ ∀ r, r ≠ 3 → μ' r = μ r)) := by
    intro v hv eC eM
    obtain ⟨μ1, κ1, a1, a2, a3, a4, a5⟩ := h.ref (ν := ν) (τ := τ) hv
    have r2 := (a5.ref (ν := ν) (τ := τ) (w := 2) (w' := 2)).1
    obtain ⟨μ2, b1, b2, b3⟩ := c32_K (ν := ν) a5 (hC.p a3)
    have p := a3.tr b2
    exact ⟨μ2, κ1, by rw [eC μ1 a1 r2 (by rw [a3.1 _ (by decide)]; exact m1)]; exact b1, by rw [eM, ob_eq a2]; exact at29_K a5.2.1, p.a, a4.a, Or.inr ⟨b3, p.1⟩⟩
  by_cases n0 : n = 0
  · refine fault 1 (by decide) (fun μ1 a1 r2 g => ?_) (by rw [E_M_readAt, e_M_readAt_0, n2, if_pos (by rw [n0]; rfl)])
    rw [E_Reader_readAt, e_Reader_readAt_0, n1, if_pos (by rw [n0]; rfl), ob_eq a1]
    dsimp only
    rw [e_Reader_readAt_15, ob_eq r2]
    dsimp only
    rw [ite_self]
  · have nn : ¬ nI n = 0 := nI_ne0 (by omega) (by omega)
    by_cases em : m = 24
    · refine fault 2 (by decide) (fun μ1 a1 r2 g => ?_) (by rw [E_M_readAt, e_M_readAt_0, n2, if_neg nn, m2, if_pos (by rw [em]; rfl)])
      rw [E_Reader_readAt, e_Reader_readAt_0, n1, if_neg nn, e_Reader_readAt_15, m1, if_neg (by rw [em]; decide), ob_eq a1]
    · have hm : m < 24 := by omega
      have sC : E_Reader_readAt μ ν = e_Reader_readAt_32 μ ν := by
        rw [E_Reader_readAt, e_Reader_readAt_0, n1, if_neg nn, e_Reader_readAt_15, m1, if_pos (show nI m < 24 from nI_lt (b := 24) hm (by decide))]
      have sM : E_M_readAt q κ τ = e_M_readAt_29 q κ τ := by
        rw [E_M_readAt, e_M_readAt_0, n2, if_neg nn, m2, if_neg (show ¬ nI m = 24 from fun g => em ((nI_eq (b := 24) (by omega) (by decide)).mp g))]
      obtain ⟨μ1, κ1, s1, a1, a2, a3, a4, a5, a6⟩ := h.next (ν := ν) (τ := τ) hC hM
      have eb := tkE_b (t := t) h.1.1
      obtain ⟨y, y', μ2, κ2, b1, b2, b3, b4, b5⟩ := a6.num (ν := ν) (τ := τ) (x1 := 1) (x2 := 9999) (hC.p a3) (hM.p a4) (by decide) (by decide)
      have C2 := (hC.p a3).p b3
      have M2 := (hM.p a4).p b4
      have p := a3.tr b3
      have pm := a4.tr b4
      rcases b5 with ⟨s2, d1, d2, d3, d4, d5⟩ | d2
      · subst d3
        have eb1 := tkE_b (t := t) a6.1.1
        have sM2 : E_M_readAt q κ τ = if κ2 q 17 = 0 then e_M_readAt_65 q y (κ2 q 18) κ2 τ else e_M_readAt_65 q y (-1) κ2 τ := by
          rw [sM, e_M_readAt_29, ob_eq a2, ob_eq b2, zlet_eq]
          dsimp only
          rw [if_pos d2.2.2.2.1]
        -- a word that's not of the three
        have no : ∀ k, k < 11 → k ≠ 7 → k ≠ 8 → k ≠ 9 → E_Reader_wordHere μ2 ν = some (k, μ2, ν) → ∀ x2 : Int32, ¬ 7 ≤ x2 → E_M_readAt q κ τ = e_M_readAt_65 q y x2 κ2 τ → ∃ μ' κ', E_Reader_readAt μ ν = some (μ', ν) ∧ E_M_readAt q κ τ = some (κ', τ) ∧ eC' μ μ' ∧ eM' q κ κ' ∧ ((∃ s', s ≤ s' ∧ T0 q L t s' μ' κ' ∧ EV q n (m + 1) μ' κ' ∧ n ≠ 0) ∨ (K0 q L t μ' κ' ∧ ∀ r, r ≠ 3 → μ' r = μ r)) := by
          intro k hk k7 k8 k9 ew x2 hx eM
          obtain ⟨μ3, κ3, e1, e2, e3, e4, e5⟩ := d2.ref (ν := ν) (τ := τ) (w := 1) (by decide)
          have p3 := p.tr e3
          refine ⟨μ3, κ3, ?_, ?_, p3.a, (pm.tr e4).a, Or.inr ⟨e5, p3.1⟩⟩
          · rw [sC, cAt_eq hk a1 b1 ew, cAt, if_neg k7, if_neg k8, if_neg k9, ob_eq e1]; rfl
          · rw [eM, e_M_readAt_65, if_neg hx, ob_eq e2]
            exact at77_K e5.2.1
        rcases d2.word (ν := ν) C2 with ⟨w, w10, ew, e17, e18, -⟩ | ⟨ew, e17⟩
        · rw [if_pos e17, e18] at sM2
          by_cases w7 : w < 7
          · have : ∀ w, w < 7 → ix w < 11 ∧ ix w ≠ 7 ∧ ix w ≠ 8 ∧ ix w ≠ 9 ∧ ¬ (7 : Int32) ≤ nI w := by decide
            obtain ⟨g1, g2, g3, g4, g5⟩ := this w w7
            exact no (ix w) g1 g2 g3 g4 ew (nI w) g5 sM2
          · -- the token after the word
            obtain ⟨μ3, κ3, s3, e1, e2, e3, e4, e5, e6⟩ := d2.next (ν := ν) (τ := τ) C2 M2
            have eb2 := tkE_b (t := t) d2.1.1
            have p3 := p.tr e3
            have pm3 := pm.tr e4
            have C3 := C2.p e3
            have M3 := M2.p e4
            have E3 := hE.p p3 pm3
            have N3 : μ3 (19 + 3) 0 = nI n := by rw [p3.1 _ (by decide)]; exact n1
            have N10 : κ3 q 10 = nI n := by rw [pm3.2 10 (by decide)]; exact n2
            have fin : ∀ {μ' κ' μ4 κ4 : zI} {s4 : Nat}, pC μ3 μ4 → pM q κ3 κ4 → s3 ≤ s4 → eC' μ4 μ' → eM' q κ4 κ' → ((∃ s', s4 ≤ s' ∧ T0 q L t s' μ' κ' ∧ EV q n (m + 1) μ' κ') ∨ (K0 q L t μ' κ' ∧ ∀ r, r ≠ 3 → μ' r = μ4 r)) → eC' μ μ' ∧ eM' q κ κ' ∧ ((∃ s', s ≤ s' ∧ T0 q L t s' μ' κ' ∧ EV q n (m + 1) μ' κ' ∧ n ≠ 0) ∨ (K0 q L t μ' κ' ∧ ∀ r, r ≠ 3 → μ' r = μ r)) := by
              intro μ' κ' μ4 κ4 s4 g1 g2 g3 g4 g5 g6
              refine ⟨(p3.tr g1).a.tr g4, (pm3.tr g2).a.tr g5, ?_⟩
              rcases g6 with ⟨s', h1, h2, h3⟩ | ⟨h1, h2⟩
              · exact Or.inl ⟨s', by omega, h2, h3, n0⟩
              · exact Or.inr ⟨h1, fun r r3 => by rw [h2 r r3, (p3.tr g1).1 r r3]⟩
            have hw : w = 7 ∨ w = 8 ∨ w = 9 := by omega
            rcases hw with e | e | e <;> subst e
            · -- light
              have sM3 : E_M_readAt q κ τ = Option.bind (E_M_numeral q 0 (nI n - 1) κ3 τ) fun ty3 => Option.bind (E_M_numeral q 0 100 ty3.2.1 ty3.2.2) fun ty5 => e_M_readAt_143 q y (nI 7) ty3.1 ty5.1 ty5.2.1 ty5.2.2 := by
                rw [sM2, e_M_readAt_65, if_pos (by decide), e_M_readAt_77, ob_eq e2]
                dsimp only
                rw [if_pos (by decide), N10]
                rfl
              have sC3 : E_Reader_readAt μ ν = Option.bind (E_Reader_readNumber 0 (nI n - 1) μ3 ν) fun ty11 => Option.bind (E_Reader_readNumber 0 100 ty11.2.1 ty11.2.2) fun ty13 => Option.bind (E_Reader_addComing y 0 ty11.1 ty13.1 ty13.2.1 ty13.2.2) fun ty14 => e_Reader_readAt_176 y ty14.1 ty14.2 := by
                rw [sC, cAt_eq (by decide) a1 b1 ew, cAt, if_pos (by decide), ob_eq e1]
                dsimp only
                rw [N3]
              have en : nI n - 1 = nI (n - 1) := by rw [show n = (n - 1) + 1 by omega, nI_pred, Nat.add_sub_cancel]
              have tn : (nI (n - 1)).toInt = (n - 1 : Nat) := nI_toInt (by omega)
              obtain ⟨z, z', μ4, κ4, f1, f2, f3, f4, f5⟩ := e6.num (ν := ν) (τ := τ) (x1 := 0) (x2 := nI n - 1) C3 M3 (by decide) (by rw [en, tn]; omega)
              rw [sC3, sM3, ob_eq f1, ob_eq f2]
              dsimp only
              rcases f5 with ⟨s4, g1, g2, g3, g4, g5⟩ | g2
              · subst g3
                have eb3 := tkE_b (t := t) e6.1.1
                rw [en, tn] at g5
                rw [show (0 : Int32).toInt = 0 from rfl] at g4
                obtain ⟨μ', κ', h1, h2, h3, h4, h5⟩ := at_last (ν := ν) (τ := τ) (lo := 0) (hi := 100) (y := y) (x2 := nI 7) (b := 0) (c := z) g2 (C3.p f3) (M3.p f4) (E3.p f3 f4) hm d4 d5 (by decide) (fun v v0 v1 => Or.inl ⟨rfl, ⟨z.toInt.toNat, by omega, by rw [← Int32.toInt_inj, nI_toInt (by omega)]; omega⟩, v0, v1⟩) (by decide) (by decide)
                exact ⟨μ', κ', h1, h2, fin f3 f4 (by omega) h3 h4 h5⟩
              · obtain ⟨μ', h1, h3, h4⟩ := at_lastK (ν := ν) (lo := 0) (hi := 100) (y := y) (b := 0) (c := z) g2 (C3.p f3)
                exact ⟨μ', κ4, h1, last_K g2.2.1, fin (s4 := s3) f3 f4 (Nat.le_refl _) h3.a pM.rf.a (Or.inr ⟨h4, h3.1⟩)⟩
            · -- grid
              have sM3 : E_M_readAt q κ τ = Option.bind (E_M_numeral q 0 1 κ3 τ) fun ty5 => e_M_readAt_143 q y (nI 8) (-2) ty5.1 ty5.2.1 ty5.2.2 := by
                rw [sM2, e_M_readAt_65, if_pos (by decide), e_M_readAt_77, ob_eq e2]
                dsimp only
                rw [if_neg (by decide), e_M_readAt_103, if_neg (by decide), if_pos (by decide)]
              obtain ⟨μ', κ', h1, h2, h3, h4, h5⟩ := at_last (ν := ν) (τ := τ) (lo := 0) (hi := 1) (y := y) (x2 := nI 8) (b := 1) (c := -2) e6 C3 M3 E3 hm d4 d5 (by decide) (fun v v0 v1 => Or.inr (Or.inl rfl)) (by decide) (by decide)
              refine ⟨μ', κ', ?_, by rw [sM3]; exact h2, fin (s4 := s3) pC.rf pM.rf (Nat.le_refl _) h3 h4 h5⟩
              rw [sC, cAt_eq (by decide) a1 b1 ew, cAt, if_neg (by decide), if_pos (by decide), ob_eq e1]
              exact h1
            · -- tune
              have sM3 : E_M_readAt q κ τ = Option.bind (E_M_numeral q 45000 55000 κ3 τ) fun ty5 => e_M_readAt_143 q y (nI 9) (-2) ty5.1 ty5.2.1 ty5.2.2 := by
                rw [sM2, e_M_readAt_65, if_pos (by decide), e_M_readAt_77, ob_eq e2]
                dsimp only
                rw [if_neg (by decide), e_M_readAt_103, if_neg (by decide), if_neg (by decide)]
              obtain ⟨μ', κ', h1, h2, h3, h4, h5⟩ := at_last (ν := ν) (τ := τ) (lo := 45000) (hi := 55000) (y := y) (x2 := nI 9) (b := 2) (c := -2) e6 C3 M3 E3 hm d4 d5 (by decide) (fun v v0 v1 => Or.inr (Or.inr ⟨rfl, v0, v1⟩)) (by decide) (by decide)
              refine ⟨μ', κ', ?_, by rw [sM3]; exact h2, fin (s4 := s3) pC.rf pM.rf (Nat.le_refl _) h3 h4 h5⟩
              rw [sC, cAt_eq (by decide) a1 b1 ew, cAt, if_neg (by decide), if_neg (by decide), if_pos (by decide), ob_eq e1]
              exact h1
        · rw [if_neg e17] at sM2
          exact no 10 (by decide) (by decide) (by decide) (by decide) ew (-1) (by decide) sM2
      · obtain ⟨k, k1, k2⟩ := d2.word (ν := ν) C2
        obtain ⟨μ3, c1, c2, c3⟩ := cAt_K (k := k) (y := y) (ν := ν) d2 C2
        have p3 := p.tr c2
        refine ⟨μ3, κ2, by rw [sC, cAt_eq k1 a1 b1 k2]; exact c1, ?_, p3.a, pm.a, Or.inr ⟨c3, p3.1⟩⟩
        rw [sM, e_M_readAt_29, ob_eq a2, ob_eq b2, zlet_eq]
        dsimp only
        rw [if_neg d2.2.1]
