/-! A line of settings, a line of a module. -/
def BS (q : Nat) (B : Nat → Bool) (μ κ : zI) : Prop := μ 3 7 = tB B ∧ (∀ w, w < 5 → κ (q + 3) w = if B w = true then 1 else 0) ∧ κ q 6 = nI (cB B)
theorem line_set {q L w s n m : Nat} {B : Nat → Bool} {t : Nat → Int32} {μ κ : zI} {ν τ : zJ} (hw : w < 5) (h : T0 q L t s μ κ) (hC : TC L t μ) (hM : TM q L t κ) (hJ : JT q μ κ) (hB : BS q B μ κ) (h5 : B 0 = false → κ q 5 = 0) (n1 : μ (19 + 3) 0 = nI n) (n2 : κ q 10 = nI n) (n6 : n ≤ 6) (m1 : μ (19 + 9) 0 = nI m) (m2 : κ q 12 = nI m) (m24 : m ≤ 24) : ∃ μ' κ', E_Reader_readSettings (ix w) μ ν = some (μ', ν) ∧ E_M_readOther q (nI w) κ τ = some (κ', τ) ∧ oC μ μ' ∧ oM q κ κ' ∧ ((∃ s', s ≤ s' ∧ T0 q L t s' μ' κ' ∧ JT q μ' κ' ∧ n ≠ 0 ∧ m = 0 ∧ BS q (setB B w) μ' κ' ∧ (w ≠ 0 → κ' q 5 = κ q 5)) ∨ K0 q L t μ' κ') := by
  obtain ⟨w1, w2, w3, w4, w5'⟩ := wf_f w hw
  obtain ⟨B7, B3, B6⟩ := hB
  have b3 := B3 w hw
  have sC : E_Reader_readSettings (ix w) μ ν = if n = 0 then e_Reader_readSettings_27 (ix w) (bit1 w) μ ν else if m = 0 then e_Reader_readSettings_32 (ix w) (bit1 w) μ ν else e_Reader_readSettings_27 (ix w) (bit1 w) μ ν := by
    rw [E_Reader_readSettings, e_Reader_readSettings_0, if_pos (decide_eq_true w3), w1, w5', zlet_eq, n1, m1]
    by_cases n0 : n = 0
    · rw [if_pos n0, if_pos (by rw [n0]; rfl)]
    · rw [if_neg n0, if_neg (nI_ne0 (by omega) (by omega))]
      by_cases m0 : m = 0
      · rw [if_pos m0, if_pos (by rw [m0]; decide)]
      · rw [if_neg m0, if_neg (nI_nle (by omega) (by omega))]
  have sM : E_M_readOther q (nI w) κ τ = if n = 0 then e_M_readOther_14 q (nI w) κ τ else if m = 0 then (if B w = false then e_M_readOther_36 q (nI w) κ τ else Option.bind (E_M_wrong q 3 κ τ) fun ty5 => e_M_readOther_36 q (nI w) ty5.1 ty5.2) else e_M_readOther_14 q (nI w) κ τ := by
    rw [E_M_readOther, e_M_readOther_0, n2, m2, if_pos (zin_nI hw (by decide)), nI_clamp (by omega), b3]
    by_cases n0 : n = 0
    · rw [if_pos n0, if_pos (by rw [n0]; rfl)]
    · rw [if_neg n0, if_neg (nI_ne0 (by omega) (by omega))]
      by_cases m0 : m = 0
      · rw [if_pos m0, if_pos (by rw [m0]; decide)]
        cases hb : B w
        · rw [if_pos (by decide), if_pos rfl]
        · rw [if_neg (by decide), if_neg (by decide)]
      · rw [if_neg m0, if_neg (nI_nle (by omega) (by omega))]
  -- where it's refused
  have no : ∀ v : Int32, ¬ v = 0 → E_Reader_readSettings (ix w) μ ν = (Option.bind (E_Reader_refuse v μ ν) fun ty => e_Reader_readSettings_46 (ix w) (bit1 w) ty.1 ty.2) ∨ E_Reader_readSettings (ix w) μ ν = (Option.bind (E_Reader_refuse v μ ν) fun ty => e_Reader_readSettings_32 (ix w) (bit1 w) ty.1 ty.2) → E_M_readOther q (nI w) κ τ = (Option.bind (E_M_wrong q v κ τ) fun ty => e_M_readOther_36 q (nI w) ty.1 ty.2) → ∃ μ' κ', E_Reader_readSettings (ix w) μ ν = some (μ', ν) ∧ E_M_readOther q (nI w) κ τ = some (κ', τ) ∧ oC μ μ' ∧ oM q κ κ' ∧ ((∃ s', s ≤ s' ∧ T0 q L t s' μ' κ' ∧ JT q μ' κ' ∧ n ≠ 0 ∧ m = 0 ∧ BS q (setB B w) μ' κ' ∧ (w ≠ 0 → κ' q 5 = κ q 5)) ∨ K0 q L t μ' κ') := by
    intro v hv eC eM
    obtain ⟨μ1, κ1, a1, a2, a3, a4, a5⟩ := h.ref (ν := ν) (τ := τ) hv
    obtain ⟨μ2, b1, b2, b3'⟩ := C46_K (ν := ν) (x3 := bit1 w) hw a5 (hC.p a3)
    obtain ⟨κ2, c1, c2, c3, c4⟩ := M36_K (τ := τ) hw a5.2.1
    have r3 := (a5.ref (ν := ν) (τ := τ) (w := 3) (w' := 3)).1
    have e32 : e_Reader_readSettings_32 (ix w) (bit1 w) μ1 ν = some (μ2, ν) := by
      rw [e_Reader_readSettings_32, ob_eq r3]
      dsimp only
      rw [b1, ite_self]
    refine ⟨μ2, κ2, ?_, by rw [eM, ob_eq a2]; exact c1, a3.s.o.tr b2, a4.s.o.tr c2, Or.inr (b3'.fr rfl (fun k h1 h2 => ?_))⟩
    · rcases eC with eC | eC
      · rw [eC, ob_eq a1]; exact b1
      · rw [eC, ob_eq a1]; exact e32
    · have : k = 19 ∨ k = 20 := by omega
      rcases this with rfl | rfl
      · exact c3
      · exact c4
  by_cases n0 : n = 0
  · rw [if_pos n0] at sC sM
    exact no 1 (by decide) (Or.inr (by rw [sC, e_Reader_readSettings_27])) (by rw [sM, e_M_readOther_14])
  · rw [if_neg n0] at sC sM
    by_cases m0 : m = 0
    · rw [if_pos m0] at sC sM
      cases hb : B w
      · -- it's read
        rw [hb, if_pos rfl] at sM
        have sC2 : E_Reader_readSettings (ix w) μ ν = e_Reader_readSettings_46 (ix w) (bit1 w) μ ν := by
          rw [sC, e_Reader_readSettings_32, B7, if_pos ((tB_get hw).mpr hb)]
        obtain ⟨A, hA⟩ : ∃ A, A = zu μ 3 7 (tB (setB B w)) := ⟨_, rfl⟩
        obtain ⟨K, hK⟩ : ∃ K, K = zu (zu κ (q + 3) w 1) q 6 (nI (cB (setB B w))) := ⟨_, rfl⟩
        have kr : ∀ r, r ≠ q → r ≠ q + 3 → K r = κ r := fun r a b => by rw [hK, zgr a, zgr b]
        have kq : ∀ k, k ≠ 6 → K q k = κ q k := fun k a => by rw [hK, zgk a, zgr (by omega)]
        have TA : T0 q L t s A K := by rw [hA]; exact h.b7 (fun k _ _ => kq k (by omega))
        have CA : TC L t A := by rw [hA]; exact hC.fr (zgr (by decide)) (zgr (by decide))
        have MK : TM q L t K := hM.fr (kr _ (by omega) (by omega)) (kq 14 (by decide))
        obtain ⟨μ1, κ1, s1, a1, a2, a3, a4, a5, a6⟩ := TA.next (ν := ν) (τ := τ) CA MK
        have eb := tkE_b (t := t) h.1.1
        have J1 : JT q μ1 κ1 := by
          unfold JT
          rw [a3.1 _ (by decide), a3.1 (19 + 12) (by decide), a4.1 _ (by omega), a4.2 5 (by decide), hA, zgr (by decide), zgr (by decide), kr _ (by omega) (by omega), kq 5 (by decide)]
          exact hJ
        obtain ⟨μ', κ', c1, c2, c3, c4, c5, c6⟩ := body_T (ν := ν) (τ := τ) (x3 := bit1 w) hw a6 (CA.p a3) (MK.p a4) J1 (fun e => by rw [a4.2 5 (by decide), kq 5 (by decide)]; exact h5 (by rw [← e]; exact hb)) rfl
        have BS' : BS q (setB B w) μ' κ' := by
          refine ⟨by rw [c3.2.1, a3.2, hA, zgh], fun j hj => ?_, by rw [c4.2 6 (by decide) (by decide), a4.2 6 (by decide), hK, zgh]⟩
          rw [c4.1 _ (by omega) (by omega), a4.1 _ (by omega), hK, zgr (by omega), setB]
          by_cases e : j = w
          · rw [e, zgh, if_pos rfl, if_pos rfl]
          · rw [zgk e, if_neg e]; exact B3 j hj
        refine ⟨μ', κ', ?_, ?_, ?_, ?_, ?_⟩
        · rw [sC2, e_Reader_readSettings_46, B7, tB_set hw, zlet_eq, ← hA, ob_eq a1, if_pos (decide_eq_true w3), w1, zlet_eq]
          exact c1
        · rw [sM, e_M_readOther_36, if_pos (zin_nI hw (by decide)), zlet_eq, nI_clamp (by omega), zlet_eq, zgr (show q ≠ q + 3 by omega), B6, nI_1, ← cB_set hw hb, show vp_nar .boolean 1 = 1 from rfl, ← hK, ob_eq a2]
          exact c2
        · refine (oC.tr ⟨fun r a _ _ => ?_, fun k _ => ?_⟩ a3.s.o).tr c3.o
          · rw [hA, zgr a]
          · rw [hA, zgr (by decide)]
        · exact (oM.tr ⟨fun r a _ c => kr r a c, fun k _ b _ => kq k b⟩ a4.s.o).tr c4.o
        · rcases c6 with ⟨s', d1, d2, d3⟩ | d
          · exact Or.inl ⟨s', by omega, d2, d3, n0, m0, BS', fun g => by rw [c5 g, a4.2 5 (by decide), kq 5 (by decide)]⟩
          · exact Or.inr d
      · rw [hb, if_neg (by decide)] at sM
        exact no 3 (by decide) (Or.inl (by rw [sC, e_Reader_readSettings_32, B7, if_neg (fun g => by rw [(tB_get hw).mp g] at hb; exact absurd hb (by decide))])) sM
    · rw [if_neg m0] at sC sM
      exact no 1 (by decide) (Or.inr (by rw [sC, e_Reader_readSettings_27])) (by rw [sM, e_M_readOther_14])
/-! ## a module -/
/-- the modules told so far -/
def MD (q n : Nat) (μ κ : zI) : Prop := n ≤ 6 ∧ μ (19 + 3) 0 = nI n ∧ κ q 10 = nI n ∧ ∀ i, i < n → (μ (19 + 4) i = κ (q + 4) (6 + i) ∧ μ (19 + 5) i = κ (q + 5) (6 + i) ∧ μ (19 + 6) i = 100 ∧ μ (19 + 7) i = κ (q + 4) (6 + i)) ∧ 1 ≤ (κ (q + 4) (6 + i)).toInt ∧ (κ (q + 4) (6 + i)).toInt ≤ 999 ∧ 1 ≤ (κ (q + 5) (6 + i)).toInt ∧ (κ (q + 5) (6 + i)).toInt ≤ 999
def dC' (μ μ' : zI) : Prop := ∀ r, r ≠ 3 → r < 19 + 3 ∨ 19 + 7 < r → μ' r = μ r
def dM (q : Nat) (κ κ' : zI) : Prop := (∀ r, r ≠ q → r ≠ q + 4 → r ≠ q + 5 → κ' r = κ r) ∧ (∀ k, k ≠ 10 → k < 15 ∨ 20 < k → κ' q k = κ q k) ∧ ∀ i, i < 6 → κ' (q + 4) i = κ (q + 4) i ∧ κ' (q + 5) i = κ (q + 5) i
theorem line_mod {q L s n m : Nat} {B : Nat → Bool} {t : Nat → Int32} {μ κ : zI} {ν τ : zJ} (h : T0 q L t s μ κ) (hC : TC L t μ) (hM : TM q L t κ) (hB : BS q B μ κ) (hD : MD q n μ κ) (m1 : μ (19 + 9) 0 = nI m) (m2 : κ q 12 = nI m) (m24 : m ≤ 24) : ∃ μ' κ', E_Reader_readModule μ ν = some (μ', ν) ∧ E_M_readModule q κ τ = some (κ', τ) ∧ dC' μ μ' ∧ dM q κ κ' ∧ μ' 3 7 = μ 3 7 ∧ ((∃ s', s ≤ s' ∧ T0 q L t s' μ' κ' ∧ MD q (n + 1) μ' κ' ∧ m = 0) ∨ (K0 q L t μ' κ' ∧ (∀ r, r ≠ 3 → μ' r = μ r) ∧ κ' q 10 = κ q 10)) := by
  obtain ⟨n6, n1, n2, hi⟩ := hD
  obtain ⟨B7, B3, B6⟩ := hB
  have c5 := cB_5 (B := B)
  -- both, where a fault is
  have tailK : ∀ (μ κ : zI), K0 q L t μ κ → TC L t μ → ∃ μ', e_Reader_readModule_39 μ ν = some (μ', ν) ∧ e_M_readModule_36 q κ τ = some (κ, τ) ∧ pC μ μ' ∧ K0 q L t μ' κ := by
    intro μ κ hK hC
    obtain ⟨μ1, a1, a2, a3, a4⟩ := hK.next (ν := ν) (τ := τ) hC
    obtain ⟨x, μ2, b1, b2, b3, b4⟩ := a4.num (ν := ν) (τ := τ) (x1 := 1) (x2 := 999) (y1 := 1) (y2 := 999) (hC.p a3)
    obtain ⟨y, μ3, c1, c2, c3, c4⟩ := b4.num (ν := ν) (τ := τ) (x1 := 1) (x2 := 999) (y1 := 1) (y2 := 999) ((hC.p a3).p b3)
    refine ⟨μ3, ?_, ?_, (a3.tr b3).tr c3, c4⟩
    · rw [e_Reader_readModule_39, ob_eq a1, ob_eq b1, zlet_eq, ob_eq c1, zlet_eq]
      dsimp only
      rw [if_neg (by rw [c4.2.2.1]; exact c4.2.1), e_Reader_readModule_77]
    · rw [e_M_readModule_36, ob_eq a2, ob_eq b2, zlet_eq, ob_eq c2, zlet_eq]
      dsimp only
      rw [if_neg c4.2.1]
  have fault : ∀ (v : Int32), ¬ v = 0 → ∀ (eM : E_M_readModule q κ τ = Option.bind (E_M_wrong q v κ τ) fun ty => e_M_readModule_36 q ty.1 ty.2), (∀ μ1 μ2, E_Reader_refuse v μ ν = some (μ1, ν) → E_Reader_refuse 2 μ1 ν = some (μ1, ν) → e_Reader_readModule_39 μ1 ν = some (μ2, ν) → E_Reader_readModule μ ν = some (μ2, ν)) → ∃ μ' κ', E_Reader_readModule μ ν = some (μ', ν) ∧ E_M_readModule q κ τ = some (κ', τ) ∧ dC' μ μ' ∧ dM q κ κ' ∧ μ' 3 7 = μ 3 7 ∧ ((∃ s', s ≤ s' ∧ T0 q L t s' μ' κ' ∧ MD q (n + 1) μ' κ' ∧ m = 0) ∨ (K0 q L t μ' κ' ∧ (∀ r, r ≠ 3 → μ' r = μ r) ∧ κ' q 10 = κ q 10)) := by
    intro v hv eM eC
    obtain ⟨μ1, κ1, a1, a2, a3, a4, a5⟩ := h.ref (ν := ν) (τ := τ) hv
    have r2 := (a5.ref (ν := ν) (τ := τ) (w := 2) (w' := 2)).1
    obtain ⟨μ2, b1, b2, b3, b4⟩ := tailK μ1 κ1 a5 (hC.p a3)
    have p := a3.tr b3
    exact ⟨μ2, κ1, eC μ1 μ2 a1 r2 b1, by rw [eM, ob_eq a2]; exact b2, fun r r3 _ => p.1 r r3, ⟨fun r a _ _ => a4.1 r a, fun k _ b => a4.2 k b, fun i _ => by rw [a4.1 _ (by omega), a4.1 _ (by omega)]; exact ⟨rfl, rfl⟩⟩, p.2, Or.inr ⟨b4, p.1, a4.2 10 (by decide)⟩⟩
  by_cases cs : cB B = 0 ∧ m = 0
  · obtain ⟨c0, m0⟩ := cs
    have sC : E_Reader_readModule μ ν = e_Reader_readModule_22 μ ν := by
      rw [E_Reader_readModule, e_Reader_readModule_0, B7, if_pos (tB_zero.mpr c0), m1, if_pos (by rw [m0]; decide)]
    have sM : E_M_readModule q κ τ = if n = 6 then (Option.bind (E_M_wrong q 2 κ τ) fun ty4 => e_M_readModule_36 q ty4.1 ty4.2) else e_M_readModule_36 q κ τ := by
      rw [E_M_readModule, e_M_readModule_0, B6, if_neg (by rw [c0]; decide), m2, if_pos (by rw [m0]; decide), n2]
      by_cases e6 : n = 6
      · rw [if_pos e6, if_pos (by rw [e6]; rfl)]
      · rw [if_neg e6, if_neg (show ¬ nI n = 6 from fun g => e6 ((nI_eq (b := 6) (by omega) (by decide)).mp g))]
    by_cases e6 : n = 6
    · rw [if_pos e6] at sM
      refine fault 2 (by decide) sM (fun μ1 μ2 a1 _ b1 => ?_)
      rw [sC, e_Reader_readModule_22, n1, if_neg (by rw [e6]; decide), ob_eq a1]
      exact b1
    · rw [if_neg e6] at sM
      have sC2 : E_Reader_readModule μ ν = e_Reader_readModule_39 μ ν := by
        rw [sC, e_Reader_readModule_22, n1, if_pos (show nI n < 6 from nI_lt (b := 6) (by omega) (by decide))]
      obtain ⟨μ1, κ1, s1, a1, a2, a3, a4, a5, a6⟩ := h.next (ν := ν) (τ := τ) hC hM
      have eb := tkE_b (t := t) h.1.1
      obtain ⟨x, y, μ2, κ2, b1, b2, b3, b4, b5⟩ := a6.num (ν := ν) (τ := τ) (x1 := 1) (x2 := 999) (hC.p a3) (hM.p a4) (by decide) (by decide)
      have C2 := (hC.p a3).p b3
      have M2 := (hM.p a4).p b4
      rw [sC2, sM, e_Reader_readModule_39, ob_eq a1, ob_eq b1, zlet_eq, e_M_readModule_36, ob_eq a2, ob_eq b2, zlet_eq]
      dsimp only
      rcases b5 with ⟨s2, d1, d2, d3, d4, d5⟩ | d2
      · have eb1 := tkE_b (t := t) a6.1.1
        obtain ⟨z, u, μ3, κ3, e1, e2, e3, e4, e5⟩ := d2.num (ν := ν) (τ := τ) (x1 := 1) (x2 := 999) C2 M2 (by decide) (by decide)
        have p := (a3.tr b3).tr e3
        have pm := (a4.tr b4).tr e4
        rw [ob_eq e1, zlet_eq, ob_eq e2, zlet_eq]
        dsimp only
        rcases e5 with ⟨s3, f1, f2, f3, f4, f5⟩ | f2
        · have eb2 := tkE_b (t := t) d2.1.1
          have k1 : (1 : Int32).toInt = 1 := rfl
          have k9 : (999 : Int32).toInt = 999 := rfl
          have N3 : μ3 (19 + 3) 0 = nI n := by rw [p.1 _ (by decide)]; exact n1
          have N10 : κ3 q 10 = nI n := by rw [pm.2 10 (by decide)]; exact n2
          obtain ⟨A, hA⟩ : ∃ A, A = zu (zu (zu (zu (zu μ3 (19 + 4) n x) (19 + 5) n z) (19 + 6) n 100) (19 + 7) n x) (19 + 3) 0 (nI (n + 1)) := ⟨_, rfl⟩
          obtain ⟨K, hK⟩ : ∃ K, K = zu (zu (zu κ3 (q + 4) (6 + n) y) (q + 5) (6 + n) u) q 10 (nI (n + 1)) := ⟨_, rfl⟩
          have eA : E_Panel_addModule 19 x z μ3 ν = some (A, ν) := by
            have z6 : zin (nI n) 6 = true := zin_nI (by omega) (by decide)
            have c6 : (nI n).toNatClampNeg = n := nI_clamp (by omega)
            rw [E_Panel_addModule, e_Panel_addModule_0, N3, if_neg (lge (c := 6) (k := n) 6 rfl (by omega) (by decide)), if_pos z6, zlet_eq, c6]
            rw [show zu μ3 (19 + 4) n x (19 + 3) 0 = nI n by rw [zgr (by decide)]; exact N3, if_pos z6, zlet_eq, c6]
            rw [show zu (zu μ3 (19 + 4) n x) (19 + 5) n z (19 + 3) 0 = nI n by rw [zgr (by decide), zgr (by decide)]; exact N3, if_pos z6, zlet_eq, c6]
            rw [show zu (zu (zu μ3 (19 + 4) n x) (19 + 5) n z) (19 + 6) n 100 (19 + 3) 0 = nI n by rw [zgr (by decide), zgr (by decide), zgr (by decide)]; exact N3, if_pos z6, zlet_eq, c6]
            rw [show zu (zu (zu (zu μ3 (19 + 4) n x) (19 + 5) n z) (19 + 6) n 100) (19 + 7) n x (19 + 3) 0 = nI n by rw [zgr (by decide), zgr (by decide), zgr (by decide), zgr (by decide)]; exact N3, nI_1, zlet_eq, ← hA, e_Panel_addModule_60]
          have e6n : (6 : Int32) + nI n = nI (6 + n) := nI_add 6 n
          have z12 : zin (nI (6 + n)) 12 = true := zin_nI (by omega) (by decide)
          have c12 : (nI (6 + n)).toNatClampNeg = 6 + n := nI_clamp (by omega)
          rw [if_pos f2.2.1, ob_eq eA, e_Reader_readModule_77]
          simp (disch := omega) only [if_pos f2.2.2.2.1, N10, e6n, z12, c12, if_true, zlet_eq, zgr, nI_1]
          rw [← hK]
          have ar : ∀ r, r < 19 + 3 ∨ 19 + 7 < r → A r = μ3 r := fun r hr => by rw [hA, zgr (by omega), zgr (by omega), zgr (by omega), zgr (by omega), zgr (by omega)]
          have kr : ∀ r, r ≠ q → r ≠ q + 4 → r ≠ q + 5 → K r = κ3 r := fun r a b c => by rw [hK, zgr a, zgr c, zgr b]
          have kq : ∀ k, k ≠ 10 → K q k = κ3 q k := fun k a => by rw [hK, zgk a, zgr (by omega), zgr (by omega)]
          have K4 : ∀ i, K (q + 4) i = if i = 6 + n then y else κ (q + 4) i := fun i => by
            rw [hK, zgr (by omega), zgr (by omega)]
            by_cases e : i = 6 + n
            · rw [if_pos e, e, zgh]
            · rw [if_neg e, zgk e, pm.1 _ (by omega)]
          have K5 : ∀ i, K (q + 5) i = if i = 6 + n then u else κ (q + 5) i := fun i => by
            rw [hK, zgr (by omega)]
            by_cases e : i = 6 + n
            · rw [if_pos e, e, zgh]
            · rw [if_neg e, zgk e, zgr (by omega), pm.1 _ (by omega)]
          refine ⟨A, K, rfl, rfl, fun r r3 hr => by rw [ar r hr, p.1 r r3], ⟨fun r a b c => by rw [kr r a b c, pm.1 r a], fun k a b => by rw [kq k a, pm.2 k b], fun i hi6 => ?_⟩, by rw [ar 3 (by omega), p.2], Or.inl ⟨s3, by omega, f2.fr (ar 3 (by omega)) (fun k _ _ => kq k (by omega)), ⟨by omega, by rw [hA, zgh], by rw [hK, zgh], fun i hin => ?_⟩, m0⟩⟩
          · rw [K4, K5, if_neg (by omega), if_neg (by omega)]
            exact ⟨rfl, rfl⟩
          · rw [K4, K5]
            by_cases e : i = n
            · subst e
              rw [if_pos rfl, if_pos rfl]
              refine ⟨⟨?_, ?_, ?_, ?_⟩, ?_⟩
              · rw [hA]; simp (disch := omega) only [zgr, zgh]; exact d3
              · rw [hA]; simp (disch := omega) only [zgr, zgh]; exact f3
              · rw [hA]; simp (disch := omega) only [zgr, zgh]
              · rw [hA]; simp (disch := omega) only [zgr, zgh]; exact d3
              · rw [← d3, ← f3]
                rw [k1] at d4 f4
                rw [k9] at d5 f5
                exact ⟨d4, d5, f4, f5⟩
            · rw [if_neg (by omega), if_neg (by omega)]
              obtain ⟨⟨g1, g2, g3, g4⟩, g5⟩ := hi i (by omega)
              refine ⟨⟨?_, ?_, ?_, ?_⟩, g5⟩
              · rw [hA]; simp (disch := omega) only [zgr, zgk]; rw [p.1 _ (by decide)]; exact g1
              · rw [hA]; simp (disch := omega) only [zgr, zgk]; rw [p.1 _ (by decide)]; exact g2
              · rw [hA]; simp (disch := omega) only [zgr, zgk]; rw [p.1 _ (by decide)]; exact g3
              · rw [hA]; simp (disch := omega) only [zgr, zgk]; rw [p.1 _ (by decide)]; exact g4
        · rw [if_neg (by rw [f2.2.2.1]; exact f2.2.1), e_Reader_readModule_77, if_neg f2.2.1]
          exact ⟨μ3, κ3, rfl, rfl, fun r r3 _ => p.1 r r3, ⟨fun r a _ _ => pm.1 r a, fun k _ b => pm.2 k b, fun i _ => by rw [pm.1 _ (by omega), pm.1 _ (by omega)]; exact ⟨rfl, rfl⟩⟩, p.2, Or.inr ⟨f2, p.1, pm.2 10 (by decide)⟩⟩
      · obtain ⟨z, μ3, e1, e2, e3, e4⟩ := d2.num (ν := ν) (τ := τ) (x1 := 1) (x2 := 999) (y1 := 1) (y2 := 999) C2
        have p := (a3.tr b3).tr e3
        have pm := a4.tr b4
        rw [ob_eq e1, zlet_eq, ob_eq e2, zlet_eq]
        dsimp only
        rw [if_neg (by rw [e4.2.2.1]; exact e4.2.1), e_Reader_readModule_77, if_neg e4.2.1]
        exact ⟨μ3, κ2, rfl, rfl, fun r r3 _ => p.1 r r3, ⟨fun r a _ _ => pm.1 r a, fun k _ b => pm.2 k b, fun i _ => by rw [pm.1 _ (by omega), pm.1 _ (by omega)]; exact ⟨rfl, rfl⟩⟩, p.2, Or.inr ⟨e4, p.1, pm.2 10 (by decide)⟩⟩
  · have sM : E_M_readModule q κ τ = Option.bind (E_M_wrong q 1 κ τ) fun ty => e_M_readModule_36 q ty.1 ty.2 := by
      rw [E_M_readModule, e_M_readModule_0, B6, m2, e_M_readModule_14]
      by_cases c0 : cB B = 0
      · rw [if_neg (by rw [c0]; decide), if_neg (nI_nle (by omega) (by omega))]
      · rw [if_pos (show 0 < nI (cB B) from nI_lt (a := 0) (by omega) (by omega))]
    have sC : E_Reader_readModule μ ν = e_Reader_readModule_17 μ ν := by
      rw [E_Reader_readModule, e_Reader_readModule_0, B7, m1]
      by_cases c0 : cB B = 0
      · rw [if_pos (tB_zero.mpr c0), if_neg (nI_nle (by omega) (by omega))]
      · rw [if_neg (fun g => c0 (tB_zero.mp g))]
    refine fault 1 (by decide) sM (fun μ1 μ2 a1 r2 b1 => ?_)
    rw [sC, e_Reader_readModule_17, ob_eq a1, e_Reader_readModule_22, ob_eq r2]
    dsimp only
    rw [b1, ite_self]
