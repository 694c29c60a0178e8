/-! A line. -/
theorem sort_T {q L s : Nat} {t : Nat → Int32} {μ κ : zI} (h : T0 q L t s μ κ) : (tkK t L s = 4 ∧ κ q 17 = 2 ∧ s < L) ∨ (¬ tkK t L s = 4 ∧ ¬ κ q 17 = 2) := by
  obtain ⟨c0, -, -, -, -, -, ⟨f0, f2, f3, f4, f5⟩, f8⟩ := h
  by_cases hs : s < L
  · have e : tkK t L s = kd (t s) := by rw [tkK, if_pos hs]
    rw [e] at f0 f2 f3 f4 f5 ⊢
    rcases kd_c (t s) with ⟨k, -⟩ | ⟨k, -⟩ | ⟨k, -⟩ | ⟨k, -⟩ | ⟨k, -⟩
    · exact absurd k (f8 hs)
    · refine Or.inr ⟨by rw [k]; decide, ?_⟩
      rw [(f2 k).2]
      split <;> decide
    · exact Or.inr ⟨by rw [k]; decide, by rw [(f3 k).1]; decide⟩
    · exact Or.inl ⟨k, f4 k, hs⟩
    · exact Or.inr ⟨by rw [k]; decide, by rw [f5 k]; decide⟩
  · have e : tkK t L s = 0 := by rw [tkK, if_neg hs]
    exact Or.inr ⟨by rw [e]; decide, by rw [f0 e]; decide⟩
/-- the line's end, a fault there -/
theorem end_K {q L : Nat} {t : Nat → Int32} {μ κ : zI} {ν τ : zJ} {n2 : Nat} (h : K0 q L t μ κ) (hC : TC L t μ) : ∃ μ', e_Reader_readLine_86 n2 μ ν = some (μ', ν) ∧ e_M_readLine_70 q κ τ = some (zu κ q 13 (κ q 13 + 1), τ) ∧ pC μ μ' ∧ K0 q L t μ' (zu κ q 13 (κ q 13 + 1)) := by
  obtain ⟨μ1, a1, a2, a3, a4⟩ := h.next (ν := ν) (τ := τ) hC
  refine ⟨μ1, ?_, ?_, a3, a4.fr rfl (fun k _ _ => zgk (by omega))⟩
  · rw [e_Reader_readLine_86, ob_eq (h.ref (ν := ν) (τ := τ) (w := 1) (w' := 1)).1]
    dsimp only
    rw [e_Reader_readLine_99, ob_eq a1, ite_self]
  · rw [e_M_readLine_70, if_neg h.2.1, e_M_readLine_90, ob_eq a2, zlet_eq]
/-- the line's end -/
theorem end_T {q L s : Nat} {t : Nat → Int32} {μ κ : zI} {ν τ : zJ} {n2 : Nat} (h : T0 q L t s μ κ) (hC : TC L t μ) (hM : TM q L t κ) : ∃ μ' κ', e_Reader_readLine_86 n2 μ ν = some (μ', ν) ∧ e_M_readLine_70 q κ τ = some (zu κ' q 13 (κ' q 13 + 1), τ) ∧ pC μ μ' ∧ pM q κ κ' ∧ ((∃ s', s < s' ∧ s < L ∧ T0 q L t s' μ' (zu κ' q 13 (κ' q 13 + 1))) ∨ K0 q L t μ' (zu κ' q 13 (κ' q 13 + 1))) := by
  rcases sort_T h with ⟨k4, k17, sl⟩ | ⟨k4, k17⟩
  · obtain ⟨μ1, κ1, s1, a1, a2, a3, a4, a5, a6⟩ := h.next (ν := ν) (τ := τ) hC hM
    have eb := (tkE_b (t := t) h.1.1).2.2 sl
    refine ⟨μ1, κ1, ?_, ?_, a3, a4, Or.inl ⟨s1, by omega, sl, a6.fr rfl (fun k _ _ => zgk (by omega))⟩⟩
    · rw [e_Reader_readLine_86, if_pos (by rw [h.1.2.2.2.1]; exact k4), e_Reader_readLine_99, ob_eq a1]
    · rw [e_M_readLine_70, if_pos h.2.2.2.1, if_pos k17, e_M_readLine_90, ob_eq a2, zlet_eq]
  · obtain ⟨μ1, κ1, a1, a2, a3, a4, a5⟩ := h.ref (ν := ν) (τ := τ) (w := 1) (by decide)
    obtain ⟨μ2, b1, b2, b3, b4⟩ := a5.next (ν := ν) (τ := τ) (hC.p a3)
    refine ⟨μ2, κ1, ?_, ?_, a3.tr b3, a4, Or.inr (b4.fr rfl (fun k _ _ => zgk (by omega)))⟩
    · rw [e_Reader_readLine_86, if_neg (by rw [h.1.2.2.2.1]; exact k4), ob_eq a1]
      dsimp only
      rw [e_Reader_readLine_99, ob_eq b1]
    · rw [e_M_readLine_70, if_pos h.2.2.2.1, if_neg k17, ob_eq a2]
      dsimp only
      rw [e_M_readLine_90, ob_eq b2, zlet_eq]
/-- the class's line by its word -/
def cLn (k : Nat) (μ : zI) (ν : zJ) : Option (zI × zJ) := if k = 0 then Option.bind (E_Reader_readModule μ ν) fun ty => e_Reader_readLine_86 k ty.1 ty.2 else if k < 6 then Option.bind (E_Reader_readSettings k μ ν) fun ty => e_Reader_readLine_86 k ty.1 ty.2 else if k = 6 then Option.bind (E_Reader_readAt μ ν) fun ty => e_Reader_readLine_86 k ty.1 ty.2 else Option.bind (E_Reader_refuse 1 μ ν) fun ty => e_Reader_readLine_86 k ty.1 ty.2
theorem cLn_eq {μ : zI} {ν : zJ} {k : Nat} (hk : k < 11) (e : E_Reader_wordHere μ ν = some (k, μ, ν)) : E_Reader_readLine μ ν = cLn k μ ν := by
  obtain ⟨w1, w2, w3⟩ := sw_f k hk
  rw [E_Reader_readLine, e_Reader_readLine_0, ob_eq e, if_pos w1, if_pos w3, w2, sw_v k hk, cLn]
  have : k = 0 ∨ k = 1 ∨ k = 2 ∨ k = 3 ∨ k = 4 ∨ k = 5 ∨ k = 6 ∨ k = 7 ∨ k = 8 ∨ k = 9 ∨ k = 10 := by omega
  rcases this with e | e | e | e | e | e | e | e | e | e | e <;> subst e <;> rfl
/-- what a line may change -/
def xC (μ μ' : zI) : Prop := (∀ r, r ≠ 3 → r < 19 + 2 ∨ r = 19 + 8 ∨ r = 19 + 11 ∨ 19 + 12 < r → μ' r = μ r) ∧ (∀ j, j ≠ 0 → μ' (19 + 9) j = μ (19 + 9) j) ∧ ∀ k, k ≠ 0 → μ' (19 + 12) k = μ (19 + 12) k
def xM (q : Nat) (κ κ' : zI) : Prop := (∀ r, r ≠ q → r < q + 2 ∨ q + 6 < r → κ' r = κ r) ∧ (∀ k, k ≠ 5 → k ≠ 6 → k ≠ 10 → k ≠ 12 → k ≠ 13 → k < 15 ∨ 20 < k → κ' q k = κ q k) ∧ ∀ i, i < 6 → κ' (q + 4) i = κ (q + 4) i ∧ κ' (q + 5) i = κ (q + 5) i
theorem xC.tr {μ μ1 μ2 : zI} (h : xC μ μ1) (g : xC μ1 μ2) : xC μ μ2 := ⟨fun r a b => (g.1 r a b).trans (h.1 r a b), fun j a => (g.2.1 j a).trans (h.2.1 j a), fun j a => (g.2.2 j a).trans (h.2.2 j a)⟩
theorem xM.tr {q : Nat} {κ κ1 κ2 : zI} (h : xM q κ κ1) (g : xM q κ1 κ2) : xM q κ κ2 := ⟨fun r a b => (g.1 r a b).trans (h.1 r a b), fun k a b c d e f => (g.2.1 k a b c d e f).trans (h.2.1 k a b c d e f), fun i hi => ⟨(g.2.2 i hi).1.trans (h.2.2 i hi).1, (g.2.2 i hi).2.trans (h.2.2 i hi).2⟩⟩
theorem pC.x {μ μ' : zI} (h : pC μ μ') : xC μ μ' := ⟨fun r a _ => h.1 r a, fun j _ => by rw [h.1 _ (by decide)], fun j _ => by rw [h.1 _ (by decide)]⟩
theorem pM.x {q : Nat} {κ κ' : zI} (h : pM q κ κ') : xM q κ κ' := ⟨fun r a _ => h.1 r a, fun k _ _ _ _ _ b => h.2 k b, fun i _ => by rw [h.1 _ (by omega), h.1 _ (by omega)]; exact ⟨rfl, rfl⟩⟩
theorem oC.x {μ μ' : zI} (h : oC μ μ') : xC μ μ' := ⟨fun r a _ => h.1 r a (by omega) (by omega), fun j _ => by rw [h.1 _ (by decide) (by decide) (by decide)], h.2⟩
theorem oM.x {q : Nat} {κ κ' : zI} (h : oM q κ κ') : xM q κ κ' := ⟨fun r a _ => h.1 r a (by omega) (by omega), fun k a b _ _ _ c => h.2 k a b c, fun i _ => by rw [h.1 _ (by omega) (by omega) (by omega), h.1 _ (by omega) (by omega) (by omega)]; exact ⟨rfl, rfl⟩⟩
theorem dC'.x {μ μ' : zI} (h : dC' μ μ') : xC μ μ' := ⟨fun r a _ => h r a (by omega), fun j _ => by rw [h _ (by decide) (by decide)], fun j _ => by rw [h _ (by decide) (by decide)]⟩
theorem dM.x {q : Nat} {κ κ' : zI} (h : dM q κ κ') : xM q κ κ' := ⟨fun r a _ => h.1 r a (by omega) (by omega), fun k _ _ a _ _ c => h.2.1 k a c, h.2.2⟩
theorem eC'.x {μ μ' : zI} (h : eC' μ μ') : xC μ μ' := ⟨fun r a _ => h.1 r a (by omega) (by omega), h.2.1, fun j _ => by rw [h.1 _ (by decide) (by decide) (by decide)]⟩
theorem eM'.x {q : Nat} {κ κ' : zI} (h : eM' q κ κ') : xM q κ κ' := ⟨fun r a _ => h.1 r a (by omega), fun k _ _ _ a _ c => h.2 k a c, fun i _ => by rw [h.1 _ (by omega) (by omega), h.1 _ (by omega) (by omega)]; exact ⟨rfl, rfl⟩⟩
theorem xM.c13 {q : Nat} {κ : zI} {v : Int32} : xM q κ (zu κ q 13 v) := ⟨fun r a _ => zgr a, fun k _ _ _ _ a _ => zgk a, fun i _ => by rw [zgr (by omega), zgr (by omega)]; exact ⟨rfl, rfl⟩⟩
theorem TC.x {L : Nat} {t : Nat → Int32} {μ μ' : zI} (h : TC L t μ) (g : xC μ μ') : TC L t μ' := h.fr (g.1 1 (by decide) (by decide)) (g.1 2 (by decide) (by decide))
theorem TM.x {q L : Nat} {t : Nat → Int32} {κ κ' : zI} (h : TM q L t κ) (g : xM q κ κ') : TM q L t κ' := h.fr (g.1 _ (by omega) (by omega)) (g.2.1 14 (by decide) (by decide) (by decide) (by decide) (by decide) (by decide))
/-- what's told so far -/
def LN (q n m : Nat) (B : Nat → Bool) (μ κ : zI) : Prop := JT q μ κ ∧ BS q B μ κ ∧ MD q n μ κ ∧ EV q n m μ κ ∧ (B 0 = false → κ q 5 = 0)
/-- the panel told so far -/
def PK (μ : zI) : Prop := ∃ n, μ (19 + 3) 0 = nI n ∧ pOK (μ (19 + 7)) (μ (19 + 5)) n
theorem MD.pk {q n : Nat} {μ κ : zI} (h : MD q n μ κ) : PK μ := by
  obtain ⟨h1, h2, h3, h4⟩ := h
  refine ⟨n, h2, h1, fun i hi => ?_⟩
  obtain ⟨⟨a1, a2, a3, a4⟩, b1, b2, b3, b4⟩ := h4 i hi
  rw [a4, a2]
  exact ⟨by omega, b2, b3, b4⟩
theorem PK.fr {μ μ' : zI} (h : PK μ) (e3 : μ' (19 + 3) = μ (19 + 3)) (e5 : μ' (19 + 5) = μ (19 + 5)) (e7 : μ' (19 + 7) = μ (19 + 7)) : PK μ' := by
  unfold PK
  rw [e3, e5, e7]
  exact h
theorem JT.fr {q : Nat} {μ μ' κ κ' : zI} (h : JT q μ κ) (a : μ' (19 + 2) = μ (19 + 2)) (b : μ' (19 + 12) 0 = μ (19 + 12) 0) (c : κ' (q + 2) = κ (q + 2)) (d : κ' q 5 = κ q 5) : JT q μ' κ' := by
  unfold JT
  rw [a, b, c, d]
  exact h
theorem BS.fr {q : Nat} {B : Nat → Bool} {μ μ' κ κ' : zI} (h : BS q B μ κ) (a : μ' 3 7 = μ 3 7) (b : κ' (q + 3) = κ (q + 3)) (c : κ' q 6 = κ q 6) : BS q B μ' κ' := by
  unfold BS
  rw [a, b, c]
  exact h
theorem MD.fr {q n : Nat} {μ μ' κ κ' : zI} (h : MD q n μ κ) (a : ∀ r, 19 + 3 ≤ r → r ≤ 19 + 7 → μ' r = μ r) (b : κ' (q + 4) = κ (q + 4)) (c : κ' (q + 5) = κ (q + 5)) (d : κ' q 10 = κ q 10) : MD q n μ' κ' := by
  unfold MD
  rw [a _ (by decide) (by decide), a (19 + 4) (by decide) (by decide), a (19 + 5) (by decide) (by decide), a (19 + 6) (by decide) (by decide), a (19 + 7) (by decide) (by decide), b, c, d]
  exact h
theorem EV.fr {q n m : Nat} {μ μ' κ κ' : zI} (h : EV q n m μ κ) (a : μ' (19 + 9) 0 = μ (19 + 9) 0) (b : μ' (19 + 10) = μ (19 + 10)) (c : κ' (q + 6) = κ (q + 6)) (d : κ' q 12 = κ q 12) : EV q n m μ' κ' := by
  unfold EV
  rw [a, b, c, d]
  exact h
theorem EV.z {q n n' : Nat} {μ κ : zI} (h : EV q n 0 μ κ) : EV q n' 0 μ κ := ⟨h.1, h.2.1, h.2.2.1, h.2.2.2.1, fun i hi => absurd hi (Nat.not_lt_zero i)⟩
theorem LN.p {q n m : Nat} {B : Nat → Bool} {μ μ' κ κ' : zI} (h : LN q n m B μ κ) (g : pC μ μ') (g' : pM q κ κ') : LN q n m B μ' κ' := by
  obtain ⟨a, b, c, d, e⟩ := h
  exact ⟨a.fr (g.1 _ (by decide)) (by rw [g.1 _ (by decide)]) (g'.1 _ (by omega)) (g'.2 5 (by decide)), b.fr g.2 (g'.1 _ (by omega)) (g'.2 6 (by decide)), c.fr (fun r _ _ => g.1 r (by omega)) (g'.1 _ (by omega)) (g'.1 _ (by omega)) (g'.2 10 (by decide)), d.p g g', fun f => by rw [g'.2 5 (by decide)]; exact e f⟩
theorem LN.c13 {q n m : Nat} {B : Nat → Bool} {μ κ : zI} {v : Int32} (h : LN q n m B μ κ) : LN q n m B μ (zu κ q 13 v) := by
  obtain ⟨a, b, c, d, e⟩ := h
  have kr : ∀ r, r ≠ q → zu κ q 13 v r = κ r := fun r g => zgr g
  have kk : ∀ k, k ≠ 13 → zu κ q 13 v q k = κ q k := fun k g => zgk g
  exact ⟨a.fr rfl rfl (kr _ (by omega)) (kk _ (by decide)), b.fr rfl (kr _ (by omega)) (kk _ (by decide)), c.fr (fun _ _ _ => rfl) (kr _ (by omega)) (kr _ (by omega)) (kk _ (by decide)), d.fr rfl rfl (kr _ (by omega)) (kk _ (by decide)), fun f => by rw [kk 5 (by decide)]; exact e f⟩
theorem fin_K {q L : Nat} {t : Nat → Int32} {μ κ : zI} {ν τ : zJ} {k : Nat} (h : K0 q L t μ κ) (hC : TC L t μ) (hP : PK μ) : ∃ μ' κ', e_Reader_readLine_86 k μ ν = some (μ', ν) ∧ e_M_readLine_70 q κ τ = some (κ', τ) ∧ xC μ μ' ∧ xM q κ κ' ∧ κ' q 13 = κ q 13 + 1 ∧ K0 q L t μ' κ' ∧ PK μ' := by
  obtain ⟨μ', a1, a2, a3, a4⟩ := end_K (ν := ν) (τ := τ) (n2 := k) h hC
  exact ⟨μ', _, a1, a2, a3.x, xM.c13, zgh, a4, hP.fr (a3.1 _ (by decide)) (a3.1 _ (by decide)) (a3.1 _ (by decide))⟩
theorem fin_T {q L s n m : Nat} {B : Nat → Bool} {t : Nat → Int32} {μ κ : zI} {ν τ : zJ} {k : Nat} (h : T0 q L t s μ κ) (hC : TC L t μ) (hM : TM q L t κ) (hL : LN q n m B μ κ) : ∃ μ' κ', e_Reader_readLine_86 k μ ν = some (μ', ν) ∧ e_M_readLine_70 q κ τ = some (κ', τ) ∧ xC μ μ' ∧ xM q κ κ' ∧ κ' q 13 = κ q 13 + 1 ∧ ((∃ s', s < s' ∧ s < L ∧ T0 q L t s' μ' κ' ∧ LN q n m B μ' κ') ∨ (K0 q L t μ' κ' ∧ PK μ')) := by
  obtain ⟨μ', κ1, a1, a2, a3, a4, a5⟩ := end_T (ν := ν) (τ := τ) (n2 := k) h hC hM
  refine ⟨μ', _, a1, a2, a3.x, a4.x.tr xM.c13, by rw [zgh, a4.2 13 (by decide)], ?_⟩
  rcases a5 with ⟨s', b1, b2, b3⟩ | b
  · exact Or.inl ⟨s', b1, b2, b3, (hL.p a3 a4).c13⟩
  · exact Or.inr ⟨b, (hL.p a3 a4).2.2.1.pk⟩
theorem nI_4lt {k : Nat} (h : k < 10) : (4 < nI k) ↔ 4 < k := by
  revert k
  decide
theorem line_T {q L s n m : Nat} {B : Nat → Bool} {t : Nat → Int32} {μ κ : zI} {ν τ : zJ} (h : T0 q L t s μ κ) (hC : TC L t μ) (hM : TM q L t κ) (hL : LN q n m B μ κ) : ∃ μ' κ', E_Reader_readLine μ ν = some (μ', ν) ∧ E_M_readLine q κ τ = some (κ', τ) ∧ xC μ μ' ∧ xM q κ κ' ∧ κ' q 13 = κ q 13 + 1 ∧ ((∃ s' n' m' B', s < s' ∧ s < L ∧ T0 q L t s' μ' κ' ∧ LN q n' m' B' μ' κ') ∨ (K0 q L t μ' κ' ∧ PK μ')) := by
  have hL' := hL
  obtain ⟨J, S, D, E, Z⟩ := hL
  have PK0 := D.pk
  -- what follows a body
  have fT : ∀ {k s1 n' m' : Nat} {B' : Nat → Bool} {μ1 κ1 : zI}, s ≤ s1 → xC μ μ1 → xM q κ κ1 → κ1 q 13 = κ q 13 → T0 q L t s1 μ1 κ1 → LN q n' m' B' μ1 κ1 → ∃ μ' κ', e_Reader_readLine_86 k μ1 ν = some (μ', ν) ∧ e_M_readLine_70 q κ1 τ = some (κ', τ) ∧ xC μ μ' ∧ xM q κ κ' ∧ κ' q 13 = κ q 13 + 1 ∧ ((∃ s' n' m' B', s < s' ∧ s < L ∧ T0 q L t s' μ' κ' ∧ LN q n' m' B' μ' κ') ∨ (K0 q L t μ' κ' ∧ PK μ')) := by
    intro k s1 n' m' B' μ1 κ1 hs x x' h13 T1 L1
    obtain ⟨μ', κ', a1, a2, a3, a4, a5, a6⟩ := fin_T (k := k) (ν := ν) (τ := τ) T1 (hC.x x) (hM.x x') L1
    refine ⟨μ', κ', a1, a2, x.tr a3, x'.tr a4, by rw [a5, h13], ?_⟩
    rcases a6 with ⟨s', b1, b2, b3, b4⟩ | b
    · exact Or.inl ⟨s', n', m', B', by omega, by omega, b3, b4⟩
    · exact Or.inr b
  have fK : ∀ {k : Nat} {μ1 κ1 : zI}, xC μ μ1 → xM q κ κ1 → κ1 q 13 = κ q 13 → K0 q L t μ1 κ1 → PK μ1 → ∃ μ' κ', e_Reader_readLine_86 k μ1 ν = some (μ', ν) ∧ e_M_readLine_70 q κ1 τ = some (κ', τ) ∧ xC μ μ' ∧ xM q κ κ' ∧ κ' q 13 = κ q 13 + 1 ∧ ((∃ s' n' m' B', s < s' ∧ s < L ∧ T0 q L t s' μ' κ' ∧ LN q n' m' B' μ' κ') ∨ (K0 q L t μ' κ' ∧ PK μ')) := by
    intro k μ1 κ1 x x' h13 K1 P1
    obtain ⟨μ', κ', a1, a2, a3, a4, a5, a6, a7⟩ := fin_K (k := k) (ν := ν) (τ := τ) K1 (hC.x x) P1
    exact ⟨μ', κ', a1, a2, x.tr a3, x'.tr a4, by rw [a5, h13], Or.inr ⟨a6, a7⟩⟩
  have ref : ∀ k, 6 < k → k < 11 → E_Reader_wordHere μ ν = some (k, μ, ν) → E_M_readLine q κ τ = (Option.bind (E_M_wrong q 1 κ τ) fun ty9 => e_M_readLine_70 q ty9.1 ty9.2) → ∃ μ' κ', E_Reader_readLine μ ν = some (μ', ν) ∧ E_M_readLine q κ τ = some (κ', τ) ∧ xC μ μ' ∧ xM q κ κ' ∧ κ' q 13 = κ q 13 + 1 ∧ ((∃ s' n' m' B', s < s' ∧ s < L ∧ T0 q L t s' μ' κ' ∧ LN q n' m' B' μ' κ') ∨ (K0 q L t μ' κ' ∧ PK μ')) := by
    intro k k6 k11 e eM
    obtain ⟨μ1, κ1, a1, a2, a3, a4, a5⟩ := h.ref (ν := ν) (τ := τ) (w := 1) (by decide)
    obtain ⟨μ', κ', b1, b2, b3⟩ := fK (k := k) a3.x a4.x (a4.2 13 (by decide)) a5 (PK0.fr (a3.1 _ (by decide)) (a3.1 _ (by decide)) (a3.1 _ (by decide)))
    refine ⟨μ', κ', ?_, ?_, b3⟩
    · rw [cLn_eq k11 e, cLn, if_neg (by omega), if_neg (by omega), if_neg (by omega), ob_eq a1]
      exact b1
    · rw [eM, ob_eq a2]
      exact b2
  rcases h.word (ν := ν) hC with ⟨w, w10, e, e17, e18, sl⟩ | ⟨e, e17⟩
  · have eM0 : E_M_readLine q κ τ = if w = 5 then (Option.bind (E_M_readModule q κ τ) fun ty8 => e_M_readLine_70 q ty8.1 ty8.2) else if w = 6 then (Option.bind (E_M_readAt q κ τ) fun ty7 => e_M_readLine_70 q ty7.1 ty7.2) else if 4 < w then (Option.bind (E_M_wrong q 1 κ τ) fun ty5 => e_M_readLine_70 q ty5.1 ty5.2) else Option.bind (E_M_readOther q (nI w) κ τ) fun ty6 => e_M_readLine_70 q ty6.1 ty6.2 := by
      rw [E_M_readLine, e_M_readLine_0, if_pos e17, e18]
      have i5 : (nI w = 5) ↔ w = 5 := nI_eq (b := 5) (by omega) (by decide)
      have i6 : (nI w = 6) ↔ w = 6 := nI_eq (b := 6) (by omega) (by decide)
      simp only [i5, i6, nI_4lt w10]
    have ws : w < 5 ∨ w = 5 ∨ w = 6 ∨ (6 < w ∧ w < 10) := by omega
    rcases ws with w5 | w5 | w5 | ⟨w6, w9⟩
    · rw [if_neg (by omega), if_neg (by omega), if_neg (by omega)] at eM0
      have ei : 0 < ix w ∧ ix w < 6 := by
        have : ∀ w, w < 5 → 0 < ix w ∧ ix w < 6 := by decide
        exact this w w5
      obtain ⟨μ1, κ1, a1, a2, a3, a4, a5⟩ := line_set (ν := ν) (τ := τ) w5 h hC hM J S Z D.2.1 D.2.2.1 D.1 E.2.1 E.2.2.1 E.1
      have k13 : κ1 q 13 = κ q 13 := a4.2 13 (by decide) (by decide) (by decide)
      have D1 : MD q n μ1 κ1 := D.fr (fun r _ _ => a3.1 r (by omega) (by omega) (by omega)) (a4.1 _ (by omega) (by omega) (by omega)) (a4.1 _ (by omega) (by omega) (by omega)) (a4.2 10 (by decide) (by decide) (by decide))
      have E1 : EV q n m μ1 κ1 := E.fr (by rw [a3.1 _ (by decide) (by decide) (by decide)]) (a3.1 _ (by decide) (by decide) (by decide)) (a4.1 _ (by omega) (by omega) (by omega)) (a4.2 12 (by decide) (by decide) (by decide))
      have go : ∃ μ' κ', e_Reader_readLine_86 (ix w) μ1 ν = some (μ', ν) ∧ e_M_readLine_70 q κ1 τ = some (κ', τ) ∧ xC μ μ' ∧ xM q κ κ' ∧ κ' q 13 = κ q 13 + 1 ∧ ((∃ s' n' m' B', s < s' ∧ s < L ∧ T0 q L t s' μ' κ' ∧ LN q n' m' B' μ' κ') ∨ (K0 q L t μ' κ' ∧ PK μ')) := by
        rcases a5 with ⟨s1, b1, b2, b3, b4, b5, b6, b7⟩ | b
        · refine fT (B' := setB B w) b1 a3.x a4.x k13 b2 ⟨b3, b6, D1, E1, fun f => ?_⟩
          have w0 : w ≠ 0 := fun g => by rw [g, setB, if_pos rfl] at f; exact absurd f (by decide)
          rw [b7 w0]
          rw [setB, if_neg (fun g => w0 g.symm)] at f
          exact Z f
        · exact fK a3.x a4.x k13 b D1.pk
      obtain ⟨μ', κ', b1, b2, b3⟩ := go
      refine ⟨μ', κ', ?_, ?_, b3⟩
      · rw [cLn_eq (by omega) e, cLn, if_neg (by omega), if_pos (by omega), ob_eq a1]
        exact b1
      · rw [eM0, ob_eq a2]
        exact b2
    · rw [if_pos w5] at eM0
      have ei : ix w = 0 := by rw [w5]; rfl
      obtain ⟨μ1, κ1, a1, a2, a3, a4, a6, a5⟩ := line_mod (ν := ν) (τ := τ) h hC hM S D E.2.1 E.2.2.1 E.1
      have k13 : κ1 q 13 = κ q 13 := a4.2.1 13 (by decide) (by decide)
      have go : ∃ μ' κ', e_Reader_readLine_86 (ix w) μ1 ν = some (μ', ν) ∧ e_M_readLine_70 q κ1 τ = some (κ', τ) ∧ xC μ μ' ∧ xM q κ κ' ∧ κ' q 13 = κ q 13 + 1 ∧ ((∃ s' n' m' B', s < s' ∧ s < L ∧ T0 q L t s' μ' κ' ∧ LN q n' m' B' μ' κ') ∨ (K0 q L t μ' κ' ∧ PK μ')) := by
        rcases a5 with ⟨s1, b1, b2, b3, b4⟩ | ⟨b, b', b''⟩
        · subst b4
          exact fT (B' := B) b1 a3.x a4.x k13 b2 ⟨J.fr (a3 _ (by decide) (by decide)) (by rw [a3 _ (by decide) (by decide)]) (a4.1 _ (by omega) (by omega) (by omega)) (a4.2.1 5 (by decide) (by decide)), S.fr a6 (a4.1 _ (by omega) (by omega) (by omega)) (a4.2.1 6 (by decide) (by decide)), b3, (E.fr (by rw [a3 _ (by decide) (by decide)]) (a3 _ (by decide) (by decide)) (a4.1 _ (by omega) (by omega) (by omega)) (a4.2.1 12 (by decide) (by decide))).z, fun f => by rw [a4.2.1 5 (by decide) (by decide)]; exact Z f⟩
        · exact fK a3.x a4.x k13 b (PK0.fr (b' _ (by decide)) (b' _ (by decide)) (b' _ (by decide)))
      obtain ⟨μ', κ', b1, b2, b3⟩ := go
      refine ⟨μ', κ', ?_, ?_, b3⟩
      · rw [cLn_eq (by omega) e, cLn, if_pos ei, ob_eq a1]
        exact b1
      · rw [eM0, ob_eq a2]
        exact b2
    · rw [if_neg (by omega), if_pos w5] at eM0
      have ei : ix w = 6 := by rw [w5]; rfl
      obtain ⟨μ1, κ1, a1, a2, a3, a4, a5⟩ := line_at (ν := ν) (τ := τ) h hC hM D.1 D.2.1 D.2.2.1 E
      have k13 : κ1 q 13 = κ q 13 := a4.2 13 (by decide) (by decide)
      have go : ∃ μ' κ', e_Reader_readLine_86 (ix w) μ1 ν = some (μ', ν) ∧ e_M_readLine_70 q κ1 τ = some (κ', τ) ∧ xC μ μ' ∧ xM q κ κ' ∧ κ' q 13 = κ q 13 + 1 ∧ ((∃ s' n' m' B', s < s' ∧ s < L ∧ T0 q L t s' μ' κ' ∧ LN q n' m' B' μ' κ') ∨ (K0 q L t μ' κ' ∧ PK μ')) := by
        rcases a5 with ⟨s1, b1, b2, b3, b4⟩ | ⟨b, b'⟩
        · exact fT (B' := B) b1 a3.x a4.x k13 b2 ⟨J.fr (a3.1 _ (by decide) (by decide) (by decide)) (by rw [a3.1 _ (by decide) (by decide) (by decide)]) (a4.1 _ (by omega) (by omega)) (a4.2 5 (by decide) (by decide)), S.fr a3.2.2 (a4.1 _ (by omega) (by omega)) (a4.2 6 (by decide) (by decide)), D.fr (fun r _ _ => a3.1 r (by omega) (by omega) (by omega)) (a4.1 _ (by omega) (by omega)) (a4.1 _ (by omega) (by omega)) (a4.2 10 (by decide) (by decide)), b3, fun f => by rw [a4.2 5 (by decide) (by decide)]; exact Z f⟩
        · exact fK a3.x a4.x k13 b (PK0.fr (b' _ (by decide)) (b' _ (by decide)) (b' _ (by decide)))
      obtain ⟨μ', κ', b1, b2, b3⟩ := go
      refine ⟨μ', κ', ?_, ?_, b3⟩
      · rw [cLn_eq (by omega) e, cLn, if_neg (by omega), if_neg (by omega), if_pos ei, ob_eq a1]
        exact b1
      · rw [eM0, ob_eq a2]
        exact b2
    · rw [if_neg (by omega), if_neg (by omega), if_pos (by omega)] at eM0
      have : ∀ w, w < 10 → 6 < w → 6 < ix w ∧ ix w < 11 := by decide
      exact ref (ix w) (this w w9 w6).1 (this w w9 w6).2 e eM0
  · exact ref 10 (by decide) (by decide) e (by rw [E_M_readLine, e_M_readLine_0, if_neg e17])
