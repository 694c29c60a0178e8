/-! A line. -/
theorem sort_T {q L s : Nat} {t : Nat → Int32} {μ κ : zI} (h : T0 q L t s μ κ) : (tkK t L s = 4 ∧ κ q 17 = 2 ∧ s < L) ∨ (¬ tkK t L s = 4 ∧ ¬ κ q 17 = 2) := by
  obtain ⟨c0, -, -, -, -, -, ⟨f0, f2, f3, f4, f5⟩, f8⟩ := h
  by_cases hs : s < L
  · have e : tkK t L s = kd (t s) := by rw [tkK, if_pos hs]
    rw [e] at f0 f2 f3 f4 f5 ⊢
    rcases kd_c (t s) with ⟨k, -⟩ | ⟨k, -⟩ | ⟨k, -⟩ | ⟨k, -⟩ | ⟨k, -⟩
    · exact absurd k (f8 hs)
    · refine Or.inr ⟨by rw [k]; decide, ?_⟩
      rw [(f2 k).2]
      split <;> decide
    · exact Or.inr ⟨by rw [k]; decide, by rw [(f3 k).1]; decide⟩
    · exact Or.inl ⟨k, f4 k, hs⟩
    · exact Or.inr ⟨by rw [k]; decide, by rw [f5 k]; decide⟩
  · have e : tkK t L s = 0 := by rw [tkK, if_neg hs]
    exact Or.inr ⟨by rw [e]; decide, by rw [f0 e]; decide⟩
/-- the line's end, a fault there -/
theorem end_K {q L : Nat} {t : Nat → Int32} {μ κ : zI} {ν τ : zJ} {n2 : Nat} (h : K0 q L t μ κ) (hC : TC L t μ) : ∃ μ', e_Reader_readLine_86 n2 μ ν = some (μ', ν) ∧ e_M_readLine_70 q κ τ = some (zu κ q 13 (κ q 13 + 1), τ) ∧ pC μ μ' ∧ K0 q L t μ' (zu κ q 13 (κ q 13 + 1)) := by
  obtain ⟨μ1, a1, a2, a3, a4⟩ := h.next (ν := ν) (τ := τ) hC
  refine ⟨μ1, ?_, ?_, a3, a4.fr rfl (fun k _ _ => zgk (by omega))⟩
  · rw [e_Reader_readLine_86, ob_eq (h.ref (ν := ν) (τ := τ) (w := 1) (w' := 1)).1]
    dsimp only
    rw [e_Reader_readLine_99, ob_eq a1, ite_self]
  · rw [e_M_readLine_70, if_neg h.2.1, e_M_readLine_90, ob_eq a2, zlet_eq]
/-- the line's end -/
theorem end_T {q L s : Nat} {t : Nat → Int32} {μ κ : zI} {ν τ : zJ} {n2 : Nat} (h : T0 q L t s μ κ) (hC : TC L t μ) (hM : TM q L t κ) : ∃ μ' κ', e_Reader_readLine_86 n2 μ ν = some (μ', ν) ∧ e_M_readLine_70 q κ τ = some (zu κ' q 13 (κ' q 13 + 1), τ) ∧ pC μ μ' ∧ pM q κ κ' ∧ ((∃ s', s < s' ∧ s < L ∧ T0 q L t s' μ' (zu κ' q 13 (κ' q 13 + 1))) ∨ K0 q L t μ' (zu κ' q 13 (κ' q 13 + 1))) := by
  rcases sort_T h with ⟨k4, k17, sl⟩ | ⟨k4, k17⟩
  · obtain ⟨μ1, κ1, s1, a1, a2, a3, a4, a5, a6⟩ := h.next (ν := ν) (τ := τ) hC hM
    have eb := (tkE_b (t := t) h.1.1).2.2 sl
    refine ⟨μ1, κ1, ?_, ?_, a3, a4, Or.inl ⟨s1, by omega, sl, a6.fr rfl (fun k _ _ => zgk (by omega))⟩⟩
    · rw [e_Reader_readLine_86, if_pos (by rw [h.1.2.2.2.1]; exact k4), e_Reader_readLine_99, ob_eq a1]
    · rw [e_M_readLine_70, if_pos h.2.2.2.1, if_pos k17, e_M_readLine_90, ob_eq a2, zlet_eq]
  · obtain ⟨μ1, κ1, a1, a2, a3, a4, a5⟩ := h.ref (ν := ν) (τ := τ) (w := 1) (by decide)
    obtain ⟨μ2, b1, b2, b3, b4⟩ := a5.next (ν := ν) (τ := τ) (hC.p a3)
    refine ⟨μ2, κ1, ?_, ?_, a3.tr b3, a4, Or.inr (b4.fr rfl (fun k _ _ => zgk (by omega)))⟩
    · rw [e_Reader_readLine_86, if_neg (by rw [h.1.2.2.2.1]; exact k4), ob_eq a1]
      dsimp only
      rw [e_Reader_readLine_99, ob_eq b1]
    · rw [e_M_readLine_70, if_pos h.2.2.2.1, if_neg k17, ob_eq a2]
      dsimp only
      rw [e_M_readLine_90, ob_eq b2, zlet_eq]
/-- the class's line by its word -/
def cLn (k : Nat) (μ : zI) (ν : zJ) : Option (zI × zJ) := if k = 0 then Option.bind (E_Reader_readModule μ ν) fun ty => e_Reader_readLine_86 k ty.1 ty.2 else if k < 6 then Option.bind (E_Reader_readSettings k μ ν) fun ty => e_Reader_readLine_86 k ty.1 ty.2 else if k = 6 then Option.bind (E_Reader_readAt μ ν) fun ty => e_Reader_readLine_86 k ty.1 ty.2 else Option.bind (E_Reader_refuse 1 μ ν) fun ty => e_Reader_readLine_86 k ty.1 ty.2
theorem cLn_eq {μ : zI} {ν : zJ} {k : Nat} (hk : k < 11) (e : E_Reader_wordHere μ ν = some (k, μ, ν)) : E_Reader_readLine μ ν = cLn k μ ν := by
  obtain ⟨w1, w2, w3⟩ := sw_f k hk
  rw [E_Reader_readLine, e_Reader_readLine_0, ob_eq e, if_pos w1, if_pos w3, w2, sw_v k hk, cLn]
  have : k = 0 ∨ k = 1 ∨ k = 2 ∨ k = 3 ∨ k = 4 ∨ k = 5 ∨ k = 6 ∨ k = 7 ∨ k = 8 ∨ k = 9 ∨ k = 10 := by omega
  rcases this with e | e | e | e | e | e | e | e | e | e | e <;> subst e <;> rfl
/-- what a line may change -/
def xC (μ μ' : zI) : Prop := (∀ r, r ≠ 3 → r < 19 + 2 ∨ r = 19 + 8 ∨ r = 19 + 11 ∨ 19 + 12 < r → μ' r = μ r) ∧ (∀ j, j ≠ 0 → μ' (19 + 9) j = μ (19 + 9) j) ∧ ∀ k, k ≠ 0 → μ' (19 + 12) k = μ (19 + 12) k
def xM (q : Nat) (κ κ' : zI) : Prop := (∀ r, r ≠ q → r < q + 2 ∨ q + 6 < r → κ' r = κ r) ∧ (∀ k, k ≠ 5 → k ≠ 6 → k ≠ 10 → k ≠ 12 → k ≠ 13 → k < 15 ∨ 20 < k → κ' q k = κ q k) ∧ ∀ i, i < 6 → κ' (q + 4) i = κ (q + 4) i ∧ κ' (q + 5) i = κ (q + 5) i
theorem xC.tr {μ μ1 μ2 : zI} (h : xC μ μ1) (g : xC μ1 μ2) : xC μ μ2 := ⟨fun r a b => (g.1 r a b).trans (h.1 r a b), fun j a => (g.2.1 j a).trans (h.2.1 j a), fun j a => (g.2.2 j a).trans (h.2.2 j a)⟩
theorem xM.tr {q : Nat} {κ κ1 κ2 : zI} (h : xM q κ κ1) (g : xM q κ1 κ2) : xM q κ κ2 := ⟨fun r a b => (g.1 r a b).trans (h.1 r a b), fun k a b c d e f => (g.2.1 k a b c d e f).trans (h.2.1 k a b c d e f), fun i hi => ⟨(g.2.2 i hi).1.trans (h.2.2 i hi).1, (g.2.2 i hi).2.trans (h.2.2 i hi).2⟩⟩
theorem pC.x {μ μ' : zI} (h : pC μ μ') : xC μ μ' := ⟨fun r a _ => h.1 r a, fun j _ => by rw [h.1 _ (by decide)], fun j _ => by rw [h.1 _ (by decide)]⟩
theorem pM.x {q : Nat} {κ κ' : zI} (h : pM q κ κ') : xM q κ κ' := ⟨fun r a _ => h.1 r a, fun k _ _ _ _ _ b => h.2 k b, fun i _ => by rw [h.1 _ (by omega), h.1 _ (by omega)]; exact ⟨rfl, rfl⟩⟩
theorem oC.x {μ μ' : zI} (h : oC μ μ') : xC μ μ' := ⟨fun r a _ => h.1 r a (by omega) (by omega), fun j _ => by rw [h.1 _ (by decide) (by decide) (by decide)], h.2⟩
theorem oM.x {q : Nat} {κ κ' : zI} (h : oM q κ κ') : xM q κ κ' := ⟨fun r a _ => h.1 r a (by omega) (by omega), fun k a b _ _ _ c => h.2 k a b c, fun i _ => by rw [h.1 _ (by omega) (by omega) (by omega), h.1 _ (by omega) (by omega) (by omega)]; exact ⟨rfl, rfl⟩⟩
theorem dC'.x {μ μ' : zI} (h : dC' μ μ') : xC μ μ' := ⟨fun r a _ => h r a (by omega), fun j _ => by rw [h _ (by decide) (by decide)], fun j _ => by rw [h _ (by decide) (by decide)]⟩
theorem dM.x {q : Nat} {κ κ' : zI} (h : dM q κ κ') : xM q κ κ' := ⟨fun r a _ => h.1 r a (by omega) (by omega), fun k _ _ a _ _ c => h.2.1 k a c, h.2.2⟩
theorem eC'.x {μ μ' : zI} (h : eC' μ μ') : xC μ μ' := ⟨fun r a _ => h.1 r a (by omega) (by omega), h.2.1, fun j _ => by rw [h.1 _ (by decide) (by decide) (by decide)]⟩
theorem eM'.x {q : Nat} {κ κ' : zI} (h : eM' q κ κ') : xM q κ κ' := ⟨fun r a _ => h.1 r a (by omega), fun k _ _ _ a _ c => h.2 k a c, fun i _ => by rw [h.1 _ (by omega) (by omega), h.1 _ (by omega) (by omega)]; exact ⟨rfl, rfl⟩⟩
theorem xM.c13 {q : Nat} {κ : zI} {v : Int32} : xM q κ (zu κ q 13 v) := ⟨fun r a _ => zgr a, fun k _ _ _ _ a _ => zgk a, fun i _ => by rw [zgr (by omega), zgr (by omega)]; exact ⟨rfl, rfl⟩⟩
theorem TC.x {L : Nat} {t : Nat → Int32} {μ μ' : zI} (h : TC L t μ) (g : xC μ μ') : TC L t μ' := h.fr (g.1 1 (by decide) (by decide)) (g.1 2 (by decide) (by decide))
theorem TM.x {q L : Nat} {t : Nat → Int32} {κ κ' : zI} (h : TM q L t κ) (g : xM q κ κ') : TM q L t κ' := h.fr (g.1 _ (by omega) (by omega)) (g.2.1 14 (by decide) (by decide) (by decide) (by decide) (by decide) (by decide))
/-- what's told so far -/
def LS (q n m : Nat) (B : Nat → Bool) (μ κ : zI) : Prop := JT q μ κ ∧ BS q B μ κ ∧ MD q n μ κ ∧ EV q n m μ κ ∧ (B 0 = false → κ q 5 = 0)
/-- the panel told so far -/
def PK (μ : zI) : Prop := ∃ n, μ (19 + 3) 0 = nI n ∧ pOK (μ (19 + 7)) (μ (19 + 5)) n
theorem MD.pk {q n : Nat} {μ κ : zI} (h : MD q n μ κ) : PK μ := by
  obtain ⟨h1, h2, h3, h4⟩ := h
  refine ⟨n, h2, h1, fun i hi => ?_⟩
  obtain ⟨⟨a1, a2, a3, a4⟩, b1, b2, b3, b4⟩ := h4 i hi
  rw [a4, a2]
  exact ⟨by omega, b2, b3, b4⟩
theorem PK.fr {μ μ' : zI} (h : PK μ) (e3 : μ' (19 + 3) = μ (19 + 3)) (e5 : μ' (19 + 5) = μ (19 + 5)) (e7 : μ' (19 + 7) = μ (19 + 7)) : PK μ' := by
  unfold PK
  rw [e3, e5, e7]
  exact h
theorem JT.fr {q : Nat} {μ μ' κ κ' : zI} (h : JT q μ κ) (a : μ' (19 + 2) = μ (19 + 2)) (b : μ' (19 + 12) 0 = μ (19 + 12) 0) (c : κ' (q + 2) = κ (q + 2)) (d : κ' q 5 = κ q 5) : JT q μ' κ' := by
  unfold JT
  rw [a, b, c, d]
  exact h
theorem BS.fr {q : Nat} {B : Nat → Bool} {μ μ' κ κ' : zI} (h : BS q B μ κ) (a : μ' 3 7 = μ 3 7) (b : κ' (q + 3) = κ (q + 3)) (c : κ' q 6 = κ q 6) : BS q B μ' κ' := by
  unfold BS
  rw [a, b, c]
  exact h
theorem MD.fr {q n : Nat} {μ μ' κ κ' : zI} (h : MD q n μ κ) (a : ∀ r, 19 + 3 ≤ r → r ≤ 19 + 7 → μ' r = μ r) (b : κ' (q + 4) = κ (q + 4)) (c : κ' (q + 5) = κ (q + 5)) (d : κ' q 10 = κ q 10) : MD q n μ' κ' := by
  unfold MD
  rw [a _ (by decide) (by decide), a (19 + 4) (by decide) (by decide), a (19 + 5) (by decide) (by decide), a (19 + 6) (by decide) (by decide), a (19 + 7) (by decide) (by decide), b, c, d]
  exact h
theorem EV.fr {q n m : Nat} {μ μ' κ κ' : zI} (h : EV q n m μ κ) (a : μ' (19 + 9) 0 = μ (19 + 9) 0) (b : μ' (19 + 10) = μ (19 + 10)) (c : κ' (q + 6) = κ (q + 6)) (d : κ' q 12 = κ q 12) : EV q n m μ' κ' := by
  unfold EV
  rw [a, b, c, d]
  exact h
theorem EV.z {q n n' : Nat} {μ κ : zI} (h : EV q n 0 μ κ) : EV q n' 0 μ κ := ⟨h.1, h.2.1, h.2.2.1, h.2.2.2.1, fun i hi => absurd hi (Nat.not_lt_zero i)⟩
theorem LS.p {q n m : Nat} {B : Nat → Bool} {μ μ' κ κ' : zI} (h : LS q n m B μ κ) (g : pC μ μ') (g' : pM q κ κ') : LS q n m B μ' κ' := by
  obtain ⟨a, b, c, d, e⟩ := h
  exact ⟨a.fr (g.1 _ (by decide)) (by rw [g.1 _ (by decide)]) (g'.1 _ (by omega)) (g'.2 5 (by decide)), b.fr g.2 (g'.1 _ (by omega)) (g'.2 6 (by decide)), c.fr (fun r _ _ => g.1 r (by omega)) (g'.1 _ (by omega)) (g'.1 _ (by omega)) (g'.2 10 (by decide)), d.p g g', fun f => by rw [g'.2 5 (by decide)]; exact e f⟩
theorem LS.c13 {q n m : Nat} {B : Nat → Bool} {μ κ : zI} {v : Int32} (h : LS q n m B μ κ) : LS q n m B μ (zu κ q 13 v) := h.p pC.rf ⟨fun r a => zgr a, fun k _ => by
  by_cases e : k = 13
  · sorry
  · exact zgk e⟩
