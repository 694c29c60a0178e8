/-! The text: a station renewed, read, begun. -/
theorem RP.pt {b q n : Nat} {μ μ' κ κ' : zI} (h : RP b q n μ κ) (h1 : ∀ r, b + 3 ≤ r → r ≤ b + 8 → μ' r = μ r) (h9 : κ' q 9 = κ q 9) (e4 : ∀ i, i < 6 → κ' (q + 4) i = κ (q + 4) i) (e5 : ∀ i, i < 6 → κ' (q + 5) i = κ (q + 5) i) (h7 : κ' (q + 7) = κ (q + 7)) : RP b q n μ' κ' := by
  obtain ⟨p1, p2, p3, p4, p5, p6, p7, p8, p9⟩ := h
  have el : mLit q κ' = mLit q κ := by
    funext i
    unfold mLit
    by_cases hi : i < 6
    · rw [if_pos hi, if_pos hi, e4 i hi, h7]
    · rw [if_neg hi, if_neg hi]
  have hq : ∀ i, i < n → mLit q κ' i = mLit q κ i ∧ κ' (q + 5) i = κ (q + 5) i := fun i hi => ⟨by rw [el], e5 i (by omega)⟩
  have eB : pB (mLit q κ') (κ' (q + 5)) n 1000 = pB (mLit q κ) (κ (q + 5)) n 1000 := pB_congr hq 1000
  refine ⟨p1, ?_, h9.trans p3, fun i hi => ?_, fun i hi => ?_, fun y hy => ?_, ?_, ?_, ?_⟩
  · rw [h1 _ (by omega) (by omega)]; exact p2
  · rw [h1 _ (by omega) (by omega), h1 (b + 5) (by omega) (by omega), h1 (b + 6) (by omega) (by omega), h1 (b + 7) (by omega) (by omega), e4 i (by omega), e5 i (by omega), h7, el]
    exact p4 i hi
  · rw [e4 i (by omega), e5 i (by omega), h7]; exact p5 i hi
  · rw [h1 _ (by omega) (by omega), pP_congr hq]; exact p6 y hy
  · rw [h1 _ (by omega) (by omega), eB]; exact p7
  · rw [h1 _ (by omega) (by omega), eB]; exact p8
  · unfold mKn
    rw [h7, eB]
    exact p9
/-- what a renewed station keeps while it's read -/
def FS (μ : zI) : Prop := μ 19 0 = 0 ∧ μ (19 + 9) 1 = 0 ∧ (∀ k, k < 13 → μ (19 + 11) k = if k = 1 then 1 else 0) ∧ (∀ k, 1 ≤ k → k < 5 → μ (19 + 12) k = 0) ∧ (∀ k, k < 8 → μ (19 + 13) k = if k < 2 then 1 else if k < 4 then 50000 else 0)
theorem FS.x {μ μ' : zI} (h : FS μ) (g : xC μ μ') : FS μ' := by
  obtain ⟨a, b, c, d, e⟩ := h
  refine ⟨by rw [g.1 19 (by decide) (by decide)]; exact a, by rw [g.2.1 1 (by decide)]; exact b, by rw [g.1 (19 + 11) (by decide) (by decide)]; exact c, fun k h1 h2 => by rw [g.2.2 k (by omega)]; exact d k h1 h2, by rw [g.1 (19 + 13) (by decide) (by decide)]; exact e⟩
theorem C_renF {b : Nat} {μ : zI} {ν : zJ} : ∃ μ', E_Follower_renew b μ ν = some (μ', ν) ∧ (∀ r, r ≠ b + 11 → μ' r = μ r) ∧ ∀ k, k < 13 → μ' (b + 11) k = if k = 1 then 1 else 0 := by
  refine ⟨_, by rw [E_Follower_renew, e_Follower_renew_0, zlet_eq, zlet_eq, zlet_eq, zlet_eq, zlet_eq, zlet_eq, zlet_eq, zlet_eq, zlet_eq, zlet_eq, zlet_eq, zlet_eq, zlet_eq], fun r h => ?_, fun k hk => ?_⟩
  · simp only [zgr h]
  · have : k = 0 ∨ k = 1 ∨ k = 2 ∨ k = 3 ∨ k = 4 ∨ k = 5 ∨ k = 6 ∨ k = 7 ∨ k = 8 ∨ k = 9 ∨ k = 10 ∨ k = 11 ∨ k = 12 := by omega
    rcases this with e | e | e | e | e | e | e | e | e | e | e | e | e <;> subst e <;> (simp (disch := omega) only [zgh, zgk]; rfl)
theorem C_renB {b : Nat} {μ : zI} {ν : zJ} : ∃ μ', E_Battery_renew b μ ν = some (μ', ν) ∧ (∀ r, r ≠ b + 12 → μ' r = μ r) ∧ ∀ k, k < 5 → μ' (b + 12) k = 0 := by
  refine ⟨_, by rw [E_Battery_renew, e_Battery_renew_0, zlet_eq, zlet_eq, zlet_eq, zlet_eq, zlet_eq, zlet_eq], fun r h => ?_, fun k hk => ?_⟩
  · simp only [zgr h]
  · have : k = 0 ∨ k = 1 ∨ k = 2 ∨ k = 3 ∨ k = 4 := by omega
    rcases this with e | e | e | e | e <;> subst e <;> simp (disch := omega) only [zgh, zgk]
theorem C_renI {b : Nat} {μ : zI} {ν : zJ} : ∃ μ', E_Inverter_renew b μ ν = some (μ', ν) ∧ (∀ r, r ≠ b + 13 → μ' r = μ r) ∧ ∀ k, k < 8 → μ' (b + 13) k = if k < 2 then 1 else if k < 4 then 50000 else 0 := by
  refine ⟨_, by rw [E_Inverter_renew, e_Inverter_renew_0, zlet_eq, zlet_eq, zlet_eq, zlet_eq, zlet_eq, zlet_eq, zlet_eq, zlet_eq], fun r h => ?_, fun k hk => ?_⟩
  · simp only [zgr h]
  · have : k = 0 ∨ k = 1 ∨ k = 2 ∨ k = 3 ∨ k = 4 ∨ k = 5 ∨ k = 6 ∨ k = 7 := by omega
    rcases this with e | e | e | e | e | e | e | e <;> subst e <;> (simp (disch := omega) only [zgh, zgk]; rfl)
theorem tab0 : ∀ k, k < 19 → ((zTabs.getD 0 ("", "", [])).2.2).getD k 0 = frV.getD k 0 := by decide
theorem C_renew {μ : zI} {ν : zJ} : ∃ μ' ν', E_Station_renew 19 μ ν = some (μ', ν') ∧ (∀ r, r < 19 ∨ 34 ≤ r → μ' r = μ r) ∧ FS μ' ∧ μ' (19 + 3) 0 = 0 ∧ μ' (19 + 9) 0 = 0 ∧ μ' (19 + 12) 0 = 0 ∧ (∀ k, k < 19 → μ' (19 + 2) k = frV.getD k 0) ∧ (∀ r, r ≠ 19 + 14 → ν' r = ν r) ∧ ∀ k, k < 11 → ν' (19 + 14) k = 0 := by
  obtain ⟨A, hA⟩ : ∃ A, A = zu (zu (zu (zr (zu (zu μ 19 0 0) 19 1 0) (19 + 2) (va_cpy (fun j => ((zTabs.getD 0 ("", "", [])).2.2).getD j 0) ((zu (zu μ 19 0 0) 19 1 0) (19 + 2)) 0 0 19)) (19 + 3) 0 0) (19 + 9) 0 0) (19 + 9) 1 0 := ⟨_, rfl⟩
  obtain ⟨μ1, a1, a2, a3⟩ := C_renF (b := 19) (μ := A) (ν := ν)
  obtain ⟨μ2, b1, b2, b3⟩ := C_renB (b := 19) (μ := μ1) (ν := ν)
  obtain ⟨μ3, c1, c2, c3⟩ := C_renI (b := 19) (μ := μ2) (ν := ν)
  have Ar : ∀ r, r ≠ 19 → r ≠ 19 + 2 → r ≠ 19 + 3 → r ≠ 19 + 9 → A r = μ r := fun r h1 h2 h3 h4 => by
    rw [hA, zgr h4, zgr h4, zgr h3, zr_eq, if_neg h2, zgr h1, zgr h1]
  have m3 : ∀ r, r ≠ 19 + 11 → r ≠ 19 + 12 → r ≠ 19 + 13 → μ3 r = A r := fun r h1 h2 h3 => by rw [c2 r h3, b2 r h2, a2 r h1]
  refine ⟨μ3, zrl ν (19 + 14) (fun j => if j < 11 then 0 else ν (19 + 14) j), ?_, fun r h => by rw [m3 r (by omega) (by omega) (by omega), Ar r (by omega) (by omega) (by omega) (by omega)], ⟨?_, ?_, ?_, ?_, c3⟩, ?_, ?_, ?_, fun k hk => ?_, fun r h => by rw [zrl_eq, if_neg h], fun k hk => by rw [zrl_eq, if_pos rfl, if_pos hk]⟩
  · rw [E_Station_renew, e_Station_renew_0, zlet_eq, zlet_eq, E_Told_renew, e_Told_renew_0, if_pos z19, if_pos z19, zlet_eq, Option.bind_some, E_Panel_renew, e_Panel_renew_0, zlet_eq, Option.bind_some, E_Schedule_renew, e_Schedule_renew_0, zlet_eq, zlet_eq, Option.bind_some]
    dsimp only
    rw [← hA, ob_eq a1]
    dsimp only
    rw [ob_eq b1]
    dsimp only
    rw [ob_eq c1, E_Station_clearSums, e_Station_clearSums_0, zlet_eq, Option.bind_some]
  · rw [m3 19 (by decide) (by decide) (by decide), hA]
    simp (disch := omega) only [zgr]
    rw [zr_eq, if_neg (by decide), zgk (by decide), zgh]
  · rw [m3 _ (by decide) (by decide) (by decide), hA, zgh]
  · intro k hk
    rw [c2 _ (by decide), b2 _ (by decide), a3 k hk]
  · intro k h1 h2
    rw [c2 _ (by decide), b3 k h2]
  · rw [m3 _ (by decide) (by decide) (by decide), hA, zgr (by decide), zgr (by decide), zgh]
  · rw [m3 _ (by decide) (by decide) (by decide), hA, zgk (by decide), zgh]
  · rw [c2 _ (by decide), b3 0 (by decide)]
  · rw [m3 _ (by decide) (by decide) (by decide), hA, zgr (by decide), zgr (by decide), zgr (by decide), zr_eq, if_pos rfl, cpy_at hk]
    exact tab0 k hk
theorem frM_2 {q k : Nat} {μ : zI} (h : k < 19) : frM q μ (q + 2) k = frV.getD k 0 := by rw [frM, if_pos ⟨rfl, h⟩]
theorem frM_r {q r : Nat} {μ : zI} (h2 : r ≠ q + 2) (h3 : r ≠ q + 3) (h : r ≠ q) : frM q μ r = μ r := by
  funext k
  rw [frM, if_neg (fun e => h2 e.1), if_neg (fun e => h3 e.1), if_neg (fun e => h e.1)]
theorem frM_3 {q k : Nat} {μ : zI} (h : k < 5) : frM q μ (q + 3) k = 0 := by rw [frM, if_neg (fun e => by omega), if_pos ⟨rfl, h⟩]
theorem frM_q {q k : Nat} {μ : zI} (h : k ≠ 5) (h6 : k ≠ 6) (h10 : k ≠ 10) (h12 : k ≠ 12) : frM q μ q k = μ q k := by rw [frM, if_neg (fun e => by omega), if_neg (fun e => by omega), if_neg (fun e => by omega)]
theorem frM_0 {q k : Nat} {μ : zI} (h : k = 5 ∨ k = 6 ∨ k = 10 ∨ k = 12) : frM q μ q k = 0 := by rw [frM, if_neg (fun e => by omega), if_neg (fun e => by omega), if_pos ⟨rfl, h⟩]
/-- both, at the text's start -/
theorem read_0 {q L : Nat} {t : Nat → Int32} {μ κ : zI} {ν τ : zJ} (hC : TC L t μ) (hM : ∀ i, i < L → κ (q + 1) i = t i ∧ 0 ≤ (t i).toInt ∧ (t i).toInt ≤ 255) : ∃ j x4 n m B μ' ν' κ', E_Reader_readInto (nI L) μ ν = e_Reader_readInto_72 (nI L) (nI j) x4 μ' ν' ∧ E_M_readText q (nI L) κ τ = some (κ', τ) ∧ j ≤ L ∧ κ' q 13 = nI j ∧ (∀ r, r ≠ 3 → r < 19 ∨ 34 ≤ r → μ' r = μ r) ∧ FS μ' ∧ (∀ r, r ≠ q → r ≠ q + 2 → r ≠ q + 3 → r ≠ q + 4 → r ≠ q + 5 → r ≠ q + 6 → κ' r = κ r) ∧ (∀ k, k < 5 ∨ k = 7 ∨ k = 8 ∨ k = 9 ∨ k = 11 ∨ 20 < k → κ' q k = κ q k) ∧ (∀ i, i < 6 → κ' (q + 4) i = κ (q + 4) i ∧ κ' (q + 5) i = κ (q + 5) i) ∧ (∀ r, r ≠ 19 + 14 → ν' r = ν r) ∧ (∀ k, k < 11 → ν' (19 + 14) k = 0) ∧ ((LN q n m B μ' κ' ∧ μ' 3 0 = 0 ∧ μ' 3 1 = -1 ∧ κ' q 19 = 0) ∨ (K0 q L t μ' κ' ∧ PK μ')) := by
  obtain ⟨A, hA⟩ : ∃ A, A = zu (zu (zu (zu (zu μ 3 0 0) 3 1 (-1)) 3 3 (nI L)) 3 6 0) 3 7 0 := ⟨_, rfl⟩
  have Ar : ∀ r, r ≠ 3 → A r = μ r := fun r h => by rw [hA]; simp only [zgr h]
  obtain ⟨A1, ν1, r1, r2, r3, r4, r5, r6, r7, r8, r9⟩ := C_renew (μ := A) (ν := ν)
  have A3 : A1 3 = A 3 := r2 3 (by decide)
  have C1 : TC L t A1 := hC.fr ((r2 1 (by decide)).trans (Ar 1 (by decide))) ((r2 2 (by decide)).trans (Ar 2 (by decide)))
  have a33 : A1 3 3 = nI L := by rw [A3, hA]; simp (disch := omega) only [zgk, zgh]
  have a36 : A1 3 6 = nI 0 := by rw [A3, hA]; simp (disch := omega) only [zgk, zgh]; rfl
  obtain ⟨A2, s1, s2, s3, s4, s5, s6⟩ := C_tok (ν := ν1) C1 a33 a36 (Nat.zero_le _)
  obtain ⟨K, hK⟩ : ∃ K, K = zu (zu (zu (zu κ q 14 (nI L)) q 15 0) q 19 0) q 13 0 := ⟨_, rfl⟩
  have Kr : ∀ r, r ≠ q → K r = κ r := fun r h => by rw [hK]; simp only [zgr h]
  have F2 : ∀ k, k < 19 → frM q K (q + 2) k = frV.getD k 0 := fun k hk => frM_2 hk
  have Fr : ∀ r, r ≠ q + 2 → r ≠ q + 3 → r ≠ q → frM q K r = κ r := fun r h2 h3 h => (frM_r h2 h3 h).trans (Kr r h)
  have Fq : ∀ k, k = 13 ∨ k = 15 ∨ k = 19 → frM q K q k = 0 := fun k hk => by
    rw [frM_q (by omega) (by omega) (by omega) (by omega), hK]
    rcases hk with e | e | e <;> subst e <;> simp (disch := omega) only [zgk, zgh]
  have F14 : frM q K q 14 = nI L := by
    rw [frM_q (by decide) (by decide) (by decide) (by decide), hK]
    simp (disch := omega) only [zgk, zgh]
  have Fo : ∀ k, k < 5 ∨ k = 7 ∨ k = 8 ∨ k = 9 ∨ k = 11 ∨ 20 < k → frM q K q k = κ q k := fun k hk => by
    rw [frM_q (by omega) (by omega) (by omega) (by omega), hK]
    simp (disch := omega) only [zgk]
  have M1 : TM q L t (frM q K) := ⟨hC.1, F14, fun i hi => by rw [Fr _ (by omega) (by omega) (by omega)]; exact hM i hi⟩
  obtain ⟨K2, u1, u2, u3, u4, u5, u6⟩ := M_tok (τ := τ) M1 (p := 0) (by rw [Fq 15 (by decide)]; rfl) (Nat.zero_le _)
  have sb := tkS_b (t := t) (Nat.zero_le L)
  have sk := (skA_b t (L - 0) 0).2.2
  have T : T0 q L t (tkS t L 0) A2 K2 := by
    refine ⟨⟨sb.2, by rw [s3 3 (by decide) (by decide) (by decide)]; exact a33, s4, s5, s6⟩, ?_, ?_, ?_, u4, u5, u6, fun g => sk (by unfold tkS at g; omega)⟩
    · rw [s3 0 (by decide) (by decide) (by decide), A3, hA]; simp (disch := omega) only [zgk, zgh]
    · rw [s3 1 (by decide) (by decide) (by decide), A3, hA]; simp (disch := omega) only [zgk, zgh]
    · rw [u3 19 (by decide) (by decide) (by decide) (by decide)]; exact Fq 19 (by decide)
  have L0 : LN q 0 0 (fun _ => false) A2 K2 := by
    refine ⟨⟨fun k hk => ?_, ?_, ?_, ?_⟩, ⟨?_, fun w hw => ?_, ?_⟩, ⟨by decide, ?_, ?_, fun i hi => absurd hi (Nat.not_lt_zero i)⟩, ⟨by decide, ?_, ?_, fun j hj => by omega, fun i hi => absurd hi (Nat.not_lt_zero i)⟩, fun _ => ?_⟩
    · rw [s2 _ (by decide), u2 _ (by omega), r7 k hk, F2 k hk]
      refine ⟨rfl, ?_⟩
      revert k
      decide
    · rw [s2 _ (by decide), u3 5 (by decide) (by decide) (by decide) (by decide), r6, frM_0 (by decide)]
    · rw [u3 5 (by decide) (by decide) (by decide) (by decide), frM_0 (by decide)]; decide
    · rw [u3 5 (by decide) (by decide) (by decide) (by decide), frM_0 (by decide), u2 _ (by omega), F2 0 (by decide)]; decide
    · rw [s3 7 (by decide) (by decide) (by decide), A3, hA, zgh]; rfl
    · rw [u2 _ (by omega), frM_3 hw]; rfl
    · rw [u3 6 (by decide) (by decide) (by decide) (by decide), frM_0 (by decide)]; rfl
    · rw [s2 _ (by decide), r4]; rfl
    · rw [u3 10 (by decide) (by decide) (by decide) (by decide), frM_0 (by decide)]; rfl
    · rw [s2 _ (by decide), r5]; rfl
    · rw [u3 12 (by decide) (by decide) (by decide) (by decide), frM_0 (by decide)]; rfl
    · rw [u3 5 (by decide) (by decide) (by decide) (by decide), frM_0 (by decide)]
  have L9 := hC.1
  have C2 : TC L t A2 := C1.fr (s2 1 (by decide)) (s2 2 (by decide))
  have M2 : TM q L t K2 := M1.fr (u2 _ (by omega)) (u3 14 (by decide) (by decide) (by decide) (by decide))
  obtain ⟨j, x4, μ', κ', c1, c2, c3, c4, c5, c6, c7⟩ := lines_T (ν := ν1) (τ := τ) (x1 := nI L) (L - tkS t L 0) (tkS t L 0) 0 zFuel zFuel 0 0 (fun _ => false) A2 K2 (by omega) (Nat.zero_le _) (by unfold zFuel; omega) (by unfold zFuel; omega) T C2 M2 L0 (by rw [u3 13 (by decide) (by decide) (by decide) (by decide), Fq 13 (by decide)]; rfl)
  have F2' : FS A2 := r3.x (pC.x ⟨s2, s3 7 (by decide) (by decide) (by decide)⟩)
  have k4 : ∀ i, i < 6 → κ' (q + 4) i = κ (q + 4) i ∧ κ' (q + 5) i = κ (q + 5) i := fun i hi => by
    rw [(c6.2.2 i hi).1, (c6.2.2 i hi).2, u2 _ (by omega), u2 _ (by omega), Fr _ (by omega) (by omega) (by omega), Fr _ (by omega) (by omega) (by omega)]
    exact ⟨rfl, rfl⟩
  have sC : E_Reader_readInto (nI L) μ ν = f_Reader_readInto_38 zFuel (nI L) 0 0 A2 ν1 := by
    rw [E_Reader_readInto, e_Reader_readInto_0, zlet_eq, zlet_eq, zlet_eq, zlet_eq, zlet_eq, ← hA, ob_eq r1]
    dsimp only
    rw [ob_eq s1]
  have sM : E_M_readText q (nI L) κ τ = f_M_readText_28 q zFuel (nI L) K2 τ := by
    rw [E_M_readText, e_M_readText_0, zlet_eq, zlet_eq, zlet_eq, zlet_eq, ← hK, ob_eq (show E_M_freshText q K τ = some (frM q K, τ) from rfl), ob_eq u1]
  have common : (∀ r, r ≠ 3 → r < 19 ∨ 34 ≤ r → μ' r = μ r) ∧ FS μ' ∧ (∀ r, r ≠ q → r ≠ q + 2 → r ≠ q + 3 → r ≠ q + 4 → r ≠ q + 5 → r ≠ q + 6 → κ' r = κ r) ∧ (∀ k, k < 5 ∨ k = 7 ∨ k = 8 ∨ k = 9 ∨ k = 11 ∨ 20 < k → κ' q k = κ q k) := by
    refine ⟨fun r h1 h2 => by rw [c5.1 r h1 (by omega), s2 r h1, r2 r h2, Ar r h1], F2'.x c5, fun r h1 h2 h3 h4 h5 h6 => by rw [c6.1 r h1 (by omega), u2 r h1, Fr r h2 h3 h1], fun k hk => by rw [c6.2.1 k (by omega) (by omega) (by omega) (by omega) (by omega) (by omega), u3 k (by omega) (by omega) (by omega) (by omega), Fo k hk]⟩
  rcases c7 with ⟨n', m', B', d⟩ | d
  · exact ⟨j, x4, n', m', B', μ', ν1, κ', by rw [sC]; exact c1, by rw [sM]; exact c2, c3, c4, common.1, common.2.1, common.2.2.1, common.2.2.2, k4, r8, r9, Or.inl d⟩
  · exact ⟨j, x4, 0, 0, fun _ => false, μ', ν1, κ', by rw [sC]; exact c1, by rw [sM]; exact c2, c3, c4, common.1, common.2.1, common.2.2.1, common.2.2.2, k4, r8, r9, Or.inr d⟩
