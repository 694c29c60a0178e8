/-! The reference's battery; both side by side. -/
theorem zMax_m (x w : Int32) : (zMax x w).toInt = max x.toInt w.toInt := by
  rw [zMax_t]
  split <;> omega
theorem zMin_m (x w : Int32) : (zMin x w).toInt = min x.toInt w.toInt := by
  rw [zMin_t]
  split <;> omega
def btN (q : Nat) (τ : zJ) (N : Int32) : zJ := if N = 1 then zul τ (q + 9) 8 (τ (q + 9) 8 + 1) else if N = 2 then zul τ (q + 9) 9 (τ (q + 9) 9 + 1) else if N = 0 then zul τ (q + 9) 10 (τ (q + 9) 10 + 1) else τ
theorem M_207 {q : Nat} {A : zI} {τ : zJ} {D base T st N : Int32} (hs : A (q + 7) 34 = st) (h3 : st = 0 ∨ st = 1 ∨ st = 2) (hN : N = bN st (A q 30) base T (A (q + 7) 33 + T) (A (q + 7) 0) (A (q + 7) 2) (A (q + 7) 6) (A (q + 7) 5) (A (q + 7) 4) (A (q + 7) 35 + 1)) (hl : 0 ≤ lg_cmp (100 * Int32.toInt64 (A (q + 7) 33 + T)) (Int32.toInt64 (A (q + 7) 4) * Int32.toInt64 (A (q + 7) 0)) ↔ A (q + 7) 4 * A (q + 7) 0 ≤ (A (q + 7) 33 + T) * 100) : ∃ κ', e_M_charges_207 q D base T A τ = some (κ', btN q τ N) ∧ (∀ r, r ≠ q → r ≠ q + 7 → κ' r = A r) ∧ (∀ k, k ≠ 32 → κ' q k = A q k) ∧ (∀ k, k ≠ 33 → k ≠ 34 → k ≠ 35 → κ' (q + 7) k = A (q + 7) k) ∧ κ' q 32 = T ∧ κ' (q + 7) 33 = A (q + 7) 33 + T ∧ κ' (q + 7) 34 = (if N = -1 then st else N) ∧ κ' (q + 7) 35 = (if N = 1 then 0 else if st = 1 then A (q + 7) 35 + 1 else A (q + 7) 35) := by
  generalize hB : zu (zu A q 32 T) (q + 7) 33 (A (q + 7) 33 + T) = B
  have b33 : B (q + 7) 33 = A (q + 7) 33 + T := by rw [← hB, zgh]
  have b7 : ∀ k, k ≠ 33 → B (q + 7) k = A (q + 7) k := fun k h => by rw [← hB]; simp (disch := omega) only [zgk, zgr]
  have b32 : B q 32 = T := by rw [← hB]; simp (disch := omega) only [zgh, zgr]
  have bq : ∀ k, k ≠ 32 → B q k = A q k := fun k h => by rw [← hB]; simp (disch := omega) only [zgk, zgr]
  have br : ∀ r, r ≠ q → r ≠ q + 7 → B r = A r := fun r h h' => by rw [← hB]; simp (disch := omega) only [zgr]
  have bs : B (q + 7) 34 = st := (b7 34 (by decide)).trans hs
  have same : ∀ N : Int32, N = -1 → ¬ st = 1 → ∃ κ', e_M_charges_436 q D base B τ = some (κ', btN q τ N) ∧ (∀ r, r ≠ q → r ≠ q + 7 → κ' r = A r) ∧ (∀ k, k ≠ 32 → κ' q k = A q k) ∧ (∀ k, k ≠ 33 → k ≠ 34 → k ≠ 35 → κ' (q + 7) k = A (q + 7) k) ∧ κ' q 32 = T ∧ κ' (q + 7) 33 = A (q + 7) 33 + T ∧ κ' (q + 7) 34 = (if N = -1 then st else N) ∧ κ' (q + 7) 35 = (if N = 1 then 0 else if st = 1 then A (q + 7) 35 + 1 else A (q + 7) 35) := by
    intro N e g
    subst e
    exact ⟨B, rfl, br, bq, fun k h _ _ => b7 k h, b32, b33, by rw [if_pos rfl]; exact bs, by rw [if_neg (by decide), if_neg g]; exact b7 35 (by decide)⟩
  have key : e_M_charges_207 q D base T A τ = (if st = 0 then (if A (q + 7) 2 ≤ base + T / 20 then e_M_charges_268 q D base B τ else if A (q + 7) 33 + T = A (q + 7) 0 then e_M_charges_268 q D base B τ else e_M_charges_436 q D base B τ) else if st = 1 then (if A (q + 7) 5 ≤ A (q + 7) 35 + 1 then e_M_charges_364 q D base (zu B (q + 7) 35 (A (q + 7) 35 + 1)) τ else if A (q + 7) 6 ≤ T then e_M_charges_436 q D base (zu B (q + 7) 35 (A (q + 7) 35 + 1)) τ else if A q 30 < A (q + 7) 6 then e_M_charges_436 q D base (zu B (q + 7) 35 (A (q + 7) 35 + 1)) τ else e_M_charges_364 q D base (zu B (q + 7) 35 (A (q + 7) 35 + 1)) τ) else if 0 ≤ lg_cmp (100 * Int32.toInt64 (A (q + 7) 33 + T)) (Int32.toInt64 (A (q + 7) 4) * Int32.toInt64 (A (q + 7) 0)) then e_M_charges_436 q D base B τ else some (zu B (q + 7) 34 0, zul τ (q + 9) 10 (τ (q + 9) 10 + 1))) := by
    rw [e_M_charges_207, zlet_eq, zlet_eq, zgh]
    rw [show zu A q 32 T (q + 7) 33 = A (q + 7) 33 by rw [zgr (by omega)], hB, bs, b32, b33, b7 0 (by decide), b7 2 (by decide), b7 4 (by decide), b7 35 (by decide), zlet_eq, zlet_eq, zlet_eq]
    simp (disch := omega) only [zgh, zgk, zgr, b7, bq, b32, e_M_charges_436]
  rw [key]
  rcases h3 with rfl | rfl | rfl
  · rw [if_pos rfl]
    rw [bN, if_pos rfl] at hN
    have hi : ∀ N : Int32, N = 1 → ∃ κ', e_M_charges_268 q D base B τ = some (κ', btN q τ N) ∧ (∀ r, r ≠ q → r ≠ q + 7 → κ' r = A r) ∧ (∀ k, k ≠ 32 → κ' q k = A q k) ∧ (∀ k, k ≠ 33 → k ≠ 34 → k ≠ 35 → κ' (q + 7) k = A (q + 7) k) ∧ κ' q 32 = T ∧ κ' (q + 7) 33 = A (q + 7) 33 + T ∧ κ' (q + 7) 34 = (if N = -1 then 0 else N) ∧ κ' (q + 7) 35 = (if N = 1 then 0 else if (0 : Int32) = 1 then A (q + 7) 35 + 1 else A (q + 7) 35) := by
      intro N e
      subst e
      refine ⟨zu (zu B (q + 7) 34 1) (q + 7) 35 0, rfl, fun r h h' => ?_, fun k h => ?_, fun k h1 h2 h3 => ?_, ?_, ?_, ?_, ?_⟩
      · simp (disch := omega) only [zgr, br]
      · simp (disch := omega) only [zgr, bq]
      · simp (disch := omega) only [zgk, b7]
      · simp (disch := omega) only [zgr, b32]
      · simp (disch := omega) only [zgk, b33]
      · rw [if_neg (by decide)]; simp (disch := omega) only [zgk, zgh]
      · rw [if_pos rfl, zgh]
    by_cases c : base + T / 20 < A (q + 7) 2
    · rw [if_neg (Int32.not_le.mpr c)]
      rw [if_pos c] at hN
      by_cases d : A (q + 7) 33 + T = A (q + 7) 0
      · rw [if_pos d]
        rw [if_pos d] at hN
        exact hi N hN
      · rw [if_neg d]
        rw [if_neg d] at hN
        exact same N hN (by decide)
    · rw [if_pos (Int32.not_lt.mp c)]
      rw [if_neg c] at hN
      exact hi N hN
  · rw [if_neg one_ne_0, if_pos rfl]
    rw [bN, if_neg one_ne_0, if_pos rfl] at hN
    have no : ∀ N : Int32, N = -1 → ∃ κ', e_M_charges_436 q D base (zu B (q + 7) 35 (A (q + 7) 35 + 1)) τ = some (κ', btN q τ N) ∧ (∀ r, r ≠ q → r ≠ q + 7 → κ' r = A r) ∧ (∀ k, k ≠ 32 → κ' q k = A q k) ∧ (∀ k, k ≠ 33 → k ≠ 34 → k ≠ 35 → κ' (q + 7) k = A (q + 7) k) ∧ κ' q 32 = T ∧ κ' (q + 7) 33 = A (q + 7) 33 + T ∧ κ' (q + 7) 34 = (if N = -1 then 1 else N) ∧ κ' (q + 7) 35 = (if N = 1 then 0 else if (1 : Int32) = 1 then A (q + 7) 35 + 1 else A (q + 7) 35) := by
      intro N e
      subst e
      refine ⟨_, rfl, fun r h h' => ?_, fun k h => ?_, fun k h1 h2 h3 => ?_, ?_, ?_, ?_, ?_⟩
      · simp (disch := omega) only [zgr, br]
      · simp (disch := omega) only [zgr, bq]
      · simp (disch := omega) only [zgk, b7]
      · simp (disch := omega) only [zgr, b32]
      · simp (disch := omega) only [zgk, b33]
      · rw [if_pos rfl]; simp (disch := omega) only [zgk, bs]
      · rw [if_neg (by decide), if_pos rfl, zgh]
    have yes : ∀ N : Int32, N = 2 → ∃ κ', e_M_charges_364 q D base (zu B (q + 7) 35 (A (q + 7) 35 + 1)) τ = some (κ', btN q τ N) ∧ (∀ r, r ≠ q → r ≠ q + 7 → κ' r = A r) ∧ (∀ k, k ≠ 32 → κ' q k = A q k) ∧ (∀ k, k ≠ 33 → k ≠ 34 → k ≠ 35 → κ' (q + 7) k = A (q + 7) k) ∧ κ' q 32 = T ∧ κ' (q + 7) 33 = A (q + 7) 33 + T ∧ κ' (q + 7) 34 = (if N = -1 then 1 else N) ∧ κ' (q + 7) 35 = (if N = 1 then 0 else if (1 : Int32) = 1 then A (q + 7) 35 + 1 else A (q + 7) 35) := by
      intro N e
      subst e
      refine ⟨zu (zu B (q + 7) 35 (A (q + 7) 35 + 1)) (q + 7) 34 2, rfl, fun r h h' => ?_, fun k h => ?_, fun k h1 h2 h3 => ?_, ?_, ?_, ?_, ?_⟩
      · simp (disch := omega) only [zgr, br]
      · simp (disch := omega) only [zgr, bq]
      · simp (disch := omega) only [zgk, b7]
      · simp (disch := omega) only [zgr, b32]
      · simp (disch := omega) only [zgk, b33]
      · rw [if_neg (by decide), zgh]
      · rw [if_neg (by decide), if_pos rfl, zgk (by decide), zgh]
    by_cases c : A (q + 7) 35 + 1 < A (q + 7) 5
    · rw [if_neg (Int32.not_le.mpr c)]
      by_cases d : A (q + 7) 6 ≤ T
      · rw [if_pos d]
        rw [if_pos d, if_pos c] at hN
        exact no N hN
      · rw [if_neg d]
        rw [if_neg d] at hN
        by_cases e : A q 30 < A (q + 7) 6
        · rw [if_pos e]
          rw [if_pos e, if_pos c] at hN
          exact no N hN
        · rw [if_neg e]
          rw [if_neg e] at hN
          exact yes N hN
    · rw [if_pos (Int32.not_lt.mp c)]
      rw [if_neg c, ite_self, ite_self] at hN
      exact yes N hN
  · rw [if_neg (by decide), if_neg (by decide)]
    rw [bN, if_neg (by decide), if_neg (by decide)] at hN
    by_cases c : A (q + 7) 4 * A (q + 7) 0 ≤ (A (q + 7) 33 + T) * 100
    · rw [if_pos (hl.mpr c)]
      rw [if_pos c] at hN
      exact same N hN (by decide)
    · rw [if_neg (fun g => c (hl.mp g))]
      rw [if_neg c] at hN
      subst hN
      refine ⟨zu B (q + 7) 34 0, rfl, fun r h h' => ?_, fun k h => ?_, fun k h1 h2 h3 => ?_, ?_, ?_, ?_, ?_⟩
      · simp (disch := omega) only [zgr, br]
      · simp (disch := omega) only [zgr, bq]
      · simp (disch := omega) only [zgk, b7]
      · simp (disch := omega) only [zgr, b32]
      · simp (disch := omega) only [zgk, b33]
      · rw [if_neg (by decide), zgh]
      · rw [if_neg (by decide), if_neg (by decide), zgk (by decide), b7 35 (by decide)]
theorem M_164 {q : Nat} {A : zI} {τ : zJ} {D base : Int32} : e_M_charges_164 q D base A τ = e_M_charges_207 q D base (zMin (A q 32) (A (q + 7) 0 - A (q + 7) 33)) A τ := by
  rw [e_M_charges_164, zMin_ref, ← apply_ite (fun v => e_M_charges_207 q D base v A τ)]
  by_cases c : A q 32 ≤ A (q + 7) 0 - A (q + 7) 33
  · rw [if_pos c]
    by_cases d : A (q + 7) 0 - A (q + 7) 33 ≤ A q 32
    · rw [if_pos d, Int32.le_antisymm c d]
    · rw [if_neg d]
  · rw [if_neg c, if_pos (Int32.le_of_lt (Int32.not_le.mp c))]
theorem M_131 {q : Nat} {A : zI} {τ : zJ} {D base s0 s1 : Int32} (h0 : 0 ≤ (A q 32).toInt) : e_M_charges_131 q D base s0 s1 A τ = e_M_charges_164 q D base (zu A q 32 (zMax 0 (zMin (A q 32) (s0 * s1 + 19)))) τ := by
  have z0 : (0 : Int32).toInt = 0 := rfl
  have e : (if 0 ≤ s0 * s1 + 19 then (if A q 32 ≤ s0 * s1 + 19 then A q 32 else s0 * s1 + 19) else 0) = zMax 0 (zMin (A q 32) (s0 * s1 + 19)) := by
    generalize s0 * s1 + 19 = y
    apply Int32.toInt_inj.mp
    rw [zMax_m, zMin_m, z0]
    by_cases c : 0 ≤ y
    · have c' := ile.mp c
      rw [z0] at c'
      rw [if_pos c]
      by_cases d : A q 32 ≤ y
      · have d' := ile.mp d
        rw [if_pos d]
        omega
      · have d' : y.toInt < (A q 32).toInt := ilt.mp (Int32.not_le.mp d)
        rw [if_neg d]
        omega
    · have c' := ilt.mp (Int32.not_le.mp c)
      rw [z0] at c'
      rw [if_neg c, z0]
      omega
  rw [e_M_charges_131, zlet_eq, ← e]
  by_cases c : 0 ≤ s0 * s1 + 19
  · rw [if_pos c, if_pos c]
    by_cases d : A q 32 ≤ s0 * s1 + 19
    · rw [if_pos d, if_pos d]; rfl
    · rw [if_neg d, if_neg d]; rfl
  · rw [if_neg c, if_neg c]; rfl
/-- what the two hold alike of the battery -/
def RB (b q : Nat) (μ κ : zI) : Prop := μ (b + 12) 0 = κ (q + 7) 33 ∧ μ (b + 12) 1 = κ (q + 7) 34 ∧ μ (b + 12) 2 = κ (q + 7) 35 ∧ (κ (q + 7) 34 = 0 ∨ κ (q + 7) 34 = 1 ∨ κ (q + 7) 34 = 2) ∧ 0 ≤ (κ (q + 7) 33).toInt ∧ (κ (q + 7) 33).toInt ≤ (κ (q + 7) 0).toInt
theorem sim_take {b q : Nat} {μ κ : zI} {ν τ : zJ} {g : Int32} (h : RB b q μ κ) (ht : ∀ k, k < 19 → μ (b + 2) k = κ (q + 7) k) (hg : κ q 30 = g) (g0 : 0 ≤ g.toInt) (g9 : g.toInt ≤ 598801) (c0 : 1000 ≤ (κ (q + 7) 0).toInt) (c9 : (κ (q + 7) 0).toInt ≤ 99999) (d0 : 0 ≤ (κ (q + 7) 1).toInt) (k0 : 0 ≤ (κ (q + 7) 4).toInt) (k9 : (κ (q + 7) 4).toInt ≤ 100) : ∃ μ' κ' N, E_Battery_take b g μ ν = some (μ', ν) ∧ E_M_charges q κ τ = some (κ', btN q (zul τ (q + 9) 5 (τ (q + 9) 5 + Int32.toInt64 (μ' (b + 12) 3))) N) ∧ (∀ r, r ≠ b + 12 → μ' r = μ r) ∧ (∀ r, r ≠ q → r ≠ q + 7 → κ' r = κ r) ∧ (∀ k, k ≠ 32 → κ' q k = κ q k) ∧ (∀ k, k ≠ 33 → k ≠ 34 → k ≠ 35 → κ' (q + 7) k = κ (q + 7) k) ∧ RB b q μ' κ' ∧ κ' q 32 = μ' (b + 12) 4 ∧ μ' (b + 12) 5 = N ∧ (N = -1 ∨ N = 0 ∨ N = 1 ∨ N = 2) := by
  obtain ⟨h0, h1, h2, h3, h4, h5⟩ := h
  have z0 : (0 : Int32).toInt = 0 := rfl
  generalize hst : κ (q + 7) 34 = st at h1 h3
  generalize hD : zMin (κ (q + 7) 33) (κ (q + 7) 1) = D
  have Db : 0 ≤ D.toInt ∧ D.toInt ≤ (κ (q + 7) 33).toInt := by rw [← hD, zMin_t]; split <;> omega
  generalize hC : κ (q + 7) 33 - D = C
  have Ct : C.toInt = (κ (q + 7) 33).toInt - D.toInt := by rw [← hC, isb (by omega) (by omega)]
  generalize hB : 1100 + 300 * C / κ (q + 7) 0 = base
  generalize hW : bW st g base (κ (q + 7) 2) (κ (q + 7) 3) = W
  have Wb : 0 ≤ W.toInt ∧ W.toInt ≤ g.toInt := by
    rw [← hW, bW]
    split
    · omega
    · rw [zMax_m, zMin_m, z0]
      omega
  generalize hT : zMin W (κ (q + 7) 0 - C) = T
  have e1 : (κ (q + 7) 0 - C).toInt = (κ (q + 7) 0).toInt - C.toInt := isb (by omega) (by omega)
  have Tb : 0 ≤ T.toInt ∧ T.toInt ≤ (κ (q + 7) 0).toInt - C.toInt := by
    rw [← hT, zMin_t, e1]
    split <;> omega
  have e2 : (C + T).toInt = C.toInt + T.toInt := iad (by omega) (by omega)
  generalize hN : bN st g base T (C + T) (κ (q + 7) 0) (κ (q + 7) 2) (κ (q + 7) 6) (κ (q + 7) 5) (κ (q + 7) 4) (κ (q + 7) 35 + 1) = N
  have N4 : N = -1 ∨ N = 0 ∨ N = 1 ∨ N = 2 := by
    rw [← hN, bN]
    repeat' split
    all_goals decide
  have hcn : ¬ κ (q + 7) 0 ≤ 0 := fun e => by have := ile.mp e; rw [z0] at this; omega
  obtain ⟨μ', a1, a2, a3, a4, a5, a6, a7, a8⟩ := C_take (b := b) (μ := μ) (ν := ν) (g := g) (st := st) (D := D) (base := base) (T := T) (N := N) h1 h3 (by rw [h0, ht 1 (by decide)]; exact hD.symm) (by rw [ht 0 (by decide)]; exact hcn) (by rw [h0, hC, ht 0 (by decide)]; exact hB.symm) (by rw [ht 2 (by decide), ht 3 (by decide), ht 0 (by decide), h0, hC, hW]; exact hT.symm) (by rw [ht 2 (by decide), ht 0 (by decide), h0, hC, ht 6 (by decide), ht 5 (by decide), ht 4 (by decide), h2]; exact hN.symm)
  generalize hA1 : zu (zu κ (q + 7) 33 C) q 32 g = A1
  have p7 : ∀ k, k ≠ 33 → A1 (q + 7) k = κ (q + 7) k := fun k h => by rw [← hA1]; simp (disch := omega) only [zgr, zgk]
  have p33 : A1 (q + 7) 33 = C := by rw [← hA1]; simp (disch := omega) only [zgr, zgh]
  have pq : ∀ k, k ≠ 32 → A1 q k = κ q k := fun k h => by rw [← hA1]; simp (disch := omega) only [zgr, zgk]
  have p32 : A1 q 32 = g := by rw [← hA1, zgh]
  have pr : ∀ r, r ≠ q → r ≠ q + 7 → A1 r = κ r := fun r h h' => by rw [← hA1]; simp (disch := omega) only [zgr]
  generalize hτ : zul τ (q + 9) 5 (τ (q + 9) 5 + Int32.toInt64 D) = τ1
  have hcl : ¬ Int32.toInt64 (κ (q + 7) 0) = 0 := fun e => by
    have := congrArg Int64.toInt e
    rw [i2t] at this
    have z : (0 : Int64).toInt = 0 := rfl
    omega
  have key : E_M_charges q κ τ = if st ≤ 0 then e_M_charges_164 q D base A1 τ1 else if st = 1 then e_M_charges_131 q D base 20 (κ (q + 7) 2 - base) A1 τ1 else e_M_charges_131 q D base 20 (κ (q + 7) 3 - base) A1 τ1 := by
    have s32 : e_M_charges_32 q D κ τ = if st ≤ 0 then e_M_charges_164 q D base A1 τ1 else if st = 1 then e_M_charges_131 q D base 20 (κ (q + 7) 2 - base) A1 τ1 else e_M_charges_131 q D base 20 (κ (q + 7) 3 - base) A1 τ1 := by
      rw [e_M_charges_32, zlet_eq, zlet_eq, hC, hτ, zgk (show (0 : Nat) ≠ 33 by decide), if_neg hcl, zlet_eq, zlet_eq, zgh, base_eq (by omega) (by omega) c0, hB, show zu κ (q + 7) 33 C q 30 = g by rw [zgr (by omega), hg], hA1, p7 34 (by decide), hst, p7 2 (by decide), p7 3 (by decide)]
    rw [E_M_charges, e_M_charges_0, ← s32, ← hD, zMin_ref]
    by_cases c : κ (q + 7) 1 ≤ κ (q + 7) 33
    · rw [if_pos c, if_pos c]
    · rw [if_neg c, if_neg c]
  have tail : ∀ A, (∀ k, k ≠ 33 → A (q + 7) k = κ (q + 7) k) → A (q + 7) 33 = C → (∀ k, k ≠ 32 → A q k = κ q k) → (∀ r, r ≠ q → r ≠ q + 7 → A r = κ r) → A q 32 = W → ∃ κ', e_M_charges_164 q D base A τ1 = some (κ', btN q τ1 N) ∧ (∀ r, r ≠ q → r ≠ q + 7 → κ' r = κ r) ∧ (∀ k, k ≠ 32 → κ' q k = κ q k) ∧ (∀ k, k ≠ 33 → k ≠ 34 → k ≠ 35 → κ' (q + 7) k = κ (q + 7) k) ∧ κ' q 32 = T ∧ κ' (q + 7) 33 = C + T ∧ κ' (q + 7) 34 = (if N = -1 then st else N) ∧ κ' (q + 7) 35 = (if N = 1 then 0 else if st = 1 then κ (q + 7) 35 + 1 else κ (q + 7) 35) := by
    intro A f7 f33 fq fr f32
    have cb : 0 ≤ (κ (q + 7) 4).toInt * (κ (q + 7) 0).toInt := Int.mul_nonneg k0 (by omega)
    have cb2 : (κ (q + 7) 4).toInt * (κ (q + 7) 0).toInt ≤ 100 * 99999 := Int.mul_le_mul k9 c9 (by omega) (by omega)
    obtain ⟨κ', x1, x2, x3, x4, x5, x6, x7, x8⟩ := M_207 (q := q) (A := A) (τ := τ1) (D := D) (base := base) (T := T) (st := st) (N := N) (by rw [f7 34 (by decide)]; exact hst) h3 (by rw [fq 30 (by decide), hg, f33, f7 0 (by decide), f7 2 (by decide), f7 6 (by decide), f7 5 (by decide), f7 4 (by decide), f7 35 (by decide)]; exact hN.symm) (by rw [f33, f7 4 (by decide), f7 0 (by decide)]; exact lcmp2 (by omega) (by omega) (by omega) (by omega))
    refine ⟨κ', ?_, fun r h h' => (x2 r h h').trans (fr r h h'), fun k h => (x3 k h).trans (fq k h), fun k u v w => (x4 k u v w).trans (f7 k u), x5, x6.trans (by rw [f33]), x7, x8.trans (by rw [f7 35 (by decide)])⟩
    rw [M_164, f32, f7 0 (by decide), f33, hT]
    exact x1
  have main : ∃ κ', E_M_charges q κ τ = some (κ', btN q τ1 N) ∧ (∀ r, r ≠ q → r ≠ q + 7 → κ' r = κ r) ∧ (∀ k, k ≠ 32 → κ' q k = κ q k) ∧ (∀ k, k ≠ 33 → k ≠ 34 → k ≠ 35 → κ' (q + 7) k = κ (q + 7) k) ∧ κ' q 32 = T ∧ κ' (q + 7) 33 = C + T ∧ κ' (q + 7) 34 = (if N = -1 then st else N) ∧ κ' (q + 7) 35 = (if N = 1 then 0 else if st = 1 then κ (q + 7) 35 + 1 else κ (q + 7) 35) := by
    rw [key]
    have set : ∀ v, v = W → ∃ κ', e_M_charges_164 q D base (zu A1 q 32 v) τ1 = some (κ', btN q τ1 N) ∧ (∀ r, r ≠ q → r ≠ q + 7 → κ' r = κ r) ∧ (∀ k, k ≠ 32 → κ' q k = κ q k) ∧ (∀ k, k ≠ 33 → k ≠ 34 → k ≠ 35 → κ' (q + 7) k = κ (q + 7) k) ∧ κ' q 32 = T ∧ κ' (q + 7) 33 = C + T ∧ κ' (q + 7) 34 = (if N = -1 then st else N) ∧ κ' (q + 7) 35 = (if N = 1 then 0 else if st = 1 then κ (q + 7) 35 + 1 else κ (q + 7) 35) := by
      intro v hv
      refine tail _ (fun k h => ?_) ?_ (fun k h => ?_) (fun r h h' => ?_) ?_
      · rw [zgr (by omega), p7 k h]
      · rw [zgr (by omega), p33]
      · rw [zgk h, pq k h]
      · rw [zgr h, pr r h h']
      · rw [zgh, hv]
    rcases h3 with rfl | rfl | rfl
    · rw [if_pos (show (0 : Int32) ≤ 0 by decide)]
      exact tail A1 p7 p33 pq pr (by rw [p32, ← hW, bW, if_pos rfl])
    · rw [if_neg (show ¬ (1 : Int32) ≤ 0 by decide), if_pos rfl, M_131 (by rw [p32]; exact g0), p32]
      exact set _ (by rw [← hW, bW, if_neg one_ne_0, if_pos rfl])
    · rw [if_neg (show ¬ (2 : Int32) ≤ 0 by decide), if_neg (by decide), M_131 (by rw [p32]; exact g0), p32]
      exact set _ (by rw [← hW, bW, if_neg (by decide), if_neg (by decide)])
  obtain ⟨κ', x1, x2, x3, x4, x5, x6, x7, x8⟩ := main
  refine ⟨μ', κ', N, a1, by rw [a6, hτ]; exact x1, a2, x2, x3, x4, ⟨?_, ?_, ?_, ?_, ?_, ?_⟩, x5.trans a7.symm, a8, N4⟩
  · rw [a3, x6, h0, hC]
  · rw [a4, x7]
  · rw [a5, x8, h2]
  · rw [x7]
    split
    · exact h3
    · rcases N4 with e | e | e | e
      · contradiction
      · exact Or.inl e
      · exact Or.inr (Or.inl e)
      · exact Or.inr (Or.inr e)
  · rw [x6, e2]; omega
  · rw [x6, e2, x4 0 (by decide) (by decide) (by decide)]; omega
