/-! The follower side by side: how it moves. -/
def fC (r0 : Nat) (l : List Nat) (μ μ' : zI) : Prop := (∀ r, r ≠ r0 → μ' r = μ r) ∧ ∀ k, k ∉ l → μ' r0 k = μ r0 k
def fM (q : Nat) (l l' : List Nat) (κ κ' : zI) : Prop := (∀ r, r ≠ q → r ≠ q + 7 → κ' r = κ r) ∧ (∀ k, k ∉ l → κ' q k = κ q k) ∧ ∀ k, k ∉ l' → κ' (q + 7) k = κ (q + 7) k
theorem fC.rf {r0 : Nat} {l : List Nat} {μ : zI} : fC r0 l μ μ := ⟨fun _ _ => rfl, fun _ _ => rfl⟩
theorem fC.put {r0 : Nat} {l : List Nat} {μ μ1 : zI} (h : fC r0 l μ μ1) {k : Nat} (v : Int32) (hk : k ∈ l) : fC r0 l μ (zu μ1 r0 k v) := ⟨fun r hr => (zgr hr).trans (h.1 r hr), fun j hj => (zgk (fun e => hj (by rw [e]; exact hk))).trans (h.2 j hj)⟩
theorem fC.tr {r0 : Nat} {l l1 l2 : List Nat} {μ μ1 μ2 : zI} (h : fC r0 l1 μ μ1) (h2 : fC r0 l2 μ1 μ2) (s1 : ∀ k, k ∈ l1 → k ∈ l) (s2 : ∀ k, k ∈ l2 → k ∈ l) : fC r0 l μ μ2 := ⟨fun r hr => (h2.1 r hr).trans (h.1 r hr), fun k hk => (h2.2 k (fun e => hk (s2 k e))).trans (h.2 k (fun e => hk (s1 k e)))⟩
theorem fM.rf {q : Nat} {l l' : List Nat} {κ : zI} : fM q l l' κ κ := ⟨fun _ _ _ => rfl, fun _ _ => rfl, fun _ _ => rfl⟩
theorem fM.pq {q : Nat} {l l' : List Nat} {κ κ1 : zI} (h : fM q l l' κ κ1) {k : Nat} (v : Int32) (hk : k ∈ l) : fM q l l' κ (zu κ1 q k v) := ⟨fun r hr h7 => (zgr hr).trans (h.1 r hr h7), fun j hj => (zgk (fun e => hj (by rw [e]; exact hk))).trans (h.2.1 j hj), fun j hj => (by rw [zgr (by omega)]; exact h.2.2 j hj)⟩
theorem fM.p7 {q : Nat} {l l' : List Nat} {κ κ1 : zI} (h : fM q l l' κ κ1) {k : Nat} (v : Int32) (hk : k ∈ l') : fM q l l' κ (zu κ1 (q + 7) k v) := ⟨fun r hr h7 => (zgr h7).trans (h.1 r hr h7), fun j hj => (by rw [zgr (by omega)]; exact h.2.1 j hj), fun j hj => (zgk (fun e => hj (by rw [e]; exact hk))).trans (h.2.2 j hj)⟩
theorem fM.tr {q : Nat} {l l' l1 l1' l2 l2' : List Nat} {κ κ1 κ2 : zI} (h : fM q l1 l1' κ κ1) (h2 : fM q l2 l2' κ1 κ2) (s1 : ∀ k, k ∈ l1 → k ∈ l) (s1' : ∀ k, k ∈ l1' → k ∈ l') (s2 : ∀ k, k ∈ l2 → k ∈ l) (s2' : ∀ k, k ∈ l2' → k ∈ l') : fM q l l' κ κ2 := ⟨fun r hr h7 => (h2.1 r hr h7).trans (h.1 r hr h7), fun k hk => (h2.2.1 k (fun e => hk (s2 k e))).trans (h.2.1 k (fun e => hk (s1 k e))), fun k hk => (h2.2.2 k (fun e => hk (s2' k e))).trans (h.2.2 k (fun e => hk (s1' k e)))⟩
theorem fM.wk {q : Nat} {l l' l1 l1' : List Nat} {κ κ1 : zI} (h : fM q l1 l1' κ κ1) (s1 : ∀ k, k ∈ l1 → k ∈ l) (s1' : ∀ k, k ∈ l1' → k ∈ l') : fM q l l' κ κ1 := h.tr fM.rf s1 s1' (fun _ h => h) (fun _ h => h)
theorem fC.wk {r0 : Nat} {l l1 : List Nat} {μ μ1 : zI} (h : fC r0 l1 μ μ1) (s1 : ∀ k, k ∈ l1 → k ∈ l) : fC r0 l μ μ1 := h.tr fC.rf s1 (fun _ h => h)
/-- the panels are the same where none of their cells is written -/
theorem RP.fr {b q n : Nat} {μ μ' κ κ' : zI} (h : RP b q n μ κ) (h1 : ∀ r, b + 3 ≤ r → r ≤ b + 8 → μ' r = μ r) (h9 : κ' q 9 = κ q 9) (e4 : κ' (q + 4) = κ (q + 4)) (e5 : κ' (q + 5) = κ (q + 5)) (h7 : ∀ i, i < 6 → κ' (q + 7) (19 + i) = κ (q + 7) (19 + i)) (hk : ∀ k, k = 143 ∨ k = 144 ∨ k = 145 → κ' (q + 7) k = κ (q + 7) k) : RP b q n μ' κ' := by
  obtain ⟨g1, g2, g3, g4, g5, g6, gb, gx, gk⟩ := h
  have el : mLit q κ' = mLit q κ := by
    funext i
    unfold mLit
    by_cases hi : i < 6
    · rw [if_pos hi, if_pos hi, e4, h7 i hi]
    · rw [if_neg hi, if_neg hi]
  have m3 := h1 (b + 3) (by omega) (by omega)
  have m4 := h1 (b + 4) (by omega) (by omega)
  have m5 := h1 (b + 5) (by omega) (by omega)
  have m6 := h1 (b + 6) (by omega) (by omega)
  have m7 := h1 (b + 7) (by omega) (by omega)
  have m8 := h1 (b + 8) (by omega) (by omega)
  refine ⟨g1, by rw [m3]; exact g2, h9.trans g3, fun i hi => ?_, fun i hi => ?_, fun x hx => ?_, ?_, ?_, ?_⟩
  · rw [m4, m5, m6, m7, e4, e5, h7 i (by omega), el]; exact g4 i hi
  · rw [e4, e5, h7 i (by omega)]; exact g5 i hi
  · rw [m8, el, e5]; exact g6 x hx
  · rw [m3, el, e5]; exact gb
  · rw [m3, el, e5]; exact gx
  · intro hk1
    rw [hk 145 (by omega)] at hk1
    rw [hk 144 (by omega), hk 143 (by omega), el, e5]
    exact gk hk1
theorem RP.ff {b q n : Nat} {μ μ' κ κ' : zI} {l l1 l2 : List Nat} (h : RP b q n μ κ) (h1 : fC (b + 11) l μ μ') (h2 : fM q l1 l2 κ κ') (c1 : 9 ∉ l1) (c2 : ∀ k, k ∈ l2 → (k < 19 ∨ 24 < k) ∧ k ≠ 143 ∧ k ≠ 144 ∧ k ≠ 145) : RP b q n μ' κ' :=
  h.fr (fun r a c => h1.1 r (by omega)) (h2.2.1 9 c1) (h2.1 _ (by omega) (by omega)) (h2.1 _ (by omega) (by omega)) (fun i hi => h2.2.2 _ (fun e => by have := c2 _ e; omega)) (fun k hk => h2.2.2 k (fun e => by have := c2 _ e; omega))
/-- the power at a point -/
def pwr (q n : Nat) (κ : zI) (y : Nat) : Int32 := pP (mLit q κ) (κ (q + 5)) n (nI y)
theorem RP.pwb {b q n : Nat} {μ κ : zI} (h : RP b q n μ κ) {y : Nat} (hy : y < 1000) : 0 ≤ (pwr q n κ y).toInt ∧ (pwr q n κ y).toInt ≤ 598801 ∧ (pwr q n κ y).toInt ≤ (μ (b + 3) 2).toInt := by
  have := pP_b h.ok (x := nI y) (by rw [nIt (by omega)]; omega) (by rw [nIt (by omega)]; omega)
  refine ⟨this.2.1, this.2.2, ?_⟩
  rw [h.2.2.2.2.2.2.1]
  exact (pB_b h.ok 1000 (by omega)).2.2.2 y hy
theorem pwr_ff {q n : Nat} {κ κ' : zI} {l1 l2 : List Nat} (h2 : fM q l1 l2 κ κ') (c2 : ∀ k, k ∈ l2 → (k < 19 ∨ 24 < k) ∧ k ≠ 143 ∧ k ≠ 144 ∧ k ≠ 145) : pwr q n κ' = pwr q n κ := by
  funext y
  have el : mLit q κ' = mLit q κ := by
    funext i
    unfold mLit
    by_cases hi : i < 6
    · rw [if_pos hi, if_pos hi, h2.1 (q + 4) (by omega) (by omega), h2.2.2 (19 + i) (fun e => by have := c2 _ e; omega)]
    · rw [if_neg hi, if_neg hi]
  rw [pwr, pwr, el, h2.1 (q + 5) (by omega) (by omega)]
def RG (b q : Nat) (μ κ : zI) : Prop := (∃ x, x < 1000 ∧ μ (b + 11) 0 = nI x ∧ κ (q + 7) 26 = nI x) ∧ (μ (b + 11) 1 = κ (q + 7) 27 ∧ (κ (q + 7) 27 = 1 ∨ κ (q + 7) 27 = -1)) ∧ (μ (b + 11) 2 = κ (q + 7) 28 ∧ 1 ≤ (κ (q + 7) 28).toInt ∧ (κ (q + 7) 28).toInt ≤ 64) ∧ μ (b + 11) 3 = κ (q + 7) 29
def RV (b q : Nat) (μ κ : zI) : Prop := κ q 30 = μ (b + 11) 6 ∧ 0 ≤ (μ (b + 11) 6).toInt ∧ (μ (b + 11) 6).toInt ≤ 598801 ∧ (μ (b + 11) 6).toInt ≤ (μ (b + 3) 2).toInt
theorem sim_len {b q : Nat} {μ κ : zI} {ν τ : zJ} (h2 : μ (b + 11) 2 = κ (q + 7) 28) (h2a : 1 ≤ (κ (q + 7) 28).toInt) (h2b : (κ (q + 7) 28).toInt ≤ 64) (h3 : μ (b + 11) 3 = κ (q + 7) 29) (ht : μ (b + 2) 13 = κ (q + 7) 13) : ∃ μ' κ', E_Follower_lengthen b μ ν = some (μ', ν) ∧ E_M_learns q κ τ = some (κ', τ) ∧ fC (b + 11) [2, 3] μ μ' ∧ fM q [] [28, 29] κ κ' ∧ μ' (b + 11) 2 = κ' (q + 7) 28 ∧ 1 ≤ (κ' (q + 7) 28).toInt ∧ (κ' (q + 7) 28).toInt ≤ 64 ∧ μ' (b + 11) 3 = κ' (q + 7) 29 := by
  have k2 : (2 : Int32).toInt = 2 := rfl
  have k64 : (64 : Int32).toInt = 64 := rfl
  have e2 : (2 * κ (q + 7) 28).toInt = 2 * (κ (q + 7) 28).toInt := by rw [imu (by rw [k2]; omega) (by rw [k2]; omega), k2]
  rw [E_Follower_lengthen, e_Follower_lengthen_0, E_M_learns, e_M_learns_0, zlet_eq, zlet_eq, ob_eq Tg13, zlet_eq, zlet_eq, zlet_eq]
  simp (disch := omega) only [zgh, zgk, zgr, ht, h3, h2]
  by_cases c : κ (q + 7) 29 + 1 < κ (q + 7) 13
  · rw [if_pos c, if_neg (Int32.not_le.mpr c), e_Follower_lengthen_43]
    refine ⟨_, _, rfl, rfl, fC.rf.put _ (by decide), fM.rf.p7 _ (by decide), ?_, ?_, ?_, ?_⟩
    · simp (disch := omega) only [zgk, h2]
    · simp (disch := omega) only [zgk, h2a]
    · simp (disch := omega) only [zgk]; exact h2b
    · simp (disch := omega) only [zgh]
  · rw [if_neg c, if_pos (Int32.not_lt.mp c), e_Follower_lengthen_43]
    have em : (if 2 * κ (q + 7) 28 ≤ 64 then e_M_learns_71 q 28 (2 * κ (q + 7) 28) (zu (zu κ (q + 7) 29 (κ (q + 7) 29 + 1)) (q + 7) 29 0) τ else e_M_learns_71 q 28 64 (zu (zu κ (q + 7) 29 (κ (q + 7) 29 + 1)) (q + 7) 29 0) τ) = some (zu (zu (zu κ (q + 7) 29 (κ (q + 7) 29 + 1)) (q + 7) 29 0) (q + 7) 28 (zMin 64 (2 * κ (q + 7) 28)), τ) := by
      have g : ∀ v, e_M_learns_71 q 28 v (zu (zu κ (q + 7) 29 (κ (q + 7) 29 + 1)) (q + 7) 29 0) τ = some (zu (zu (zu κ (q + 7) 29 (κ (q + 7) 29 + 1)) (q + 7) 29 0) (q + 7) 28 v, τ) := fun v => by
        rw [e_M_learns_71, if_pos (show zin 28 146 = true from by decide), show Int32.toNatClampNeg 28 = 28 by decide, zlet_eq]
      rw [zMin_ref, g, g]
      split <;> rfl
    rw [em]
    have mb : 1 ≤ (zMin 64 (2 * κ (q + 7) 28)).toInt ∧ (zMin 64 (2 * κ (q + 7) 28)).toInt ≤ 64 := by
      rw [zMin_t, e2, k64]
      split <;> omega
    refine ⟨_, _, rfl, rfl, ((fC.rf.put _ (by decide)).put _ (by decide)).put _ (by decide), ((fM.rf.p7 _ (by decide)).p7 _ (by decide)).p7 _ (by decide), ?_, ?_, ?_, ?_⟩
    · simp (disch := omega) only [zgh]
    · simp (disch := omega) only [zgh, mb]
    · simp (disch := omega) only [zgh, mb]
    · simp (disch := omega) only [zgh, zgk]
theorem sim_sho {b q : Nat} {μ κ : zI} {ν τ : zJ} (h2 : μ (b + 11) 2 = κ (q + 7) 28) (h2a : 1 ≤ (κ (q + 7) 28).toInt) (h2b : (κ (q + 7) 28).toInt ≤ 64) : ∃ μ' κ', E_Follower_shorten b μ ν = some (μ', ν) ∧ E_M_slows q κ τ = some (κ', τ) ∧ fC (b + 11) [2, 3] μ μ' ∧ fM q [] [28, 29] κ κ' ∧ μ' (b + 11) 2 = κ' (q + 7) 28 ∧ 1 ≤ (κ' (q + 7) 28).toInt ∧ (κ' (q + 7) 28).toInt ≤ 64 ∧ μ' (b + 11) 3 = κ' (q + 7) 29 := by
  have k2 : (2 : Int32).toInt = 2 := rfl
  have k1 : (1 : Int32).toInt = 1 := rfl
  have e2 : (κ (q + 7) 28 / 2).toInt = (κ (q + 7) 28).toInt / 2 := by rw [idv (by omega) (by decide), k2]
  have em : E_M_slows q κ τ = some (zu (zu κ (q + 7) 28 (zMax 1 (κ (q + 7) 28 / 2))) (q + 7) 29 0, τ) := by
    have g : ∀ v, e_M_slows_32 q 28 v κ τ = some (zu (zu κ (q + 7) 28 v) (q + 7) 29 0, τ) := fun v => by
      rw [e_M_slows_32, if_pos (show zin 28 146 = true from by decide), show Int32.toNatClampNeg 28 = 28 by decide, zlet_eq, zlet_eq]
    rw [E_M_slows, e_M_slows_0, g, g, zMax]
    by_cases c : 1 < κ (q + 7) 28 / 2
    · rw [if_pos c, if_pos (Int32.le_of_lt c)]
    · rw [if_neg c]
      by_cases d : 1 ≤ κ (q + 7) 28 / 2
      · rw [if_pos d, Int32.le_antisymm d (Int32.not_lt.mp c)]
      · rw [if_neg d]
  rw [em, E_Follower_shorten, e_Follower_shorten_0, zlet_eq, zlet_eq, h2]
  have mb : 1 ≤ (zMax 1 (κ (q + 7) 28 / 2)).toInt ∧ (zMax 1 (κ (q + 7) 28 / 2)).toInt ≤ 64 := by
    rw [zMax_t, e2, k1]
    split <;> omega
  refine ⟨_, _, rfl, rfl, (fC.rf.put _ (by decide)).put _ (by decide), (fM.rf.p7 _ (by decide)).p7 _ (by decide), ?_, ?_, ?_, ?_⟩
  · simp (disch := omega) only [zgh, zgk]
  · simp (disch := omega) only [zgh, zgk, mb]
  · simp (disch := omega) only [zgh, zgk, mb]
  · simp (disch := omega) only [zgh]
theorem clp (x : Int32) : ∃ y, y < 1000 ∧ zMax 0 (zMin 999 x) = nI y ∧ (if 0 ≤ x then (if x ≤ 999 then x else 999) else 0) = nI y := by
  have z0 : (0 : Int32).toInt = 0 := rfl
  have z9 : (999 : Int32).toInt = 999 := rfl
  have b1 : 0 ≤ (zMax 0 (zMin 999 x)).toInt ∧ (zMax 0 (zMin 999 x)).toInt ≤ 999 := by
    rw [zMax_m, zMin_m, z0, z9]
    omega
  obtain ⟨y, hy, e⟩ := nI_of2 (M := 999) (n := 999) rfl (x := zMax 0 (zMin 999 x)) (fun g => by have := ilt.mp g; rw [z0] at this; omega) (ile.mpr (by rw [z9]; omega))
  refine ⟨y, by omega, e, ?_⟩
  rw [← e]
  apply Int32.toInt_inj.mp
  rw [zMax_m, zMin_m, z0, z9]
  by_cases c : 0 ≤ x
  · have c' := ile.mp c
    rw [z0] at c'
    rw [if_pos c]
    by_cases d : x ≤ 999
    · have d' := ile.mp d
      rw [z9] at d'
      rw [if_pos d]
      omega
    · have d' := ilt.mp (Int32.not_le.mp d)
      rw [z9] at d'
      rw [if_neg d, z9]
      omega
  · have c' := ilt.mp (Int32.not_le.mp c)
    rw [z0] at c'
    rw [if_neg c, z0]
    omega
theorem RP.move {b q n : Nat} {μ κ : zI} {ν : zJ} (h : RP b q n μ κ) (x : Int32) : ∃ y, y < 1000 ∧ E_Follower_moveTo b x μ ν = some (zu (zu μ (b + 11) 0 (nI y)) (b + 11) 6 (pwr q n κ y), ν) ∧ ∀ κ' τ, E_M_within x κ' τ = some (nI y, κ', τ) := by
  obtain ⟨y, hy, e1, e2⟩ := clp x
  refine ⟨y, hy, ?_, fun κ' τ => ?_⟩
  · rw [E_Follower_moveTo, e_Follower_moveTo_0, zlet_eq, e1, zgh, ob_eq (RP.pw (q := q) (n := n) (κ := κ) (τ := ν) (h.ff (fC.rf.put _ (List.mem_singleton_self _)) (fM.rf (l := []) (l' := [])) (by decide) (by intro k hk; cases hk)) hy).1, zlet_eq]
    rfl
  · rw [E_M_within, e_M_within_0, ← e2]
    by_cases c : 0 ≤ x
    · rw [if_pos c, if_pos c]
      split <;> rfl
    · rw [if_neg c, if_neg c]
      rfl
