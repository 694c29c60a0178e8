/-! What a tick adds to the sums. -/
def fI (v : Int32) : Int32 := if v = 0 then 0 else 1
def fJ (v : Int32) : Int64 := if v = 0 then 0 else 1
theorem fI_J (v : Int32) : Int32.toInt64 (fI v) = fJ v := by
  unfold fI fJ
  split <;> rfl
theorem S_flag {x : Int32} {μ : zI} {ν : zJ} : E_S_flag x μ ν = some (fI x, μ, ν) := by
  rw [E_S_flag, e_S_flag_0, fI, e_S_flag_9, e_S_flag_9]
  split <;> rfl
def fB (p : Prop) [Decidable p] : Int64 := if p then 1 else 0
theorem fJ_p : Int32.toInt64 (fI 1) = 1 := rfl
theorem fJ_n : Int32.toInt64 (fI 0) = 0 := rfl
/-- what the class adds -/
def dC (b : Nat) (μ : zI) (k : Nat) : Int64 :=
  if k = 0 then Int32.toInt64 (μ (b + 11) 6) else if k = 1 then Int32.toInt64 (μ (b + 3) 2) else if k = 2 then Int32.toInt64 (μ (b + 12) 4) else if k = 3 then Int32.toInt64 (μ (b + 13) 4) else if k = 4 then Int32.toInt64 (μ b 1) else if k = 5 then Int32.toInt64 (μ (b + 12) 3) else if k = 6 then fJ (μ (b + 13) 7) else if k = 7 then fJ (μ (b + 11) 9) else if k = 8 then (if μ (b + 12) 5 = 1 then 1 else 0) else if k = 9 then (if μ (b + 12) 5 = 2 then 1 else 0) else if k = 10 then (if μ (b + 12) 5 = 0 then 1 else 0) else 0
theorem add_224 {b : Nat} {v : Int64} {s : Int32} {μ : zI} {ν : zJ} : e_Station_addUp_224 b 10 v s μ ν = some (μ, zul ν (b + 14) 10 (v + fJ s)) := by
  rw [e_Station_addUp_224, ob_eq S_flag, if_pos (show zin 10 11 = true from by decide), show Int32.toNatClampNeg 10 = 10 by decide, zlet_eq, fI_J]
theorem add_195 {b : Nat} {v : Int64} {s : Int32} {μ : zI} {ν : zJ} : e_Station_addUp_195 b 9 v s μ ν = some (μ, zul (zul ν (b + 14) 9 (v + fJ s)) (b + 14) 10 (ν (b + 14) 10 + (if μ (b + 12) 5 = 0 then 1 else 0))) := by
  rw [e_Station_addUp_195, ob_eq S_flag, if_pos (show zin 9 11 = true from by decide), show Int32.toNatClampNeg 9 = 9 by decide, zlet_eq, fI_J, add_224, add_224, zlk (by decide)]
  by_cases c : μ (b + 12) 5 = 0
  · rw [if_pos c, if_pos c]; rfl
  · rw [if_neg c, if_neg c]; rfl
theorem add_165 {b : Nat} {v : Int64} {s : Int32} {μ : zI} {ν : zJ} : e_Station_addUp_165 b 8 v s μ ν = some (μ, zul (zul (zul ν (b + 14) 8 (v + fJ s)) (b + 14) 9 (ν (b + 14) 9 + (if μ (b + 12) 5 = 2 then 1 else 0))) (b + 14) 10 (ν (b + 14) 10 + (if μ (b + 12) 5 = 0 then 1 else 0))) := by
  rw [e_Station_addUp_165, ob_eq S_flag, if_pos (show zin 8 11 = true from by decide), show Int32.toNatClampNeg 8 = 8 by decide, zlet_eq, fI_J, add_195, add_195, zlk (by decide), zlk (by decide)]
  by_cases c : μ (b + 12) 5 = 2
  · rw [if_pos c, if_pos c]; rfl
  · rw [if_neg c, if_neg c]; rfl
theorem C_addUp {b : Nat} {μ : zI} {ν : zJ} : ∃ ν', E_Station_addUp b μ ν = some (μ, ν') ∧ (∀ r, r ≠ b + 14 → ν' r = ν r) ∧ ∀ k, k < 11 → ν' (b + 14) k = ν (b + 14) k + dC b μ k := by
  have e : E_Station_addUp b μ ν = some (μ, zul (zul (zul (zul (zul (zul (zul (zul (zul (zul (zul ν (b + 14) 0 (ν (b + 14) 0 + Int32.toInt64 (μ (b + 11) 6))) (b + 14) 1 (ν (b + 14) 1 + Int32.toInt64 (μ (b + 3) 2))) (b + 14) 2 (ν (b + 14) 2 + Int32.toInt64 (μ (b + 12) 4))) (b + 14) 3 (ν (b + 14) 3 + Int32.toInt64 (μ (b + 13) 4))) (b + 14) 4 (ν (b + 14) 4 + Int32.toInt64 (μ b 1))) (b + 14) 5 (ν (b + 14) 5 + Int32.toInt64 (μ (b + 12) 3))) (b + 14) 6 (ν (b + 14) 6 + fJ (μ (b + 13) 7))) (b + 14) 7 (ν (b + 14) 7 + fJ (μ (b + 11) 9))) (b + 14) 8 (ν (b + 14) 8 + (if μ (b + 12) 5 = 1 then 1 else 0))) (b + 14) 9 (ν (b + 14) 9 + (if μ (b + 12) 5 = 2 then 1 else 0))) (b + 14) 10 (ν (b + 14) 10 + (if μ (b + 12) 5 = 0 then 1 else 0))) := by
    rw [E_Station_addUp, e_Station_addUp_0]
    simp only [zlet_eq, S_flag, Option.bind_some, fI_J, add_165]
    simp (disch := omega) only [zlk]
    by_cases c : μ (b + 12) 5 = 1
    · rw [if_pos c, if_pos c]; rfl
    · rw [if_neg c, if_neg c]; rfl
  refine ⟨_, e, fun r h => ?_, fun k hk => ?_⟩
  · simp (disch := omega) only [zlr]
  · have hk' : k = 0 ∨ k = 1 ∨ k = 2 ∨ k = 3 ∨ k = 4 ∨ k = 5 ∨ k = 6 ∨ k = 7 ∨ k = 8 ∨ k = 9 ∨ k = 10 := by omega
    rcases hk' with rfl | rfl | rfl | rfl | rfl | rfl | rfl | rfl | rfl | rfl | rfl
    all_goals
      simp (disch := omega) only [zlk, zlh]
      rfl
/-- what the reference adds in each of its parts -/
theorem btN_k {q : Nat} {τ : zJ} {N : Int32} {D : Int64} (h4 : N = -1 ∨ N = 0 ∨ N = 1 ∨ N = 2) : (∀ r, r ≠ q + 9 → btN q (zul τ (q + 9) 5 (τ (q + 9) 5 + D)) N r = τ r) ∧ ∀ k, btN q (zul τ (q + 9) 5 (τ (q + 9) 5 + D)) N (q + 9) k = τ (q + 9) k + (if k = 5 then D else if k = 8 then (if N = 1 then 1 else 0) else if k = 9 then (if N = 2 then 1 else 0) else if k = 10 then (if N = 0 then 1 else 0) else 0) := by
  have z : ∀ k, zul τ (q + 9) 5 (τ (q + 9) 5 + D) (q + 9) k = τ (q + 9) k + if k = 5 then D else 0 := by
    intro k
    by_cases e : k = 5
    · rw [if_pos e, e, zlh]
    · rw [if_neg e, zlk e, Int64.add_zero]
  have zr : ∀ r, r ≠ q + 9 → zul τ (q + 9) 5 (τ (q + 9) 5 + D) r = τ r := fun r h => zlr h
  generalize zul τ (q + 9) 5 (τ (q + 9) 5 + D) = σ at z zr
  unfold btN
  rcases h4 with rfl | rfl | rfl | rfl
  · rw [if_neg (by decide), if_neg (by decide), if_neg (by decide)]
    refine ⟨zr, fun k => ?_⟩
    rw [z k]
    congr 1
    simp only [nm1, nm2, nm0, if_false, ite_self]
  · rw [if_neg (by decide), if_neg (by decide), if_pos rfl]
    refine ⟨fun r h => (zlr h).trans (zr r h), fun k => ?_⟩
    by_cases e : k = 10
    · rw [e, zlh, z 10, if_neg (by decide), if_neg (by decide), if_neg (by decide), if_neg (by decide), if_pos rfl, if_pos rfl, Int64.add_zero]
    · rw [zlk e, z k]
      congr 1
      simp only [n01, n02, if_false, ite_self, e]
  · rw [if_pos rfl]
    refine ⟨fun r h => (zlr h).trans (zr r h), fun k => ?_⟩
    by_cases e : k = 8
    · rw [e, zlh, z 8, if_neg (by decide), if_neg (by decide), if_pos rfl, if_pos rfl, Int64.add_zero]
    · rw [zlk e, z k]
      congr 1
      simp only [n12, n10, if_false, ite_self, e]
  · rw [if_neg (by decide), if_pos rfl]
    refine ⟨fun r h => (zlr h).trans (zr r h), fun k => ?_⟩
    by_cases e : k = 9
    · rw [e, zlh, z 9, if_neg (by decide), if_neg (by decide), if_neg (by decide), if_pos rfl, if_pos rfl, Int64.add_zero]
    · rw [zlk e, z k]
      congr 1
      simp only [n21, n20, if_false, ite_self, e]
theorem RF.fr {b q : Nat} {μ μ' κ κ' : zI} (h : RF b q μ κ) (e : μ' (b + 11) = μ (b + 11)) (ek : ∀ k, (26 ≤ k ∧ k ≤ 32) ∨ (43 ≤ k ∧ k ≤ 45) → κ' (q + 7) k = κ (q + 7) k) : RF b q μ' κ' := by
  unfold RF RG RN
  rw [e, ek 26 (by omega), ek 27 (by omega), ek 28 (by omega), ek 29 (by omega), ek 30 (by omega), ek 31 (by omega), ek 32 (by omega), ek 43 (by omega), ek 44 (by omega), ek 45 (by omega)]
  exact h
theorem RB.fr {b q : Nat} {μ μ' κ κ' : zI} (h : RB b q μ κ) (e : μ' (b + 12) = μ (b + 12)) (ek : ∀ k, k = 0 ∨ (33 ≤ k ∧ k ≤ 35) → κ' (q + 7) k = κ (q + 7) k) : RB b q μ' κ' := by
  unfold RB
  rw [e, ek 33 (by omega), ek 34 (by omega), ek 35 (by omega), ek 0 (by omega)]
  exact h
