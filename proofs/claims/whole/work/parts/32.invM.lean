/-! The reference's inverter. -/
theorem M_inv_off {q : Nat} {κ : zI} {τ : zJ} {S : Int32} (ho : ¬ κ (q + 7) 36 = 1) (hS : S = if κ (q + 7) 37 = 1 then κ (q + 7) 42 + 1 else 0) : ∃ κ', E_M_inverts q κ τ = some (κ', τ) ∧ (∀ r, r ≠ q + 7 → κ' r = κ r) ∧ (∀ k, k ≠ 36 → k ≠ 39 → k ≠ 40 → k ≠ 41 → k ≠ 42 → κ' (q + 7) k = κ (q + 7) k) ∧ κ' (q + 7) 40 = 0 ∧ κ' (q + 7) 42 = S ∧ (S < κ (q + 7) 10 → κ' (q + 7) 36 = κ (q + 7) 36 ∧ κ' (q + 7) 39 = κ (q + 7) 39 ∧ κ' (q + 7) 41 = κ (q + 7) 41) ∧ (¬ S < κ (q + 7) 10 → κ' (q + 7) 36 = 1 ∧ κ' (q + 7) 39 = 50000 ∧ κ' (q + 7) 41 = 0) := by
  have e0 : ∀ k, k ≠ 40 → zu κ (q + 7) 40 0 (q + 7) k = κ (q + 7) k := fun k a => by rw [zu_eq, if_neg (fun e => a e.2)]
  have e1 : ∀ k, k ≠ 42 → zu (zu κ (q + 7) 40 0) (q + 7) 42 S (q + 7) k = zu κ (q + 7) 40 0 (q + 7) k := fun k a => by rw [zu_eq, if_neg (fun e => a e.2)]
  have e42 : zu (zu κ (q + 7) 40 0) (q + 7) 42 S (q + 7) 42 = S := by rw [zu_eq, if_pos ⟨rfl, rfl⟩]
  have e40 : zu κ (q + 7) 40 0 (q + 7) 40 = 0 := by rw [zu_eq, if_pos ⟨rfl, rfl⟩]
  have key : E_M_inverts q κ τ = e_M_inverts_246 q (κ (q + 7) 40) 0 42 S (zu κ (q + 7) 40 0) τ := by
    rw [E_M_inverts, e_M_inverts_0, zlet_eq, if_neg ho, e_M_inverts_24, zlet_eq, if_pos rfl, e0 37 (by decide), e0 42 (by decide), hS]
    by_cases c : κ (q + 7) 37 = 1
    · rw [if_pos c, if_pos c]
    · rw [if_neg c, if_neg c]
  rw [key, e_M_inverts_246, if_pos (show zin 42 146 = true from by decide), show Int32.toNatClampNeg 42 = 42 by decide, zlet_eq, e42, e1 10 (by decide), e0 10 (by decide)]
  by_cases c : S < κ (q + 7) 10
  · rw [if_neg (Int32.not_le.mpr c)]
    refine ⟨zu (zu κ (q + 7) 40 0) (q + 7) 42 S, rfl, fun r a => ?_, fun k a b d e g => ?_, ?_, e42, fun _ => ⟨?_, ?_, ?_⟩, fun g => absurd c g⟩
    · rw [zu_off _ _ _ _ a, zu_off _ _ _ _ a]
    · rw [e1 k g, e0 k d]
    · rw [e1 40 (by decide), e40]
    all_goals rw [e1 _ (by decide), e0 _ (by decide)]
  · rw [if_pos (Int32.not_lt.mp c), zlet_eq, zlet_eq, zlet_eq]
    refine ⟨zu (zu (zu (zu (zu κ (q + 7) 40 0) (q + 7) 42 S) (q + 7) 36 1) (q + 7) 39 50000) (q + 7) 41 0, rfl, fun r a => ?_, fun k a b d e g => ?_, ?_, ?_, fun g => absurd g c, fun _ => ⟨?_, ?_, ?_⟩⟩
    · rw [zu_off _ _ _ _ a, zu_off _ _ _ _ a, zu_off _ _ _ _ a, zu_off _ _ _ _ a, zu_off _ _ _ _ a]
    · rw [zu_eq, if_neg (fun z => e z.2), zu_eq, if_neg (fun z => b z.2), zu_eq, if_neg (fun z => a z.2), e1 k g, e0 k d]
    · rw [zu_eq, if_neg (by omega), zu_eq, if_neg (by omega), zu_eq, if_neg (by omega), e1 40 (by decide), e40]
    · rw [zu_eq, if_neg (by omega), zu_eq, if_neg (by omega), zu_eq, if_neg (by omega), e42]
    · rw [zu_eq, if_neg (by omega), zu_eq, if_neg (by omega), zu_eq, if_pos ⟨rfl, rfl⟩]
    · rw [zu_eq, if_neg (by omega), zu_eq, if_pos ⟨rfl, rfl⟩]
    · rw [zu_eq, if_pos ⟨rfl, rfl⟩]
theorem M_inv_on {q : Nat} {κ : zI} {τ : zJ} {R S : Int32} (ho : κ (q + 7) 36 = 1) (hR : R = if κ (q + 7) 37 = 1 then 50000 else drI (κ (q + 7) 39) (κ (q + 7) 38) (κ (q + 7) 9)) (hS : S = if (if κ (q + 7) 7 < R - 50000 then (1 : Int32) else if 50000 - R ≤ κ (q + 7) 7 then 0 else 1) = 0 then 0 else κ (q + 7) 41 + 1) : ∃ κ' τ', E_M_inverts q κ τ = some (κ', τ') ∧ (∀ r, r ≠ q + 7 → κ' r = κ r) ∧ (∀ k, k ≠ 36 → k ≠ 39 → k ≠ 40 → k ≠ 41 → k ≠ 42 → κ' (q + 7) k = κ (q + 7) k) ∧ κ' (q + 7) 39 = R ∧ (S < κ (q + 7) 8 → τ' = τ ∧ κ' (q + 7) 36 = 1 ∧ κ' (q + 7) 40 = (if κ (q + 7) 40 + κ (q + 7) 11 ≤ κ q 30 - κ q 32 then κ (q + 7) 40 + κ (q + 7) 11 else κ q 30 - κ q 32) ∧ κ' (q + 7) 41 = S ∧ κ' (q + 7) 42 = κ (q + 7) 42) ∧ (¬ S < κ (q + 7) 8 → τ' = zul τ (q + 9) 6 (τ (q + 9) 6 + 1) ∧ κ' (q + 7) 36 = 0 ∧ κ' (q + 7) 40 = 0 ∧ κ' (q + 7) 41 = 0 ∧ κ' (q + 7) 42 = 0) := by
  have e0 : ∀ k, k ≠ 40 → zu κ (q + 7) 40 0 (q + 7) k = κ (q + 7) k := fun k a => by rw [zu_eq, if_neg (fun e => a e.2)]
  have e40 : zu κ (q + 7) 40 0 (q + 7) 40 = 0 := by rw [zu_eq, if_pos ⟨rfl, rfl⟩]
  have key : E_M_inverts q κ τ = e_M_inverts_84 q (κ (q + 7) 40) 1 39 R (zu κ (q + 7) 40 0) τ := by
    rw [E_M_inverts, e_M_inverts_0, zlet_eq, if_pos ho, e_M_inverts_24, zlet_eq, if_neg one_ne_0, e0 37 (by decide), hR]
    by_cases c : κ (q + 7) 37 = 1
    · rw [if_pos c, if_pos c]
    · rw [if_neg c, if_neg c, ob_eq M_drifts, e0 39 (by decide), e0 38 (by decide), e0 9 (by decide)]
  generalize hA : zu (zu κ (q + 7) 40 0) (q + 7) 39 R = A
  have a1 : ∀ k, k ≠ 39 → k ≠ 40 → A (q + 7) k = κ (q + 7) k := fun k a d => by rw [← hA, zu_eq, if_neg (fun e => a e.2), e0 k d]
  have a39 : A (q + 7) 39 = R := by rw [← hA, zu_eq, if_pos ⟨rfl, rfl⟩]
  have a40 : A (q + 7) 40 = 0 := by rw [← hA, zu_eq, if_neg (by omega), e40]
  have ar : ∀ r, r ≠ q + 7 → A r = κ r := fun r a => by rw [← hA, zu_off _ _ _ _ a, zu_off _ _ _ _ a]
  have key2 : E_M_inverts q κ τ = e_M_inverts_118 q (κ (q + 7) 40) 1 41 S A τ := by
    rw [key, e_M_inverts_84, if_pos (show zin 39 146 = true from by decide), show Int32.toNatClampNeg 39 = 39 by decide, zlet_eq, hA, a39, ob_eq M_isFar_eq, a1 7 (by decide) (by decide), hS]
    by_cases c : (if κ (q + 7) 7 < R - 50000 then (1 : Int32) else if 50000 - R ≤ κ (q + 7) 7 then 0 else 1) = 0
    · rw [if_pos c, if_pos c]
    · rw [if_neg c, if_neg c]
      show e_M_inverts_118 q _ 1 41 (A (q + 7) 41 + 1) A τ = _
      rw [a1 41 (by decide) (by decide)]
  have b1 : ∀ k, k ≠ 41 → zu A (q + 7) 41 S (q + 7) k = A (q + 7) k := fun k a => by rw [zu_eq, if_neg (fun e => a e.2)]
  have b41 : zu A (q + 7) 41 S (q + 7) 41 = S := by rw [zu_eq, if_pos ⟨rfl, rfl⟩]
  have bq : ∀ k, zu A (q + 7) 41 S q k = κ q k := fun k => by rw [zu_off _ _ _ _ (show q ≠ q + 7 by omega), ar q (by omega)]
  rw [key2, e_M_inverts_118, if_pos (show zin 41 146 = true from by decide), show Int32.toNatClampNeg 41 = 41 by decide, zlet_eq, b41, b1 8 (by decide), a1 8 (by decide) (by decide)]
  by_cases c : S < κ (q + 7) 8
  · have fin : ∀ v x4, e_M_inverts_214 q (κ (q + 7) 40) 1 x4 40 v (zu A (q + 7) 41 S) τ = some (zu (zu A (q + 7) 41 S) (q + 7) 40 v, τ) := fun v x4 => by
      rw [e_M_inverts_214, if_pos (show zin 40 146 = true from by decide), show Int32.toNatClampNeg 40 = 40 by decide, zlet_eq]
    rw [if_pos c, zlet_eq, bq, bq, b1 11 (by decide), a1 11 (by decide) (by decide), fin, fin]
    refine ⟨zu (zu A (q + 7) 41 S) (q + 7) 40 (if κ (q + 7) 40 + κ (q + 7) 11 ≤ κ q 30 - κ q 32 then κ (q + 7) 40 + κ (q + 7) 11 else κ q 30 - κ q 32), τ, ?_, fun r a => ?_, fun k a b d e g => ?_, ?_, fun _ => ⟨rfl, ?_, ?_, ?_, ?_⟩, fun g => absurd c g⟩
    · split <;> rfl
    · rw [zu_off _ _ _ _ a, zu_off _ _ _ _ a, ar r a]
    · rw [zu_eq, if_neg (fun z => d z.2), b1 k e, a1 k b d]
    · rw [zu_eq, if_neg (by omega), b1 39 (by decide), a39]
    · rw [zu_eq, if_neg (by omega), b1 36 (by decide), a1 36 (by decide) (by decide), ho]
    · rw [zu_eq, if_pos ⟨rfl, rfl⟩]
    · rw [zu_eq, if_neg (by omega), b41]
    · rw [zu_eq, if_neg (by omega), b1 42 (by decide), a1 42 (by decide) (by decide)]
  · rw [if_neg c, zlet_eq, zlet_eq, zlet_eq, zlet_eq]
    refine ⟨zu (zu (zu (zu A (q + 7) 41 S) (q + 7) 36 0) (q + 7) 42 0) (q + 7) 41 0, zul τ (q + 9) 6 (τ (q + 9) 6 + 1), rfl, fun r a => ?_, fun k a b d e g => ?_, ?_, fun g => absurd g c, fun _ => ⟨rfl, ?_, ?_, ?_, ?_⟩⟩
    · rw [zu_off _ _ _ _ a, zu_off _ _ _ _ a, zu_off _ _ _ _ a, zu_off _ _ _ _ a, ar r a]
    · rw [zu_eq, if_neg (fun z => e z.2), zu_eq, if_neg (fun z => g z.2), zu_eq, if_neg (fun z => a z.2), b1 k e, a1 k b d]
    · rw [zu_eq, if_neg (by omega), zu_eq, if_neg (by omega), zu_eq, if_neg (by omega), b1 39 (by decide), a39]
    · rw [zu_eq, if_neg (by omega), zu_eq, if_neg (by omega), zu_eq, if_pos ⟨rfl, rfl⟩]
    · rw [zu_eq, if_neg (by omega), zu_eq, if_neg (by omega), zu_eq, if_neg (by omega), b1 40 (by decide), a40]
    · rw [zu_eq, if_pos ⟨rfl, rfl⟩]
    · rw [zu_eq, if_neg (by omega), zu_eq, if_pos ⟨rfl, rfl⟩]
