/-! The reference's inverter. -/
theorem M_inv_off {q : Nat} {κ : zI} {τ : zJ} {S : Int32} (ho : ¬ κ (q + 7) 36 = 1) (hS : S = if κ (q + 7) 37 = 1 then κ (q + 7) 42 + 1 else 0) : ∃ κ', E_M_inverts q κ τ = some (κ', τ) ∧ (∀ r, r ≠ q + 7 → κ' r = κ r) ∧ (∀ k, k ≠ 36 → k ≠ 39 → k ≠ 40 → k ≠ 41 → k ≠ 42 → κ' (q + 7) k = κ (q + 7) k) ∧ κ' (q + 7) 40 = 0 ∧ κ' (q + 7) 42 = S ∧ (S < κ (q + 7) 10 → κ' (q + 7) 36 = κ (q + 7) 36 ∧ κ' (q + 7) 39 = κ (q + 7) 39 ∧ κ' (q + 7) 41 = κ (q + 7) 41) ∧ (¬ S < κ (q + 7) 10 → κ' (q + 7) 36 = 1 ∧ κ' (q + 7) 39 = 50000 ∧ κ' (q + 7) 41 = 0) := by
  have e0 : ∀ k, k ≠ 40 → zu κ (q + 7) 40 0 (q + 7) k = κ (q + 7) k := fun k a => by rw [zu_eq, if_neg (fun e => a e.2)]
  have e1 : ∀ k, k ≠ 42 → zu (zu κ (q + 7) 40 0) (q + 7) 42 S (q + 7) k = zu κ (q + 7) 40 0 (q + 7) k := fun k a => by rw [zu_eq, if_neg (fun e => a e.2)]
  have e42 : zu (zu κ (q + 7) 40 0) (q + 7) 42 S (q + 7) 42 = S := by rw [zu_eq, if_pos ⟨rfl, rfl⟩]
  have e40 : zu κ (q + 7) 40 0 (q + 7) 40 = 0 := by rw [zu_eq, if_pos ⟨rfl, rfl⟩]
  have key : E_M_inverts q κ τ = e_M_inverts_246 q (κ (q + 7) 40) 0 42 S (zu κ (q + 7) 40 0) τ := by
    rw [E_M_inverts, e_M_inverts_0, zlet_eq, if_neg ho, e_M_inverts_24, zlet_eq, if_pos rfl, e0 37 (by decide), e0 42 (by decide), hS]
    by_cases c : κ (q + 7) 37 = 1
    · rw [if_pos c, if_pos c]
    · rw [if_neg c, if_neg c]
  rw [key, e_M_inverts_246, if_pos (show zin 42 146 = true from by decide), show Int32.toNatClampNeg 42 = 42 by decide, zlet_eq, e42, e1 10 (by decide), e0 10 (by decide)]
  by_cases c : S < κ (q + 7) 10
  · rw [if_neg (Int32.not_le.mpr c)]
    refine ⟨zu (zu κ (q + 7) 40 0) (q + 7) 42 S, rfl, fun r a => ?_, fun k a b d e g => ?_, ?_, e42, fun _ => ⟨?_, ?_, ?_⟩, fun g => absurd c g⟩
    · rw [zu_off _ _ _ _ a, zu_off _ _ _ _ a]
    · rw [e1 k g, e0 k d]
    · rw [e1 40 (by decide), e40]
    all_goals rw [e1 _ (by decide), e0 _ (by decide)]
  · rw [if_pos (Int32.not_lt.mp c), zlet_eq, zlet_eq, zlet_eq]
    refine ⟨zu (zu (zu (zu (zu κ (q + 7) 40 0) (q + 7) 42 S) (q + 7) 36 1) (q + 7) 39 50000) (q + 7) 41 0, rfl, fun r a => ?_, fun k a b d e g => ?_, ?_, ?_, fun g => absurd g c, fun _ => ⟨?_, ?_, ?_⟩⟩
    · rw [zu_off _ _ _ _ a, zu_off _ _ _ _ a, zu_off _ _ _ _ a, zu_off _ _ _ _ a, zu_off _ _ _ _ a]
    · rw [zu_eq, if_neg (fun z => e z.2), zu_eq, if_neg (fun z => b z.2), zu_eq, if_neg (fun z => a z.2), e1 k g, e0 k d]
    · rw [zu_eq, if_neg (by omega), zu_eq, if_neg (by omega), zu_eq, if_neg (by omega), e1 40 (by decide), e40]
    · rw [zu_eq, if_neg (by omega), zu_eq, if_neg (by omega), zu_eq, if_neg (by omega), e42]
    · rw [zu_eq, if_neg (by omega), zu_eq, if_neg (by omega), zu_eq, if_pos ⟨rfl, rfl⟩]
    · rw [zu_eq, if_neg (by omega), zu_eq, if_pos ⟨rfl, rfl⟩]
    · rw [zu_eq, if_pos ⟨rfl, rfl⟩]
