/-! What was told; the inverter. -/
theorem Tg {b : Nat} {μ : zI} {ν : zJ} {k : Nat} (h : k < 19) : E_Told_get b (nI k) μ ν = some (μ (b + 2) k, μ, ν) := by
  rw [E_Told_get, e_Told_get_0, if_neg (nI_pos (by omega)), if_neg (lge (c := 19) (k := k) 19 rfl h (by decide)), if_pos (zin_nI h (by decide)), nI_clamp (by omega), e_Told_get_20]
def drI (x0 x1 x2 : Int32) : Int32 := if x0 + (x1 - x0) / 8 < 50000 then x0 + (x1 - x0) / 8 - x2 else x0 + (x1 - x0) / 8 + x2
theorem C_pushed {x0 x1 x2 : Int32} {μ : zI} {ν : zJ} : E_Inverter_pushed x0 x1 x2 μ ν = some (drI x0 x1 x2, μ, ν) := by
  rw [E_Inverter_pushed, e_Inverter_pushed_0, zlet_eq, drI]
  split <;> rw [e_Inverter_pushed_24]
theorem M_drifts {q : Nat} {x0 x1 x2 : Int32} {μ : zI} {ν : zJ} : E_M_drifts q x0 x1 x2 μ ν = some (drI x0 x1 x2, μ, ν) := by
  rw [E_M_drifts, e_M_drifts_0, zlet_eq, drI]
  split <;> rw [e_M_drifts_28]
theorem M_isFar_eq {q : Nat} {x : Int32} {κ : zI} {τ : zJ} : E_M_isFar q x κ τ = some (if κ (q + 7) 7 < x - 50000 then 1 else if 50000 - x ≤ κ (q + 7) 7 then 0 else 1, κ, τ) := by
  rw [E_M_isFar, e_M_isFar_0]
  by_cases c : κ (q + 7) 7 < x - 50000
  · rw [if_pos c, if_pos c, e_M_isFar_28, e_M_isFar_33, if_pos (show zb 1 = true from rfl)]
  · rw [if_neg c, if_neg c]
    by_cases d : 50000 - x ≤ κ (q + 7) 7
    · rw [if_pos d, if_pos d, e_M_isFar_33, if_pos (show zb 0 = true from rfl)]
    · rw [if_neg d, if_neg d, e_M_isFar_28, e_M_isFar_33, if_pos (show zb 1 = true from rfl)]
theorem C_isFar_eq {b : Nat} {x : Int32} {μ : zI} {ν : zJ} : E_Inverter_isFar b x μ ν = some (if zAbs (x - 50000) ≤ μ (b + 2) 7 then 0 else 1, μ, ν) := by
  rw [E_Inverter_isFar, e_Inverter_isFar_0, show (7 : Int32) = nI 7 from rfl, ob_eq (Tg (by omega))]
  by_cases c : zAbs (x - 50000) ≤ μ (b + 2) 7
  · rw [if_pos c, if_pos c, e_Inverter_isFar_21, if_pos (show zb 0 = true from rfl)]
  · rw [if_neg c, if_neg c, e_Inverter_isFar_21, if_pos (show zb 1 = true from rfl)]
theorem far_eq {x w : Int32} (h1 : -1000000 ≤ x.toInt) (h2 : x.toInt ≤ 1000000) : (if zAbs (x - 50000) ≤ w then (0 : Int32) else 1) = if w < x - 50000 then 1 else if 50000 - x ≤ w then 0 else 1 := by
  have h5 : (50000 : Int32).toInt = 50000 := rfl
  have h0 : (0 : Int32).toInt = 0 := rfl
  have e1 : (x - 50000).toInt = x.toInt - 50000 := by rw [isb (by rw [h5]; omega) (by rw [h5]; omega), h5]
  have e2 : (50000 - x).toInt = 50000 - x.toInt := by rw [isb (by rw [h5]; omega) (by rw [h5]; omega), h5]
  unfold zAbs
  by_cases c : 0 ≤ x - 50000
  · rw [if_pos c]
    have c' := ile.mp c
    rw [e1, h0] at c'
    by_cases d : x - 50000 ≤ w
    · have d' := ile.mp d
      rw [e1] at d'
      rw [if_pos d, if_neg (Int32.not_lt.mpr d), if_pos (ile.mpr (by rw [e2]; omega))]
    · rw [if_neg d, if_pos (Int32.not_le.mp d)]
  · rw [if_neg c]
    have c' : ¬ 0 ≤ x.toInt - 50000 := fun g => c (ile.mpr (by rw [e1, h0]; exact g))
    have e3 : 0 - (x - 50000) = 50000 - x := Int32.toInt_inj.mp (by rw [isb (by rw [e1, h0]; omega) (by rw [e1, h0]; omega), e1, e2, h0]; omega)
    rw [e3]
    by_cases d : 50000 - x ≤ w
    · have d' := ile.mp d
      rw [e2] at d'
      rw [if_pos d, if_neg (fun g => by have g' := ilt.mp g; rw [e1] at g'; omega)]
    · rw [if_neg d]
      split <;> rfl
theorem C_drive_56 {b : Nat} {μ : zI} {ν : zJ} {s : Int32} : ∃ μ', e_Inverter_drive_56 b s μ ν = some (μ', ν) ∧ (∀ r, r ≠ b + 13 → μ' r = μ r) ∧ (∀ k, k ≠ 0 → k ≠ 5 → k ≠ 6 → k ≠ 7 → μ' (b + 13) k = μ (b + 13) k) ∧ (s < μ (b + 2) 8 → μ' (b + 13) 0 = μ (b + 13) 0 ∧ μ' (b + 13) 5 = s ∧ μ' (b + 13) 6 = μ (b + 13) 6 ∧ μ' (b + 13) 7 = μ (b + 13) 7) ∧ (¬ s < μ (b + 2) 8 → μ' (b + 13) 0 = 0 ∧ μ' (b + 13) 5 = 0 ∧ μ' (b + 13) 6 = 0 ∧ μ' (b + 13) 7 = 1) := by
  have e5 : zu μ (b + 13) 5 s (b + 13) 5 = s := by rw [zu_eq, if_pos ⟨rfl, rfl⟩]
  have e8 : zu μ (b + 13) 5 s (b + 2) 8 = μ (b + 2) 8 := by rw [zu_eq, if_neg (by omega)]
  rw [e_Inverter_drive_56, zlet_eq, show (8 : Int32) = nI 8 from rfl, ob_eq (Tg (by omega))]
  by_cases c : s < μ (b + 2) 8
  · rw [if_pos (show zu μ (b + 13) 5 s (b + 13) 5 < zu μ (b + 13) 5 s (b + 2) 8 by rw [e5, e8]; exact c), e_Inverter_drive_92]
    refine ⟨zu μ (b + 13) 5 s, rfl, fun r a => zu_off _ _ _ _ a, fun k _ a _ _ => by rw [zu_eq, if_neg (fun e => a e.2)], fun _ => ⟨?_, e5, ?_, ?_⟩, fun g => absurd c g⟩
    all_goals rw [zu_eq, if_neg (by omega)]
  · rw [if_neg (show ¬ zu μ (b + 13) 5 s (b + 13) 5 < zu μ (b + 13) 5 s (b + 2) 8 by rw [e5, e8]; exact c), zlet_eq, zlet_eq, zlet_eq, zlet_eq, e_Inverter_drive_92]
    refine ⟨_, rfl, fun r a => ?_, fun k a0 a5 a6 a7 => ?_, fun g => absurd g c, fun _ => ⟨?_, ?_, ?_, ?_⟩⟩
    · rw [zu_off _ _ _ _ a, zu_off _ _ _ _ a, zu_off _ _ _ _ a, zu_off _ _ _ _ a]
      exact zu_off _ _ _ _ a
    · rw [zu_eq, if_neg (fun e => a5 e.2), zu_eq, if_neg (fun e => a6 e.2), zu_eq, if_neg (fun e => a0 e.2), zu_eq, if_neg (fun e => a7 e.2)]
      show zu μ (b + 13) 5 s (b + 13) k = _
      rw [zu_eq, if_neg (fun e => a5 e.2)]
    · rw [zu_eq, if_neg (by omega), zu_eq, if_neg (by omega), zu_eq, if_pos ⟨rfl, rfl⟩]
    · rw [zu_eq, if_pos ⟨rfl, rfl⟩]
    · rw [zu_eq, if_neg (by omega), zu_eq, if_pos ⟨rfl, rfl⟩]
    · rw [zu_eq, if_neg (by omega), zu_eq, if_neg (by omega), zu_eq, if_neg (by omega), zu_eq, if_pos ⟨rfl, rfl⟩]
theorem C_drive_31 {b : Nat} {μ : zI} {ν : zJ} {R S : Int32} (hS : S = if zAbs (R - 50000) ≤ μ (b + 2) 7 then 0 else μ (b + 13) 5 + 1) : ∃ μ', e_Inverter_drive_31 b R μ ν = some (μ', ν) ∧ (∀ r, r ≠ b + 13 → μ' r = μ r) ∧ (∀ k, k ≠ 0 → k ≠ 3 → k ≠ 5 → k ≠ 6 → k ≠ 7 → μ' (b + 13) k = μ (b + 13) k) ∧ μ' (b + 13) 3 = R ∧ (S < μ (b + 2) 8 → μ' (b + 13) 0 = μ (b + 13) 0 ∧ μ' (b + 13) 5 = S ∧ μ' (b + 13) 6 = μ (b + 13) 6 ∧ μ' (b + 13) 7 = μ (b + 13) 7) ∧ (¬ S < μ (b + 2) 8 → μ' (b + 13) 0 = 0 ∧ μ' (b + 13) 5 = 0 ∧ μ' (b + 13) 6 = 0 ∧ μ' (b + 13) 7 = 1) := by
  have e3 : zu μ (b + 13) 3 R (b + 13) 3 = R := by rw [zu_eq, if_pos ⟨rfl, rfl⟩]
  have e2 : ∀ k, zu μ (b + 13) 3 R (b + 2) k = μ (b + 2) k := fun k => by rw [zu_eq, if_neg (by omega)]
  have eo : ∀ k, k ≠ 3 → zu μ (b + 13) 3 R (b + 13) k = μ (b + 13) k := fun k a => by rw [zu_eq, if_neg (fun e => a e.2)]
  have key : e_Inverter_drive_31 b R μ ν = e_Inverter_drive_56 b S (zu μ (b + 13) 3 R) ν := by
    rw [e_Inverter_drive_31, zlet_eq, e3, ob_eq C_isFar_eq, e2, hS]
    by_cases c : zAbs (R - 50000) ≤ μ (b + 2) 7
    · rw [if_pos c, if_pos c, if_pos rfl]
    · rw [if_neg c, if_neg c, if_neg one_ne_0]
      show e_Inverter_drive_56 b (zu μ (b + 13) 3 R (b + 13) 5 + 1) _ _ = _
      rw [eo 5 (by decide)]
  obtain ⟨μ', f1, f2, f3, f4, f5⟩ := C_drive_56 (b := b) (μ := zu μ (b + 13) 3 R) (ν := ν) (s := S)
  rw [e2, eo 0 (by decide), eo 6 (by decide), eo 7 (by decide)] at f4
  rw [e2] at f5
  refine ⟨μ', key.trans f1, fun r a => (f2 r a).trans (zu_off _ _ _ _ a), fun k a0 a3 a5 a6 a7 => (f3 k a0 a5 a6 a7).trans (eo k a3), (f3 3 (by decide) (by decide) (by decide) (by decide)).trans e3, f4, f5⟩
theorem C_drive {b : Nat} {μ : zI} {ν : zJ} {R S : Int32} (hR : R = if μ (b + 13) 1 = 1 then 50000 else drI (μ (b + 13) 3) (μ (b + 13) 2) (μ (b + 2) 9)) (hS : S = if zAbs (R - 50000) ≤ μ (b + 2) 7 then 0 else μ (b + 13) 5 + 1) : ∃ μ', E_Inverter_drive b μ ν = some (μ', ν) ∧ (∀ r, r ≠ b + 13 → μ' r = μ r) ∧ (∀ k, k ≠ 0 → k ≠ 3 → k ≠ 5 → k ≠ 6 → k ≠ 7 → μ' (b + 13) k = μ (b + 13) k) ∧ μ' (b + 13) 3 = R ∧ (S < μ (b + 2) 8 → μ' (b + 13) 0 = μ (b + 13) 0 ∧ μ' (b + 13) 5 = S ∧ μ' (b + 13) 6 = μ (b + 13) 6 ∧ μ' (b + 13) 7 = μ (b + 13) 7) ∧ (¬ S < μ (b + 2) 8 → μ' (b + 13) 0 = 0 ∧ μ' (b + 13) 5 = 0 ∧ μ' (b + 13) 6 = 0 ∧ μ' (b + 13) 7 = 1) := by
  have key : E_Inverter_drive b μ ν = e_Inverter_drive_31 b R μ ν := by
    rw [E_Inverter_drive, e_Inverter_drive_0, hR]
    by_cases c : μ (b + 13) 1 = 1
    · rw [if_pos c, if_pos c]
    · rw [if_neg c, if_neg c, show (9 : Int32) = nI 9 from rfl, ob_eq (Tg (by omega)), ob_eq C_pushed]
  rw [key]
  exact C_drive_31 hS
theorem C_rest {b : Nat} {μ : zI} {ν : zJ} {S : Int32} (hS : S = if μ (b + 13) 1 = 1 then μ (b + 13) 6 + 1 else 0) : ∃ μ', E_Inverter_rest b μ ν = some (μ', ν) ∧ (∀ r, r ≠ b + 13 → μ' r = μ r) ∧ (∀ k, k ≠ 0 → k ≠ 3 → k ≠ 5 → k ≠ 6 → μ' (b + 13) k = μ (b + 13) k) ∧ μ' (b + 13) 6 = S ∧ (S < μ (b + 2) 10 → μ' (b + 13) 0 = μ (b + 13) 0 ∧ μ' (b + 13) 3 = μ (b + 13) 3 ∧ μ' (b + 13) 5 = μ (b + 13) 5) ∧ (¬ S < μ (b + 2) 10 → μ' (b + 13) 0 = 1 ∧ μ' (b + 13) 3 = 50000 ∧ μ' (b + 13) 5 = 0) := by
  have e6 : zu μ (b + 13) 6 S (b + 13) 6 = S := by rw [zu_eq, if_pos ⟨rfl, rfl⟩]
  have e2 : ∀ k, zu μ (b + 13) 6 S (b + 2) k = μ (b + 2) k := fun k => by rw [zu_eq, if_neg (by omega)]
  have eo : ∀ k, k ≠ 6 → zu μ (b + 13) 6 S (b + 13) k = μ (b + 13) k := fun k a => by rw [zu_eq, if_neg (fun e => a e.2)]
  have key : E_Inverter_rest b μ ν = e_Inverter_rest_19 b S μ ν := by
    rw [E_Inverter_rest, e_Inverter_rest_0, hS]
    by_cases c : μ (b + 13) 1 = 1
    · rw [if_pos c, if_pos c]
    · rw [if_neg c, if_neg c]
  rw [key, e_Inverter_rest_19, zlet_eq, show (10 : Int32) = nI 10 from rfl, ob_eq (Tg (by omega))]
  by_cases c : S < μ (b + 2) 10
  · rw [if_pos (show zu μ (b + 13) 6 S (b + 13) 6 < zu μ (b + 13) 6 S (b + 2) 10 by rw [e6, e2]; exact c), e_Inverter_rest_51]
    exact ⟨zu μ (b + 13) 6 S, rfl, fun r a => zu_off _ _ _ _ a, fun k _ _ _ a => eo k a, e6, fun _ => ⟨eo 0 (by decide), eo 3 (by decide), eo 5 (by decide)⟩, fun g => absurd c g⟩
  · rw [if_neg (show ¬ zu μ (b + 13) 6 S (b + 13) 6 < zu μ (b + 13) 6 S (b + 2) 10 by rw [e6, e2]; exact c), zlet_eq, zlet_eq, zlet_eq, e_Inverter_rest_51]
    refine ⟨zu (zu (zu (zu μ (b + 13) 6 S) (b + 13) 0 1) (b + 13) 3 50000) (b + 13) 5 0, rfl, fun r a => ?_, fun k a0 a3 a5 a6 => ?_, ?_, fun g => absurd g c, fun _ => ⟨?_, ?_, ?_⟩⟩
    · rw [zu_off _ _ _ _ a, zu_off _ _ _ _ a, zu_off _ _ _ _ a, zu_off _ _ _ _ a]
    · rw [zu_eq, if_neg (fun e => a5 e.2), zu_eq, if_neg (fun e => a3 e.2), zu_eq, if_neg (fun e => a0 e.2), eo k a6]
    · rw [zu_eq, if_neg (by omega), zu_eq, if_neg (by omega), zu_eq, if_neg (by omega), e6]
    · rw [zu_eq, if_neg (by omega), zu_eq, if_neg (by omega), zu_eq, if_pos ⟨rfl, rfl⟩]
    · rw [zu_eq, if_neg (by omega), zu_eq, if_pos ⟨rfl, rfl⟩]
    · rw [zu_eq, if_pos ⟨rfl, rfl⟩]
theorem C_run_off {b : Nat} {μ : zI} {ν : zJ} {S x : Int32} (ho : μ (b + 13) 0 = 0) (hS : S = if μ (b + 13) 1 = 1 then μ (b + 13) 6 + 1 else 0) : ∃ μ', E_Inverter_run b x μ ν = some (μ', ν) ∧ (∀ r, r ≠ b + 13 → μ' r = μ r) ∧ (∀ k, k ≠ 0 → k ≠ 3 → k ≠ 4 → k ≠ 5 → k ≠ 6 → k ≠ 7 → μ' (b + 13) k = μ (b + 13) k) ∧ μ' (b + 13) 4 = 0 ∧ μ' (b + 13) 6 = S ∧ μ' (b + 13) 7 = 0 ∧ (S < μ (b + 2) 10 → μ' (b + 13) 0 = 0 ∧ μ' (b + 13) 3 = μ (b + 13) 3 ∧ μ' (b + 13) 5 = μ (b + 13) 5) ∧ (¬ S < μ (b + 2) 10 → μ' (b + 13) 0 = 1 ∧ μ' (b + 13) 3 = 50000 ∧ μ' (b + 13) 5 = 0) := by
  have e7 : zu μ (b + 13) 7 0 (b + 13) 7 = 0 := by rw [zu_eq, if_pos ⟨rfl, rfl⟩]
  have e2 : ∀ k, zu μ (b + 13) 7 0 (b + 2) k = μ (b + 2) k := fun k => by rw [zu_eq, if_neg (by omega)]
  have eo : ∀ k, k ≠ 7 → zu μ (b + 13) 7 0 (b + 13) k = μ (b + 13) k := fun k a => by rw [zu_eq, if_neg (fun e => a e.2)]
  obtain ⟨μ', f1, f2, f3, f4, f5, f6⟩ := C_rest (b := b) (μ := zu μ (b + 13) 7 0) (ν := ν) (S := S) (by rw [eo 1 (by decide), eo 6 (by decide)]; exact hS)
  rw [e2, eo 0 (by decide), eo 3 (by decide), eo 5 (by decide), ho] at f5
  rw [e2] at f6
  have ep : ∀ k, k ≠ 4 → zu μ' (b + 13) 4 0 (b + 13) k = μ' (b + 13) k := fun k a => by rw [zu_eq, if_neg (fun e => a e.2)]
  have e4 : zu μ' (b + 13) 4 0 (b + 13) 4 = 0 := by rw [zu_eq, if_pos ⟨rfl, rfl⟩]
  refine ⟨zu μ' (b + 13) 4 0, ?_, fun r a => ?_, fun k a0 a3 a4 a5 a6 a7 => ?_, e4, (ep 6 (by decide)).trans f4, ?_, ?_, ?_⟩
  · rw [E_Inverter_run, e_Inverter_run_0, zlet_eq, if_pos (show zu μ (b + 13) 7 0 (b + 13) 0 = 0 by rw [eo 0 (by decide)]; exact ho), ob_eq f1, zlet_eq, e_Inverter_run_60]
  · rw [zu_off _ _ _ _ a, f2 r a, zu_off _ _ _ _ a]
  · rw [ep k a4, f3 k a0 a3 a5 a6, eo k a7]
  · rw [ep 7 (by decide), f3 7 (by decide) (by decide) (by decide) (by decide), e7]
  · intro g; rw [ep 0 (by decide), ep 3 (by decide), ep 5 (by decide)]; exact f5 g
  · intro g; rw [ep 0 (by decide), ep 3 (by decide), ep 5 (by decide)]; exact f6 g
theorem C_run_on {b : Nat} {μ : zI} {ν : zJ} {R S x : Int32} (ho : ¬ μ (b + 13) 0 = 0) (hR : R = if μ (b + 13) 1 = 1 then 50000 else drI (μ (b + 13) 3) (μ (b + 13) 2) (μ (b + 2) 9)) (hS : S = if zAbs (R - 50000) ≤ μ (b + 2) 7 then 0 else μ (b + 13) 5 + 1) : ∃ μ', E_Inverter_run b x μ ν = some (μ', ν) ∧ (∀ r, r ≠ b + 13 → μ' r = μ r) ∧ (∀ k, k ≠ 0 → k ≠ 3 → k ≠ 4 → k ≠ 5 → k ≠ 6 → k ≠ 7 → μ' (b + 13) k = μ (b + 13) k) ∧ μ' (b + 13) 3 = R ∧ (S < μ (b + 2) 8 → μ' (b + 13) 0 = μ (b + 13) 0 ∧ μ' (b + 13) 4 = zMin x (μ (b + 13) 4 + μ (b + 2) 11) ∧ μ' (b + 13) 5 = S ∧ μ' (b + 13) 6 = μ (b + 13) 6 ∧ μ' (b + 13) 7 = 0) ∧ (¬ S < μ (b + 2) 8 → μ' (b + 13) 0 = 0 ∧ μ' (b + 13) 4 = 0 ∧ μ' (b + 13) 5 = 0 ∧ μ' (b + 13) 6 = 0 ∧ μ' (b + 13) 7 = 1) := by
  have e7 : zu μ (b + 13) 7 0 (b + 13) 7 = 0 := by rw [zu_eq, if_pos ⟨rfl, rfl⟩]
  have e2 : ∀ k, zu μ (b + 13) 7 0 (b + 2) k = μ (b + 2) k := fun k => by rw [zu_eq, if_neg (by omega)]
  have eo : ∀ k, k ≠ 7 → zu μ (b + 13) 7 0 (b + 13) k = μ (b + 13) k := fun k a => by rw [zu_eq, if_neg (fun e => a e.2)]
  obtain ⟨μ', f1, f2, f3, f4, f5, f6⟩ := C_drive (b := b) (μ := zu μ (b + 13) 7 0) (ν := ν) (R := R) (S := S) (by rw [eo 1 (by decide), eo 3 (by decide), eo 2 (by decide), e2]; exact hR) (by rw [eo 5 (by decide), e2]; exact hS)
  rw [e2, eo 0 (by decide), eo 6 (by decide), e7] at f5
  rw [e2] at f6
  have g2 : ∀ k, μ' (b + 2) k = μ (b + 2) k := fun k => by rw [f2 _ (by omega)]; exact e2 k
  have g4 : μ' (b + 13) 4 = μ (b + 13) 4 := (f3 4 (by decide) (by decide) (by decide) (by decide) (by decide)).trans (eo 4 (by decide))
  have ep : ∀ v k, k ≠ 4 → zu μ' (b + 13) 4 v (b + 13) k = μ' (b + 13) k := fun v k a => by rw [zu_eq, if_neg (fun e => a e.2)]
  have e4 : ∀ v, zu μ' (b + 13) 4 v (b + 13) 4 = v := fun v => by rw [zu_eq, if_pos ⟨rfl, rfl⟩]
  have run : ∀ v, E_Inverter_run b x μ ν = some (zu μ' (b + 13) 4 v, ν) → (S < μ (b + 2) 8 → v = zMin x (μ (b + 13) 4 + μ (b + 2) 11)) → (¬ S < μ (b + 2) 8 → v = 0) → ∃ μ', E_Inverter_run b x μ ν = some (μ', ν) ∧ (∀ r, r ≠ b + 13 → μ' r = μ r) ∧ (∀ k, k ≠ 0 → k ≠ 3 → k ≠ 4 → k ≠ 5 → k ≠ 6 → k ≠ 7 → μ' (b + 13) k = μ (b + 13) k) ∧ μ' (b + 13) 3 = R ∧ (S < μ (b + 2) 8 → μ' (b + 13) 0 = μ (b + 13) 0 ∧ μ' (b + 13) 4 = zMin x (μ (b + 13) 4 + μ (b + 2) 11) ∧ μ' (b + 13) 5 = S ∧ μ' (b + 13) 6 = μ (b + 13) 6 ∧ μ' (b + 13) 7 = 0) ∧ (¬ S < μ (b + 2) 8 → μ' (b + 13) 0 = 0 ∧ μ' (b + 13) 4 = 0 ∧ μ' (b + 13) 5 = 0 ∧ μ' (b + 13) 6 = 0 ∧ μ' (b + 13) 7 = 1) := by
    intro v h1 h2 h3
    refine ⟨zu μ' (b + 13) 4 v, h1, fun r a => ?_, fun k a0 a3 a4 a5 a6 a7 => ?_, (ep v 3 (by decide)).trans f4, fun g => ?_, fun g => ?_⟩
    · rw [zu_off _ _ _ _ a, f2 r a, zu_off _ _ _ _ a]
    · rw [ep v k a4, f3 k a0 a3 a5 a6 a7, eo k a7]
    · have t := f5 g
      rw [ep v 0 (by decide), ep v 5 (by decide), ep v 6 (by decide), ep v 7 (by decide), e4]
      exact ⟨t.1, h2 g, t.2.1, t.2.2.1, t.2.2.2⟩
    · have t := f6 g
      rw [ep v 0 (by decide), ep v 5 (by decide), ep v 6 (by decide), ep v 7 (by decide), e4]
      exact ⟨t.1, h3 g, t.2.1, t.2.2.1, t.2.2.2⟩
  have st : E_Inverter_run b x μ ν = if μ' (b + 13) 7 = 0 then some (zu μ' (b + 13) 4 (zMin x (μ (b + 13) 4 + μ (b + 2) 11)), ν) else some (zu μ' (b + 13) 4 0, ν) := by
    rw [E_Inverter_run, e_Inverter_run_0, zlet_eq, if_neg (show ¬ zu μ (b + 13) 7 0 (b + 13) 0 = 0 by rw [eo 0 (by decide)]; exact ho), ob_eq f1]
    by_cases z : μ' (b + 13) 7 = 0
    · rw [if_pos z, if_pos z, show (11 : Int32) = nI 11 from rfl, ob_eq (Tg (by omega)), e_Inverter_run_44, zlet_eq, e_Inverter_run_60]
      show some (zu μ' (b + 13) 4 (zMin x (μ' (b + 13) 4 + μ' (b + 2) 11)), ν) = _
      rw [g4, g2]
    · rw [if_neg z, if_neg z, e_Inverter_run_44, zlet_eq, e_Inverter_run_60]
  by_cases c : S < μ (b + 2) 8
  · rw [if_pos (f5 c).2.2.2] at st
    exact run _ st (fun _ => rfl) (fun g => absurd c g)
  · rw [if_neg (by rw [(f6 c).2.2.2]; decide)] at st
    exact run _ st (fun g => absurd g c) (fun _ => rfl)
