/-! What is added among what comes: both insert alike. -/
theorem nI_dec {k : Nat} : nI (k + 1) + (-1) = nI k := by rw [← Int32.sub_eq_add_neg, nI_pred]
/-- where the new one goes, seen from the first k -/
def psI (R : Nat → Int32) (t : Int32) : Nat → Nat
  | 0 => 0
  | k + 1 => if R (4 * k) ≤ t then k + 1 else psI R t k
/-- the rows with the new one -/
def inI (R e : Nat → Int32) (p j : Nat) : Int32 := if j < 4 * p then R j else if j < 4 * p + 4 then e (j - 4 * p) else R (j - 4)
theorem psI_le {R : Nat → Int32} {t : Int32} : ∀ k, psI R t k ≤ k := by
  intro k
  induction k with
  | zero => exact Nat.le_refl _
  | succ k ih =>
    rw [psI]
    by_cases h : R (4 * k) ≤ t
    · rw [if_pos h]; exact Nat.le_refl _
    · rw [if_neg h]; omega
theorem pk_cpyI {f g : Nat → Int32} {sp dp n j : Nat} : va_cpy f g sp dp n j = if dp ≤ j ∧ j < dp + n then f (sp + (j - dp)) else g j := rfl
/-- the four cells -/
def e4 (a b c d : Int32) (w : Nat) : Int32 := if w = 0 then a else if w = 1 then b else if w = 2 then c else d
theorem C_ins {b m : Nat} {x1 x2 x3 x4 : Int32} {ν : zJ} {R : Nat → Int32} (hm : m < 24) : ∀ (k f : Nat) (μ : zI), k ≤ m → k < f → μ (b + 9) 0 = nI m → (∀ j, j < 4 * (m + 1) → j < 4 * k ∨ 4 * (k + 1) ≤ j → μ (b + 10) j = if 4 * (k + 1) ≤ j then R (j - 4) else R j) → ∃ μ', f_Schedule_add_22 b f x1 x2 x3 x4 (nI k) (nI k) μ ν = some (μ', ν) ∧ (∀ r, r ≠ b + 9 → r ≠ b + 10 → μ' r = μ r) ∧ μ' (b + 9) 0 = nI (m + 1) ∧ (∀ j, j ≠ 0 → μ' (b + 9) j = μ (b + 9) j) ∧ ∀ j, j < 4 * (m + 1) → μ' (b + 10) j = inI R (e4 x1 x2 x3 x4) (psI R x1 k) j := by
  -- where it stays
  have base : ∀ (k : Nat) (μ : zI), k ≤ m → μ (b + 9) 0 = nI m → (∀ j, j < 4 * (m + 1) → j < 4 * k ∨ 4 * (k + 1) ≤ j → μ (b + 10) j = if 4 * (k + 1) ≤ j then R (j - 4) else R j) → ∃ μ', e_Schedule_add_78 b x1 x2 x3 x4 (nI k) (nI k) μ ν = some (μ', ν) ∧ (∀ r, r ≠ b + 9 → r ≠ b + 10 → μ' r = μ r) ∧ μ' (b + 9) 0 = nI (m + 1) ∧ (∀ j, j ≠ 0 → μ' (b + 9) j = μ (b + 9) j) ∧ ∀ j, j < 4 * (m + 1) → μ' (b + 10) j = inI R (e4 x1 x2 x3 x4) k j := by
    intro k μ hk h0 hR
    have e0 : nI k * 4 + 0 = nI (4 * k + 0) := by rw [show (4 : Int32) = nI 4 from rfl, pk_mul, Nat.mul_comm, show (0 : Int32) = nI 0 from rfl, nI_add]
    have e1 : nI k * 4 + 1 = nI (4 * k + 1) := by rw [show (4 : Int32) = nI 4 from rfl, pk_mul, Nat.mul_comm, show (1 : Int32) = nI 1 from rfl, nI_add]
    have e2 : nI k * 4 + 2 = nI (4 * k + 2) := by rw [show (4 : Int32) = nI 4 from rfl, pk_mul, Nat.mul_comm, show (2 : Int32) = nI 2 from rfl, nI_add]
    have e3 : nI k * 4 + 3 = nI (4 * k + 3) := by rw [show (4 : Int32) = nI 4 from rfl, pk_mul, Nat.mul_comm, show (3 : Int32) = nI 3 from rfl, nI_add]
    obtain ⟨A, hA⟩ : ∃ A, A = zu (zu (zu (zu (zu μ (b + 10) (4 * k + 0) x1) (b + 10) (4 * k + 1) x2) (b + 10) (4 * k + 2) x3) (b + 10) (4 * k + 3) x4) (b + 9) 0 (nI (m + 1)) := ⟨_, rfl⟩
    refine ⟨A, ?_, fun r a c => ?_, ?_, fun j hj => ?_, fun j hj => ?_⟩
    · rw [e_Schedule_add_78, e0, e1, e2, e3]
      rw [if_pos (zin_nI (by omega) (by decide)), zlet_eq, nI_clamp (by omega)]
      rw [if_pos (zin_nI (by omega) (by decide)), zlet_eq, nI_clamp (by omega)]
      rw [if_pos (zin_nI (by omega) (by decide)), zlet_eq, nI_clamp (by omega)]
      rw [if_pos (zin_nI (by omega) (by decide)), zlet_eq, nI_clamp (by omega), zlet_eq]
      rw [show zu (zu (zu (zu μ (b + 10) (4 * k + 0) x1) (b + 10) (4 * k + 1) x2) (b + 10) (4 * k + 2) x3) (b + 10) (4 * k + 3) x4 (b + 9) 0 = nI m by simp (disch := omega) only [zgr]; exact h0, nI_1, ← hA]
    · rw [hA]; simp (disch := omega) only [zgr]
    · rw [hA, zgh]
    · rw [hA, zgk hj]; simp (disch := omega) only [zgr]
    · rw [hA, zgr (by omega), inI]
      by_cases c1 : j < 4 * k
      · rw [if_pos c1, zgk (by omega), zgk (by omega), zgk (by omega), zgk (by omega), hR j hj (by omega), if_neg (by omega)]
      · rw [if_neg c1]
        by_cases c2 : j < 4 * k + 4
        · rw [if_pos c2]
          have : j = 4 * k + 0 ∨ j = 4 * k + 1 ∨ j = 4 * k + 2 ∨ j = 4 * k + 3 := by omega
          rcases this with e | e | e | e <;> subst e
          · rw [zgk (by omega), zgk (by omega), zgk (by omega), zgh, show 4 * k + 0 - 4 * k = 0 by omega]; rfl
          · rw [zgk (by omega), zgk (by omega), zgh, show 4 * k + 1 - 4 * k = 1 by omega]; rfl
          · rw [zgk (by omega), zgh, show 4 * k + 2 - 4 * k = 2 by omega]; rfl
          · rw [zgh, show 4 * k + 3 - 4 * k = 3 by omega]; rfl
        · rw [if_neg c2, zgk (by omega), zgk (by omega), zgk (by omega), zgk (by omega), hR j hj (by omega), if_pos (by omega)]
  intro k
  induction k with
  | zero =>
    intro f μ hk hf h0 hR
    obtain ⟨f, rfl⟩ : ∃ i, f = i + 1 := ⟨f - 1, by omega⟩
    rw [f_Schedule_add_22, if_pos (show nI 0 ≤ 0 by decide), psI]
    exact base 0 μ hk h0 hR
  | succ k ih =>
    intro f μ hk hf h0 hR
    obtain ⟨f, rfl⟩ : ∃ i, f = i + 1 := ⟨f - 1, by omega⟩
    have e0 : (nI (k + 1) - 1) * 4 + 0 = nI (4 * k) := by rw [nI_pred, show (4 : Int32) = nI 4 from rfl, pk_mul, Nat.mul_comm, show (0 : Int32) = nI 0 from rfl, nI_add, Nat.add_zero]
    have e1 : (nI (k + 1) - 1) * 4 = nI (4 * k) := by rw [nI_pred, show (4 : Int32) = nI 4 from rfl, pk_mul, Nat.mul_comm]
    have e2 : nI (k + 1) * 4 = nI (4 * (k + 1)) := by rw [show (4 : Int32) = nI 4 from rfl, pk_mul, Nat.mul_comm]
    rw [f_Schedule_add_22, if_neg (nI_nle (n := k + 1) (by omega) (by omega)), e0, if_pos (zin_nI (by omega) (by decide)), nI_clamp (by omega), hR (4 * k) (by omega) (by omega), if_neg (show ¬ 4 * (k + 1 + 1) ≤ 4 * k by omega), psI]
    by_cases c : R (4 * k) ≤ x1
    · rw [if_pos c, if_pos c]
      exact base (k + 1) μ hk h0 hR
    · rw [if_neg c, if_neg c, e1, e2, show (4 : Int32) = nI 4 from rfl, if_pos (zcp_nI (by omega) (by decide)), if_pos (zcp_nI (by omega) (by decide)), zlet_eq, zlet_eq, nI_clamp (by omega), nI_clamp (by omega), nI_pred, nI_dec]
      obtain ⟨A, hA⟩ : ∃ A, A = zr μ (b + 10) (va_cpy (μ (b + 10)) (μ (b + 10)) (4 * k) (4 * (k + 1)) 4) := ⟨_, rfl⟩
      rw [← hA]
      have ar : ∀ r, r ≠ b + 10 → A r = μ r := fun r hr => by rw [hA, zr_eq, if_neg hr]
      obtain ⟨μ', a1, a2, a3, a4, a5⟩ := ih f A (by omega) (by omega) (by rw [ar _ (by omega)]; exact h0) (fun j hj hc => by
        rw [hA, zr_eq, if_pos rfl, pk_cpyI]
        by_cases d : 4 * (k + 1) ≤ j ∧ j < 4 * (k + 1) + 4
        · rw [if_pos d, hR _ (by omega) (by omega), if_neg (by omega), if_pos (by omega), show 4 * k + (j - 4 * (k + 1)) = j - 4 by omega]
        · rw [if_neg d, hR j hj (by omega)]
          by_cases d2 : 4 * (k + 1) ≤ j
          · rw [if_pos d2, if_pos (by omega)]
          · rw [if_neg d2, if_neg (by omega)])
      exact ⟨μ', a1, fun r g1 g2 => by rw [a2 r g1 g2, ar r g2], a3, fun j hj => by rw [a4 j hj, ar _ (by omega)], a5⟩
/-- the class adds -/
theorem C_add {b m : Nat} {x1 x2 x3 x4 : Int32} {μ : zI} {ν : zJ} (hm : m < 24) (h0 : μ (b + 9) 0 = nI m) : ∃ μ', E_Schedule_add b x1 x2 x3 x4 μ ν = some (μ', ν) ∧ (∀ r, r ≠ b + 9 → r ≠ b + 10 → μ' r = μ r) ∧ μ' (b + 9) 0 = nI (m + 1) ∧ (∀ j, j ≠ 0 → μ' (b + 9) j = μ (b + 9) j) ∧ ∀ j, j < 4 * (m + 1) → μ' (b + 10) j = inI (μ (b + 10)) (e4 x1 x2 x3 x4) (psI (μ (b + 10)) x1 m) j := by
  obtain ⟨μ', a1, a2, a3, a4, a5⟩ := C_ins (b := b) (x1 := x1) (x2 := x2) (x3 := x3) (x4 := x4) (ν := ν) (R := μ (b + 10)) hm m zFuel μ (Nat.le_refl _) (by unfold zFuel; omega) h0 (fun j hj hc => by rw [if_neg (by omega)])
  refine ⟨μ', ?_, a2, a3, a4, a5⟩
  rw [E_Schedule_add, e_Schedule_add_0, h0, if_pos (show nI m < 24 from nI_lt (b := 24) hm (by decide)), zlet_eq, zlet_eq]
  exact a1
/-- the reference moves a row up -/
theorem M_p38 {q k : Nat} {r8 : Int32 → Int32 → zI → zJ → Option (zI × zJ)} {x1 : Int32} {κ : zI} {τ : zJ} (hk : k < 23) : ∃ κ', f_M_puts_38 q r8 zFuel x1 (nI (k + 1)) 0 κ τ = r8 x1 (nI k) κ' τ ∧ (∀ r, r ≠ q + 7 → κ' r = κ r) ∧ (∀ j, j < 47 → κ' (q + 7) j = κ (q + 7) j) ∧ ∀ j, κ' (q + 7) (47 + j) = if 4 * (k + 1) ≤ j ∧ j < 4 * (k + 1) + 4 then κ (q + 7) (47 + (j - 4)) else κ (q + 7) (47 + j) := by
  have one : ∀ (w f : Nat) (κ : zI), w < 4 → f_M_puts_38 q r8 (f + 1) x1 (nI (k + 1)) (nI w) κ τ = f_M_puts_38 q r8 f x1 (nI (k + 1)) (nI (w + 1)) (zu κ (q + 7) (47 + (4 * (k + 1) + w)) (κ (q + 7) (47 + (4 * k + w)))) τ := by
    intro w f κ hw
    have g : (47 : Int32) + 4 * nI (k + 1) = nI (47 + 4 * (k + 1)) := by rw [show (4 : Int32) = nI 4 from rfl, pk_mul, show (47 : Int32) = nI 47 from rfl, nI_add]
    have g1 : nI (47 + 4 * (k + 1)) - 4 + nI w = nI (47 + (4 * k + w)) := by rw [show (4 : Int32) = nI 4 from rfl, pk_sub (by omega), nI_add]; congr 1; omega
    have g2 : nI (47 + 4 * (k + 1)) + nI w = nI (47 + (4 * (k + 1) + w)) := by rw [nI_add]; congr 1; omega
    rw [f_M_puts_38, if_neg (lge (c := 4) (k := w) 4 rfl hw (by decide)), g, g1, g2, if_pos (zin_nI (by omega) (by decide)), if_pos (zin_nI (by omega) (by decide)), zlet_eq, nI_clamp (by omega), nI_clamp (by omega), nI_1]
  obtain ⟨A, hA⟩ : ∃ A, A = zu (zu (zu (zu κ (q + 7) (47 + (4 * (k + 1) + 0)) (κ (q + 7) (47 + (4 * k + 0)))) (q + 7) (47 + (4 * (k + 1) + 1)) (κ (q + 7) (47 + (4 * k + 1)))) (q + 7) (47 + (4 * (k + 1) + 2)) (κ (q + 7) (47 + (4 * k + 2)))) (q + 7) (47 + (4 * (k + 1) + 3)) (κ (q + 7) (47 + (4 * k + 3))) := ⟨_, rfl⟩
  refine ⟨A, ?_, fun r hr => ?_, fun j hj => ?_, fun j => ?_⟩
  · rw [show zFuel = 99995 + 1 + 1 + 1 + 1 + 1 from rfl, show (0 : Int32) = nI 0 from rfl, one 0 _ _ (by decide), one 1 _ _ (by decide), one 2 _ _ (by decide), one 3 _ _ (by decide), f_M_puts_38, if_pos (show (4 : Int32) ≤ nI (3 + 1) by decide), nI_dec]
    congr 1
    rw [hA, zgk (by omega), zgk (by omega), zgk (by omega), zgk (by omega), zgk (by omega), zgk (by omega)]
  · rw [hA]; simp (disch := omega) only [zgr]
  · rw [hA]; simp (disch := omega) only [zgk]
  · rw [hA]
    by_cases c : 4 * (k + 1) ≤ j ∧ j < 4 * (k + 1) + 4
    · rw [if_pos c]
      have : j = 4 * (k + 1) + 0 ∨ j = 4 * (k + 1) + 1 ∨ j = 4 * (k + 1) + 2 ∨ j = 4 * (k + 1) + 3 := by omega
      rcases this with e | e | e | e <;> subst e
      · rw [zgk (by omega), zgk (by omega), zgk (by omega), zgh, show 4 * (k + 1) + 0 - 4 = 4 * k + 0 by omega]
      · rw [zgk (by omega), zgk (by omega), zgh, show 4 * (k + 1) + 1 - 4 = 4 * k + 1 by omega]
      · rw [zgk (by omega), zgh, show 4 * (k + 1) + 2 - 4 = 4 * k + 2 by omega]
      · rw [zgh, show 4 * (k + 1) + 3 - 4 = 4 * k + 3 by omega]
    · rw [if_neg c, zgk (by omega), zgk (by omega), zgk (by omega), zgk (by omega)]
/-- the reference writes it -/
theorem M_p85 {q i k m : Nat} {κ : zI} {τ : zJ} (hi : i < 24) (hk : k < 24) (h46 : κ (q + 7) 46 = nI m) : ∃ κ', e_M_puts_83 q (nI i) (nI k) κ τ = some (κ', τ) ∧ (∀ r, r ≠ q + 7 → κ' r = κ r) ∧ κ' (q + 7) 46 = nI (m + 1) ∧ (∀ j, j < 46 ∨ 143 ≤ j → κ' (q + 7) j = κ (q + 7) j) ∧ ∀ j, κ' (q + 7) (47 + j) = if 4 * k ≤ j ∧ j < 4 * k + 4 then κ (q + 6) (4 * i + (j - 4 * k)) else κ (q + 7) (47 + j) := by
  have one : ∀ (w f : Nat) (κ : zI), w < 4 → f_M_puts_85 q (f + 1) (nI i) (nI k) (nI w) κ τ = f_M_puts_85 q f (nI i) (nI k) (nI (w + 1)) (zu κ (q + 7) (47 + (4 * k + w)) (κ (q + 6) (4 * i + w))) τ := by
    intro w f κ hw
    have g1 : 4 * nI i + nI w = nI (4 * i + w) := by rw [show (4 : Int32) = nI 4 from rfl, pk_mul, nI_add]
    have g2 : (47 : Int32) + 4 * nI k + nI w = nI (47 + (4 * k + w)) := by rw [show (4 : Int32) = nI 4 from rfl, pk_mul, show (47 : Int32) = nI 47 from rfl, nI_add, nI_add]; congr 1; omega
    rw [f_M_puts_85, if_neg (lge (c := 4) (k := w) 4 rfl hw (by decide)), g1, g2, if_pos (zin_nI (by omega) (by decide)), if_pos (zin_nI (by omega) (by decide)), zlet_eq, nI_clamp (by omega), nI_clamp (by omega), nI_1]
  obtain ⟨A, hA⟩ : ∃ A, A = zu (zu (zu (zu κ (q + 7) (47 + (4 * k + 0)) (κ (q + 6) (4 * i + 0))) (q + 7) (47 + (4 * k + 1)) (κ (q + 6) (4 * i + 1))) (q + 7) (47 + (4 * k + 2)) (κ (q + 6) (4 * i + 2))) (q + 7) (47 + (4 * k + 3)) (κ (q + 6) (4 * i + 3)) := ⟨_, rfl⟩
  have a46 : A (q + 7) 46 = nI m := by rw [hA, zgk (by omega), zgk (by omega), zgk (by omega), zgk (by omega)]; exact h46
  refine ⟨zu A (q + 7) 46 (nI (m + 1)), ?_, fun r hr => ?_, zgh, fun j hj => ?_, fun j => ?_⟩
  · rw [e_M_puts_83, show zFuel = 99995 + 1 + 1 + 1 + 1 + 1 from rfl, show (0 : Int32) = nI 0 from rfl, one 0 _ _ (by decide), one 1 _ _ (by decide), one 2 _ _ (by decide), one 3 _ _ (by decide)]
    rw [show zu (zu (zu (zu κ (q + 7) (47 + (4 * k + 0)) (κ (q + 6) (4 * i + 0))) (q + 7) (47 + (4 * k + 1)) (zu κ (q + 7) (47 + (4 * k + 0)) (κ (q + 6) (4 * i + 0)) (q + 6) (4 * i + 1))) (q + 7) (47 + (4 * k + 2)) (zu (zu κ (q + 7) (47 + (4 * k + 0)) (κ (q + 6) (4 * i + 0))) (q + 7) (47 + (4 * k + 1)) (zu κ (q + 7) (47 + (4 * k + 0)) (κ (q + 6) (4 * i + 0)) (q + 6) (4 * i + 1)) (q + 6) (4 * i + 2))) (q + 7) (47 + (4 * k + 3)) (zu (zu (zu κ (q + 7) (47 + (4 * k + 0)) (κ (q + 6) (4 * i + 0))) (q + 7) (47 + (4 * k + 1)) (zu κ (q + 7) (47 + (4 * k + 0)) (κ (q + 6) (4 * i + 0)) (q + 6) (4 * i + 1))) (q + 7) (47 + (4 * k + 2)) (zu (zu κ (q + 7) (47 + (4 * k + 0)) (κ (q + 6) (4 * i + 0))) (q + 7) (47 + (4 * k + 1)) (zu κ (q + 7) (47 + (4 * k + 0)) (κ (q + 6) (4 * i + 0)) (q + 6) (4 * i + 1)) (q + 6) (4 * i + 2)) (q + 6) (4 * i + 3)) = A by rw [hA]; simp (disch := omega) only [zgr]]
    rw [f_M_puts_85, if_pos (by decide), zlet_eq, a46, nI_1]
  · rw [zgr hr, hA]; simp (disch := omega) only [zgr]
  · rw [zgk (by omega), hA]; simp (disch := omega) only [zgk]
  · rw [zgk (by omega), hA]
    by_cases c : 4 * k ≤ j ∧ j < 4 * k + 4
    · rw [if_pos c]
      have : j = 4 * k + 0 ∨ j = 4 * k + 1 ∨ j = 4 * k + 2 ∨ j = 4 * k + 3 := by omega
      rcases this with e | e | e | e <;> subst e
      · rw [zgk (by omega), zgk (by omega), zgk (by omega), zgh, show 4 * k + 0 - 4 * k = 0 by omega]
      · rw [zgk (by omega), zgk (by omega), zgh, show 4 * k + 1 - 4 * k = 1 by omega]
      · rw [zgk (by omega), zgh, show 4 * k + 2 - 4 * k = 2 by omega]
      · rw [zgh, show 4 * k + 3 - 4 * k = 3 by omega]
    · rw [if_neg c, zgk (by omega), zgk (by omega), zgk (by omega), zgk (by omega)]
/-- the reference goes down to the place -/
theorem M_ins {q i m : Nat} {τ : zJ} {R : Nat → Int32} {E : Nat → Int32} (hi : i < 24) (hm : m < 24) : ∀ (k f : Nat) (κ : zI), k ≤ m → k < f → κ (q + 7) 46 = nI m → κ (q + 6) = E → (∀ j, j < 4 * (m + 1) → j < 4 * k ∨ 4 * (k + 1) ≤ j → κ (q + 7) (47 + j) = if 4 * (k + 1) ≤ j then R (j - 4) else R j) → ∃ κ', f_M_puts_8 q f (nI i) (nI k) κ τ = some (κ', τ) ∧ (∀ r, r ≠ q + 7 → κ' r = κ r) ∧ κ' (q + 7) 46 = nI (m + 1) ∧ (∀ j, j < 46 ∨ 143 ≤ j → κ' (q + 7) j = κ (q + 7) j) ∧ ∀ j, j < 4 * (m + 1) → κ' (q + 7) (47 + j) = inI R (fun w => E (4 * i + w)) (psI R (E (4 * i)) k) j := by
  have base : ∀ (k : Nat) (κ : zI), k ≤ m → κ (q + 7) 46 = nI m → κ (q + 6) = E → (∀ j, j < 4 * (m + 1) → j < 4 * k ∨ 4 * (k + 1) ≤ j → κ (q + 7) (47 + j) = if 4 * (k + 1) ≤ j then R (j - 4) else R j) → ∃ κ', e_M_puts_83 q (nI i) (nI k) κ τ = some (κ', τ) ∧ (∀ r, r ≠ q + 7 → κ' r = κ r) ∧ κ' (q + 7) 46 = nI (m + 1) ∧ (∀ j, j < 46 ∨ 143 ≤ j → κ' (q + 7) j = κ (q + 7) j) ∧ ∀ j, j < 4 * (m + 1) → κ' (q + 7) (47 + j) = inI R (fun w => E (4 * i + w)) k j := by
    intro k κ hk h0 hE hR
    obtain ⟨κ', a1, a2, a3, a4, a5⟩ := M_p85 (q := q) (τ := τ) (i := i) (k := k) hi (by omega) h0
    refine ⟨κ', a1, a2, a3, a4, fun j hj => ?_⟩
    rw [a5, inI, hE]
    by_cases c1 : j < 4 * k
    · rw [if_pos c1, if_neg (by omega), hR j hj (by omega), if_neg (by omega)]
    · rw [if_neg c1]
      by_cases c2 : j < 4 * k + 4
      · rw [if_pos c2, if_pos (by omega)]
      · rw [if_neg c2, if_neg (by omega), hR j hj (by omega), if_pos (by omega)]
  intro k
  induction k with
  | zero =>
    intro f κ hk hf h0 hE hR
    obtain ⟨f, rfl⟩ : ∃ i, f = i + 1 := ⟨f - 1, by omega⟩
    rw [f_M_puts_8, if_pos (show nI 0 ≤ 0 by decide), psI]
    exact base 0 κ hk h0 hE hR
  | succ k ih =>
    intro f κ hk hf h0 hE hR
    obtain ⟨f, rfl⟩ : ∃ i, f = i + 1 := ⟨f - 1, by omega⟩
    have g : (47 : Int32) + 4 * nI (k + 1) - 4 = nI (47 + 4 * k) := by rw [show (4 : Int32) = nI 4 from rfl, pk_mul, show (47 : Int32) = nI 47 from rfl, nI_add, pk_sub (by omega)]; exact congrArg nI (by omega)
    have g1 : 4 * nI i = nI (4 * i) := by rw [show (4 : Int32) = nI 4 from rfl, pk_mul]
    rw [f_M_puts_8, if_neg (nI_nle (n := k + 1) (by omega) (by omega)), g, g1, if_pos (zin_nI (by omega) (by decide)), if_pos (zin_nI (by omega) (by decide)), nI_clamp (by omega), nI_clamp (by omega), hE, hR (4 * k) (by omega) (by omega), if_neg (show ¬ 4 * (k + 1 + 1) ≤ 4 * k by omega), psI]
    by_cases c : R (4 * k) ≤ E (4 * i)
    · rw [if_pos c, if_pos c]
      exact base (k + 1) κ hk h0 hE hR
    · rw [if_neg c, if_neg c]
      obtain ⟨A, p1, p2, p3, p4⟩ := M_p38 (q := q) (k := k) (r8 := f_M_puts_8 q f) (x1 := nI i) (κ := κ) (τ := τ) (by omega)
      obtain ⟨κ', a1, a2, a3, a4, a5⟩ := ih f A (by omega) (by omega) (by rw [p3 46 (by decide)]; exact h0) (by rw [p2 _ (by omega)]; exact hE) (fun j hj hc => by
        rw [p4]
        by_cases d : 4 * (k + 1) ≤ j ∧ j < 4 * (k + 1) + 4
        · rw [if_pos d, hR _ (by omega) (by omega), if_neg (by omega), if_pos (by omega)]
        · rw [if_neg d, hR j hj (by omega)]
          by_cases d2 : 4 * (k + 1) ≤ j
          · rw [if_pos d2, if_pos (by omega)]
          · rw [if_neg d2, if_neg (by omega)])
      refine ⟨κ', by rw [p1]; exact a1, fun r hr => by rw [a2 r hr, p2 r hr], a3, fun j hj => ?_, a5⟩
      rw [a4 j hj]
      rcases Nat.lt_or_ge j 47 with h | h
      · exact p3 j h
      · have := p4 (j - 47)
        rw [show 47 + (j - 47) = j by omega] at this
        rw [this, if_neg (by omega)]
