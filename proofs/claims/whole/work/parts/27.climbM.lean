/-! The reference's climbed. -/
def umI (pw : Nat → Int32) (x : Nat) : Int32 := if x + 1 < 1000 then pw (x + 1) else -1
def dmI (pw : Nat → Int32) (x : Nat) : Int32 := if 0 < x then pw (x - 1) else -1
theorem mway {pw : Nat → Int32} (h0 : ∀ k, k < 1000 → 0 ≤ (pw k).toInt) {x : Nat} (hx : x < 1000) : (if pw x < umI pw x then (if umI pw x ≤ dmI pw x then (-1 : Int32) else 1) else if dmI pw x ≤ pw x then 0 else (if umI pw x ≤ dmI pw x then -1 else 1)) = wyI pw x := by
  have z := h0 x hx
  have hm : (-1 : Int32).toInt = -1 := rfl
  have hz : (0 : Int32).toInt = 0 := rfl
  have hu : (umI pw x = upC pw x ∧ x + 1 < 1000) ∨ (umI pw x = -1 ∧ upC pw x = 0) := by
    unfold umI upC
    by_cases c : x + 1 < 1000
    · rw [if_pos c, if_pos c]; exact Or.inl ⟨rfl, c⟩
    · rw [if_neg c, if_neg c]; exact Or.inr ⟨rfl, rfl⟩
  have hd : (dmI pw x = dnC pw x ∧ 0 < x) ∨ (dmI pw x = -1 ∧ dnC pw x = 0) := by
    unfold dmI dnC
    by_cases c : 0 < x
    · rw [if_pos c, if_pos c]; exact Or.inl ⟨rfl, c⟩
    · rw [if_neg c, if_neg c]; exact Or.inr ⟨rfl, rfl⟩
  unfold wyI
  rcases hu with ⟨hu, -⟩ | ⟨hu, hu2⟩ <;> rcases hd with ⟨hd, -⟩ | ⟨hd, hd2⟩
  · rw [hu, hd]
    generalize upC pw x = U
    generalize dnC pw x = V
    simp only [ilt, ile]
    repeat' split
    all_goals first | rfl | (exfalso; omega)
  · rw [hu, hd, hd2]
    generalize upC pw x = U
    simp only [ilt, ile, hm, hz]
    repeat' split
    all_goals first | rfl | (exfalso; omega)
  · rw [hu, hd, hu2]
    generalize dnC pw x = V
    simp only [ilt, ile, hm, hz]
    repeat' split
    all_goals first | rfl | (exfalso; omega)
  · rw [hu, hd, hu2, hd2]
    simp only [ilt, ile, hm, hz]
    repeat' split
    all_goals first | rfl | (exfalso; omega)
/-- one turn of the reference's loop -/
theorem M_climb_1 {b q n : Nat} {μ κ : zI} {τ : zJ} {w : Int32} (h : RP b q n μ κ) {x f : Nat} (hx : x < 1000) : f_M_climbed_18 q (f + 1) w (nI x) 1 κ τ = (if wyI (fun k => pP (mLit q κ) (κ (q + 5)) n (nI k)) x = 0 then f_M_climbed_18 q f w (nI x) 0 κ τ else f_M_climbed_18 q f w (nI x + wyI (fun k => pP (mLit q κ) (κ (q + 5)) n (nI k)) x) 1 κ τ) := by
  have e0 := (h.pw (ν := fun _ _ => 0) (τ := τ) hx).2
  have hm := mway h.p0 hx
  generalize hp : (fun k => pP (mLit q κ) (κ (q + 5)) n (nI k)) = pw at *
  have hpx : pP (mLit q κ) (κ (q + 5)) n (nI x) = pw x := by rw [← hp]
  rw [hpx] at hm
  have e0' : E_M_powerAt q (nI x) κ τ = some (pw x, κ, τ) := by rw [e0, ← hp]
  have eu : (if (999 : Int32) ≤ nI x then e_M_climbed_47 q (f_M_climbed_18 q f) w (nI x) 1 (pw x) (-1) κ τ else Option.bind (E_M_powerAt q (nI x + 1) κ τ) fun ty5 => e_M_climbed_47 q (f_M_climbed_18 q f) w (nI x) 1 (pw x) ty5.1 ty5.2.1 ty5.2.2) = e_M_climbed_47 q (f_M_climbed_18 q f) w (nI x) 1 (pw x) (umI pw x) κ τ := by
    by_cases c : x + 1 < 1000
    · rw [if_neg (lge (c := 999) (k := x) 999 rfl (by omega) (by decide)), nI_1, (h.pw (ν := fun _ _ => 0) (τ := τ) c).2]
      simp only [Option.bind_some]
      rw [umI, if_pos c, ← hp]
    · have : x = 999 := by omega
      subst this
      rw [if_pos (show (999 : Int32) ≤ nI 999 by decide), umI, if_neg c]
  have ed : e_M_climbed_47 q (f_M_climbed_18 q f) w (nI x) 1 (pw x) (umI pw x) κ τ = e_M_climbed_64 q (f_M_climbed_18 q f) w (nI x) 1 (pw x) (umI pw x) (dmI pw x) κ τ := by
    rw [e_M_climbed_47]
    by_cases c : 0 < x
    · rw [if_neg (nI_nle c (by omega)), nI_m1 c, (h.pw (ν := fun _ _ => 0) (τ := τ) (show x - 1 < 1000 by omega)).2]
      simp only [Option.bind_some]
      rw [dmI, if_pos c, ← hp]
    · have : x = 0 := by omega
      subst this
      rw [if_pos (show nI 0 ≤ 0 by decide), dmI, if_neg c]
  rw [f_M_climbed_18, if_neg (show ¬ (1 : Int32) = 0 by decide), e0']
  simp only [Option.bind_some, zlet]
  rw [eu, ed, e_M_climbed_64, ← hm]
  simp only [e_M_climbed_80, e_M_climbed_85, e_M_climbed_105, e_M_climbed_103, zlet, if_true]
  rw [if_neg (show ¬ (1 : Int32) = 0 by decide)]
  by_cases a : pw x < umI pw x
  · rw [if_pos a, if_pos a]
    by_cases c : umI pw x ≤ dmI pw x
    · rw [if_pos c, if_pos c, if_neg (show ¬ (-1 : Int32) = 0 by decide)]
    · rw [if_neg c, if_neg c, if_neg (show ¬ (1 : Int32) = 0 by decide)]
  · rw [if_neg a, if_neg a]
    by_cases d : dmI pw x ≤ pw x
    · rw [if_pos d, if_pos d, if_pos rfl]
    · rw [if_neg d, if_neg d]
      by_cases c : umI pw x ≤ dmI pw x
      · rw [if_pos c, if_pos c, if_neg (show ¬ (-1 : Int32) = 0 by decide)]
      · rw [if_neg c, if_neg c, if_neg (show ¬ (1 : Int32) = 0 by decide)]
theorem M_climb_f {b q n : Nat} {μ κ : zI} {τ : zJ} {w : Int32} (h : RP b q n μ κ) : ∀ (j x f : Nat), j + 1 < f → x < 1000 → wyI (fun k => pP (mLit q κ) (κ (q + 5)) n (nI k)) (clI (fun k => pP (mLit q κ) (κ (q + 5)) n (nI k)) j x) = 0 → f_M_climbed_18 q f w (nI x) 1 κ τ = some (nI (clI (fun k => pP (mLit q κ) (κ (q + 5)) n (nI k)) j x), κ, τ) := by
  intro j
  induction j with
  | zero =>
    intro x f hf hx hw
    obtain ⟨f, rfl⟩ : ∃ g, f = g + 2 := ⟨f - 2, by omega⟩
    have hw1 : wyI (fun k => pP (mLit q κ) (κ (q + 5)) n (nI k)) x = 0 := hw
    rw [M_climb_1 h hx, if_pos hw1, f_M_climbed_18, if_pos rfl, clI]
  | succ j ih =>
    intro x f hf hx hw
    obtain ⟨f, rfl⟩ : ∃ g, f = g + 2 := ⟨f - 2, by omega⟩
    rw [M_climb_1 h hx]
    rw [clI] at hw ⊢
    rcases wyI_cases (fun k => pP (mLit q κ) (κ (q + 5)) n (nI k)) x with c | c | c
    · rw [if_pos c, if_pos c, f_M_climbed_18, if_pos rfl]
    · have u := wyI_up h.p0 hx c
      rw [c, if_neg (show ¬ (1 : Int32) = 0 by decide), if_pos rfl] at hw
      rw [c, if_neg (show ¬ (1 : Int32) = 0 by decide), if_neg (show ¬ (1 : Int32) = 0 by decide), if_pos rfl, nI_1]
      exact ih (x + 1) (f + 1) (by omega) u.1 hw
    · have u := wyI_dn h.p0 hx c
      have e : nI x + (-1) = nI (x - 1) := sb_m1 u.1
      rw [c, if_neg (show ¬ (-1 : Int32) = 0 by decide), if_neg (show ¬ (-1 : Int32) = 1 by decide)] at hw
      rw [c, if_neg (show ¬ (-1 : Int32) = 0 by decide), if_neg (show ¬ (-1 : Int32) = 0 by decide), if_neg (show ¬ (-1 : Int32) = 1 by decide), e]
      exact ih (x - 1) (f + 1) (by omega) (by omega) hw
theorem zFuel_1001 : 1001 < zFuel := by unfold zFuel; omega
theorem climb_2 {q n : Nat} {μ κ : zI} {ν τ : zJ} (h : RP 4 q n μ κ) {k F : Nat} (hk : k < 1000) (hF : 1001 < F) : ∃ r, f_S_climbed_13 F (nI k) (nI k) 0 μ ν = some (r, μ, ν) ∧ f_M_climbed_18 q F (nI k) (nI k) 1 κ τ = some (r, κ, τ) := by
  have e1 := C_climb_f (ν := ν) (w := nI k) h 1000 0 k F (by omega) (by omega) hk
  have e2 := M_climb_f (τ := τ) (w := nI k) h 1000 k F (by omega) hk (clI_end h.p0 hk)
  exact ⟨_, e1, e2⟩
theorem one_ne_0 : ¬ (1 : Int32) = 0 := by decide
theorem ob_eq {α β : Type} {o : Option α} {a : α} {f : α → Option β} (h : o = some a) : Option.bind o f = f a := by rw [h]; rfl
theorem zlet_eq {α β : Type} {a : α} {f : α → β} : zlet a f = f a := rfl
theorem sim_climbed {q n : Nat} {μ κ : zI} {ν τ : zJ} (h : RP 4 q n μ κ) (x : Int32) : ∃ r κ', E_S_climbed x μ ν = some (r, μ, ν) ∧ E_M_climbed q x κ τ = some (r, κ', τ) ∧ mQ q κ κ' ∧ mKn q n κ' := by
  have h0 : RP 4 q n μ (zu κ q 0 0) := h.th
  have hF := zFuel_1001
  rcases pt_or x with c | ⟨k, hk, rfl⟩
  · rw [E_S_climbed, e_S_climbed_0, E_M_climbed, e_M_climbed_0]
    generalize zFuel = F
    simp only [zlet]
    rw [P_out c, MP_out c]
    simp only [Option.bind_some, t00, if_true]
    exact ⟨_, _, rfl, rfl, mQ.th, h0.2.2.2.2.2.2.2.2⟩
  · obtain ⟨r, e1, e2⟩ := climb_2 (ν := ν) (τ := τ) h0 hk hF
    refine ⟨r, zu κ q 0 0, ?_, ?_, mQ.th, h0.2.2.2.2.2.2.2.2⟩
    · rw [E_S_climbed, e_S_climbed_0, ob_eq (P_in hk), if_neg (show ¬ ((1 : Int32), μ, ν).1 = 0 from one_ne_0)]
      exact e1
    · rw [E_M_climbed, e_M_climbed_0, zlet_eq, ob_eq (MP_in hk), if_neg (show ¬ ((1 : Int32), zu κ q 0 0, τ).1 = 0 from one_ne_0)]
      exact e2
