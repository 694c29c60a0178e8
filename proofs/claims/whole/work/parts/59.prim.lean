/-! Both readers, a step at a time: a token on, a fault, a number, a word. -/
def CT (L : Nat) (t : Nat → Int32) (s : Nat) (μ : zI) : Prop := s ≤ L ∧ μ 3 3 = nI L ∧ μ 3 5 = nI s ∧ μ 3 4 = tkK t L s ∧ μ 3 6 = nI (tkE t L s)
def T0 (q L : Nat) (t : Nat → Int32) (s : Nat) (μ κ : zI) : Prop := CT L t s μ ∧ μ 3 0 = 0 ∧ μ 3 1 = -1 ∧ κ q 19 = 0 ∧ κ q 16 = nI s ∧ κ q 15 = nI (tkE t L s) ∧ tkF t L s (κ q 17) (κ q 18) ∧ (s < L → ¬ kd (t s) = 1)
def K0 (q L : Nat) (t : Nat → Int32) (μ κ : zI) : Prop := (∃ s, CT L t s μ) ∧ ¬ κ q 19 = 0 ∧ μ 3 0 = κ q 19 ∧ μ 3 1 = κ q 20
def pC (μ μ' : zI) : Prop := (∀ r, r ≠ 3 → μ' r = μ r) ∧ μ' 3 7 = μ 3 7
def pM (q : Nat) (κ κ' : zI) : Prop := (∀ r, r ≠ q → κ' r = κ r) ∧ ∀ k, k < 15 ∨ 20 < k → κ' q k = κ q k
theorem pC.rf {μ : zI} : pC μ μ := ⟨fun _ _ => rfl, rfl⟩
theorem pM.rf {q : Nat} {κ : zI} : pM q κ κ := ⟨fun _ _ => rfl, fun _ _ => rfl⟩
theorem pC.tr {μ μ1 μ2 : zI} (h : pC μ μ1) (g : pC μ1 μ2) : pC μ μ2 := ⟨fun r a => (g.1 r a).trans (h.1 r a), g.2.trans h.2⟩
theorem pM.tr {q : Nat} {κ κ1 κ2 : zI} (h : pM q κ κ1) (g : pM q κ1 κ2) : pM q κ κ2 := ⟨fun r a => (g.1 r a).trans (h.1 r a), fun k a => (g.2 k a).trans (h.2 k a)⟩
theorem TC.p {L : Nat} {t : Nat → Int32} {μ μ' : zI} (h : TC L t μ) (g : pC μ μ') : TC L t μ' := h.fr (g.1 1 (by decide)) (g.1 2 (by decide))
theorem TM.p {q L : Nat} {t : Nat → Int32} {κ κ' : zI} (h : TM q L t κ) (g : pM q κ κ') : TM q L t κ' := h.fr (g.1 _ (by omega)) (g.2 14 (by decide))
theorem C_ref {μ : zI} {ν : zJ} {w : Int32} : E_Reader_refuse w μ ν = some (if μ 3 0 = 0 then zu (zu μ 3 0 w) 3 1 (μ 3 5) else μ, ν) := by
  rw [E_Reader_refuse, e_Reader_refuse_0, e_Reader_refuse_20, zlet_eq, zlet_eq, zgk (show (5 : Nat) ≠ 0 by decide), e_Reader_refuse_20]
  split <;> rfl
theorem M_wr {q : Nat} {κ : zI} {τ : zJ} {w : Int32} : E_M_wrong q w κ τ = some (if κ q 19 = 0 then zu (zu κ q 19 w) q 20 (κ q 16) else κ, τ) := by
  rw [E_M_wrong, e_M_wrong_0, zlet_eq, zlet_eq, zgk (show (16 : Nat) ≠ 19 by decide)]
  split <;> rfl
theorem CT.next {L s : Nat} {t : Nat → Int32} {μ : zI} {ν : zJ} (h : CT L t s μ) (hC : TC L t μ) : ∃ μ', E_Reader_nextToken μ ν = some (μ', ν) ∧ pC μ μ' ∧ μ' 3 0 = μ 3 0 ∧ μ' 3 1 = μ 3 1 ∧ CT L t (tkS t L (tkE t L s)) μ' := by
  obtain ⟨h1, h2, h3, h4, h5⟩ := h
  have eb := tkE_b (t := t) h1
  obtain ⟨μ', a1, a2, a3, a4, a5, a6⟩ := C_tok (ν := ν) hC h2 h5 eb.2.1
  exact ⟨μ', a1, ⟨a2, a3 7 (by decide) (by decide) (by decide)⟩, a3 0 (by decide) (by decide) (by decide), a3 1 (by decide) (by decide) (by decide), (tkS_b (t := t) eb.2.1).2, (a3 3 (by decide) (by decide) (by decide)).trans h2, a4, a5, a6⟩
theorem T0.next {q L s : Nat} {t : Nat → Int32} {μ κ : zI} {ν τ : zJ} (h : T0 q L t s μ κ) (hC : TC L t μ) (hM : TM q L t κ) : ∃ μ' κ' s', E_Reader_nextToken μ ν = some (μ', ν) ∧ E_M_goOn q κ τ = some (κ', τ) ∧ pC μ μ' ∧ pM q κ κ' ∧ tkE t L s ≤ s' ∧ T0 q L t s' μ' κ' := by
  obtain ⟨h1, h2, h3, h4, h5, h6, h7, h8⟩ := h
  have eb := tkE_b (t := t) h1.1
  obtain ⟨μ', a1, a2, a3, a4, a5⟩ := h1.next (ν := ν) hC
  obtain ⟨κ', b1, b2, b3, b4, b5, b6⟩ := M_tok (τ := τ) hM h6 eb.2.1
  have sb := tkS_b (t := t) eb.2.1
  have sk := (skA_b t (L - tkE t L s) (tkE t L s)).2.2
  refine ⟨μ', κ', _, a1, ?_, a2, ⟨b2, fun k hk => b3 k (by omega) (by omega) (by omega) (by omega)⟩, sb.1, a5, a3.trans h2, a4.trans h3, (b3 19 (by decide) (by decide) (by decide) (by decide)).trans h4, b4, b5, b6, fun g => sk (by unfold tkS at g; omega)⟩
  rw [E_M_goOn, e_M_goOn_0, if_pos h4, ob_eq b1, e_M_goOn_11]
theorem K0.next {q L : Nat} {t : Nat → Int32} {μ κ : zI} {ν τ : zJ} (h : K0 q L t μ κ) (hC : TC L t μ) : ∃ μ', E_Reader_nextToken μ ν = some (μ', ν) ∧ E_M_goOn q κ τ = some (κ, τ) ∧ pC μ μ' ∧ K0 q L t μ' κ := by
  obtain ⟨⟨s, h1⟩, h2, h3, h4⟩ := h
  obtain ⟨μ', a1, a2, a3, a4, a5⟩ := h1.next (ν := ν) hC
  refine ⟨μ', a1, ?_, a2, ⟨_, a5⟩, h2, a3.trans h3, a4.trans h4⟩
  rw [E_M_goOn, e_M_goOn_0, if_neg h2, e_M_goOn_11]
theorem T0.ref {q L s : Nat} {t : Nat → Int32} {μ κ : zI} {ν τ : zJ} {w : Int32} (h : T0 q L t s μ κ) (hw : ¬ w = 0) : ∃ μ' κ', E_Reader_refuse w μ ν = some (μ', ν) ∧ E_M_wrong q w κ τ = some (κ', τ) ∧ pC μ μ' ∧ pM q κ κ' ∧ K0 q L t μ' κ' := by
  obtain ⟨⟨c1, c2, c3, c4, c5⟩, h2, h3, h4, h5, h6, h7, h8⟩ := h
  refine ⟨_, _, by rw [C_ref, if_pos h2], by rw [M_wr, if_pos h4], ⟨fun r a => by rw [zgr a, zgr a], by rw [zgk (by decide), zgk (by decide)]⟩, ⟨fun r a => by rw [zgr a, zgr a], fun k a => by rw [zgk (by omega), zgk (by omega)]⟩, ⟨s, c1, ?_, ?_, ?_, ?_⟩, ?_, ?_, ?_⟩
  · rw [zgk (by decide), zgk (by decide)]; exact c2
  · rw [zgk (by decide), zgk (by decide)]; exact c3
  · rw [zgk (by decide), zgk (by decide)]; exact c4
  · rw [zgk (by decide), zgk (by decide)]; exact c5
  · rw [zgk (by decide), zgh]; exact hw
  · rw [zgk (by decide), zgh, zgk (by decide), zgh]
  · rw [zgh, zgh, c3, h5]
theorem K0.ref {q L : Nat} {t : Nat → Int32} {μ κ : zI} {ν τ : zJ} {w w' : Int32} (h : K0 q L t μ κ) : E_Reader_refuse w μ ν = some (μ, ν) ∧ E_M_wrong q w' κ τ = some (κ, τ) := by
  obtain ⟨-, h2, h3, h4⟩ := h
  exact ⟨by rw [C_ref, if_neg (by rw [h3]; exact h2)], by rw [M_wr, if_neg h2]⟩
theorem C_num {L s : Nat} {t : Nat → Int32} {μ : zI} {ν : zJ} {x1 x2 : Int32} (h : CT L t s μ) (hC : TC L t μ) : ∃ x4, E_Reader_readNumber x1 x2 μ ν = e_Reader_readNumber_44 x1 x2 (cvA t (tkE t L s - s) s 0) x4 μ ν := by
  obtain ⟨c1, c2, c3, c4, c5⟩ := h
  have eb := tkE_b (t := t) c1
  have h9 := hC.1
  obtain ⟨x4, a⟩ := C_num_f (ν := ν) (x1 := x1) (x2 := x2) hC c5 eb.2.1 (tkE t L s - s) s zFuel 0 (by omega) (by unfold zFuel; omega)
  refine ⟨x4, ?_⟩
  rw [E_Reader_readNumber, e_Reader_readNumber_0, zlet_eq, c3]
  exact a
theorem K0.num {q L : Nat} {t : Nat → Int32} {μ κ : zI} {ν τ : zJ} {x1 x2 y1 y2 : Int32} (h : K0 q L t μ κ) (hC : TC L t μ) : ∃ a μ', E_Reader_readNumber x1 x2 μ ν = some (a, μ', ν) ∧ E_M_numeral q y1 y2 κ τ = some (y1, κ, τ) ∧ pC μ μ' ∧ K0 q L t μ' κ := by
  obtain ⟨⟨s, hs⟩, h2, h3, h4⟩ := id h
  obtain ⟨x4, e⟩ := C_num (ν := ν) (x1 := x1) (x2 := x2) hs hC
  obtain ⟨μ', a1, -, a2, a3⟩ := h.next (ν := ν) (τ := τ) hC
  refine ⟨cvA t (tkE t L s - s) s 0, μ', ?_, ?_, a2, a3⟩
  · have r := fun w => (h.ref (ν := ν) (τ := τ) (w := w) (w' := w)).1
    have e75 : ∀ v, e_Reader_readNumber_75 x1 x2 v x4 μ ν = some (v, μ', ν) := fun v => by
      rw [e_Reader_readNumber_75, ob_eq a1]
    have e70 : ∀ v, e_Reader_readNumber_70 x1 x2 v x4 μ ν = some (v, μ', ν) := fun v => by
      rw [e_Reader_readNumber_70, ob_eq (r 2)]
      exact e75 v
    rw [e, e_Reader_readNumber_44, ob_eq (r 1)]
    dsimp only
    rw [e70, e75, ite_self, ite_self, ite_self]
  · rw [E_M_numeral, e_M_numeral_0, if_neg h2]
theorem dig_of {t : Nat → Int32} {L s : Nat} (h : tkK t L s = 3) : ∀ i, s ≤ i → i < s + (tkE t L s - s) → 48 ≤ (t i).toInt ∧ (t i).toInt ≤ 57 := by
  have sL : s < L := by
    unfold tkK at h
    by_cases c : s < L
    · exact c
    · rw [if_neg c] at h; exact absurd h (by decide)
  have ks : kd (t s) = 3 := by rw [tkK, if_pos sL] at h; exact h
  have ee : tkE t L s = exA t 3 (L - (s + 1)) (s + 1) := by rw [tkE, if_pos sL, if_pos (Or.inr ks), ks]
  have xb := exA_b t 3 (L - (s + 1)) (s + 1)
  rw [← ee] at xb
  have dg : ∀ c : Int32, kd c = 3 → 48 ≤ c.toInt ∧ c.toInt ≤ 57 := fun c hc => by
    rcases kd_c c with ⟨a, b⟩ | ⟨a, b⟩ | ⟨a, b⟩ | ⟨a, b⟩ | ⟨a, b⟩
    · rw [hc] at a; exact absurd a (by decide)
    · rw [hc] at a; exact absurd a (by decide)
    · exact b
    · rw [hc] at a; exact absurd a (by decide)
    · rw [hc] at a; exact absurd a (by decide)
  intro i h1 h2
  by_cases e : i = s
  · rw [e]; exact dg _ ks
  · exact dg _ (xb.2.2 i (by omega) (by omega))
theorem T0.num {q L s : Nat} {t : Nat → Int32} {μ κ : zI} {ν τ : zJ} {x1 x2 : Int32} (h : T0 q L t s μ κ) (hC : TC L t μ) (hM : TM q L t κ) (l0 : 0 ≤ x1.toInt) (l9 : x2.toInt ≤ 99999) : ∃ a b μ' κ', E_Reader_readNumber x1 x2 μ ν = some (a, μ', ν) ∧ E_M_numeral q x1 x2 κ τ = some (b, κ', τ) ∧ pC μ μ' ∧ pM q κ κ' ∧ ((∃ s', tkE t L s ≤ s' ∧ T0 q L t s' μ' κ' ∧ a = b ∧ x1.toInt ≤ a.toInt ∧ a.toInt ≤ x2.toInt) ∨ K0 q L t μ' κ') := by
  obtain ⟨c0, h2, h3, h4, h5, h6, h7, h8⟩ := id h
  obtain ⟨c1, c2, c3, c4, c5⟩ := id c0
  obtain ⟨x4, e⟩ := C_num (ν := ν) (x1 := x1) (x2 := x2) c0 hC
  have no : ∀ w : Int32, ¬ w = 0 → ∃ μ' κ' μ2, E_Reader_refuse w μ ν = some (μ2, ν) ∧ E_Reader_nextToken μ2 ν = some (μ', ν) ∧ E_M_wrong q w κ τ = some (κ', τ) ∧ pC μ μ' ∧ pM q κ κ' ∧ K0 q L t μ' κ' := by
    intro w hw
    obtain ⟨μ2, κ2, a1, a2, a3, a4, a5⟩ := h.ref (ν := ν) (τ := τ) hw
    obtain ⟨μ', b1, -, b2, b3⟩ := a5.next (ν := ν) (τ := τ) (hC.p a3)
    exact ⟨μ', κ2, μ2, a1, b1, a2, a3.tr b2, a4, b3⟩
  by_cases k3 : tkK t L s = 3
  · obtain ⟨so, va⟩ := h7.2.2.1 k3
    have nm : nmOK (mvA t (tkE t L s - s) s 0) (cvA t (tkE t L s - s) s 0) := nm_step _ s 0 0 (dig_of k3) (Or.inl ⟨rfl, by decide, by decide⟩)
    generalize mvA t (tkE t L s - s) s 0 = m at nm va
    generalize cvA t (tkE t L s - s) s 0 = v at nm e
    by_cases inr : x1.toInt ≤ v.toInt ∧ v.toInt ≤ x2.toInt
    · -- within
      have mv : m = v := by
        rcases nm with ⟨a, -⟩ | ⟨-, a, -⟩
        · exact a
        · omega
      have nlo : ¬ v < x1 := fun g => by have := ilt.mp g; omega
      have yhi : v ≤ x2 := ile.mpr inr.2
      obtain ⟨μ', κ', s', b1, b2, b3, b4, b5, b6⟩ := h.next (ν := ν) (τ := τ) hC hM
      refine ⟨v, m, μ', κ', ?_, ?_, b3, b4, Or.inl ⟨s', b5, b6, mv.symm, inr.1, inr.2⟩⟩
      · rw [e, e_Reader_readNumber_44, if_pos (c4.trans k3), if_neg nlo, if_pos yhi, e_Reader_readNumber_75, ob_eq b1]
      · rw [E_M_numeral, e_M_numeral_0, if_pos h4, if_pos so, va, mv, if_neg nlo, if_pos yhi, e_M_numeral_46, if_pos h4, e_M_numeral_61, ob_eq b2, va, mv]
    · obtain ⟨μ', κ', μ2, a1, a2, a3, a4, a5, a6⟩ := no 2 (by decide)
      have n19 := a6.2.1
      have out : ¬ (x1.toInt ≤ m.toInt ∧ m.toInt ≤ x2.toInt) := fun g => by
        rcases nm with ⟨a, -⟩ | ⟨a, -⟩
        · rw [a] at g; exact inr g
        · omega
      refine ⟨v, x1, μ', κ', ?_, ?_, a4, a5, Or.inr a6⟩
      · have e70 : e_Reader_readNumber_70 x1 x2 v x4 μ ν = some (v, μ', ν) := by
          rw [e_Reader_readNumber_70, ob_eq a1, e_Reader_readNumber_75, ob_eq a2]
        rw [e, e_Reader_readNumber_44, if_pos (c4.trans k3), e70]
        by_cases lo : v < x1
        · rw [if_pos lo]
        · rw [if_neg lo, if_neg (fun g => inr ⟨ile.mp (Int32.not_lt.mp lo), ile.mp g⟩)]
      · have e41 : e_M_numeral_41 q x1 x2 κ τ = some (x1, κ', τ) := by
          rw [e_M_numeral_41, ob_eq a3, e_M_numeral_46, if_neg n19, e_M_numeral_61, E_M_goOn, e_M_goOn_0, if_neg n19, e_M_goOn_11]
          rfl
        rw [E_M_numeral, e_M_numeral_0, if_pos h4, if_pos so, va, e41]
        by_cases lo : m < x1
        · rw [if_pos lo]
        · rw [if_neg lo, if_neg (fun g => out ⟨ile.mp (Int32.not_lt.mp lo), ile.mp g⟩)]
  · obtain ⟨μ', κ', μ2, a1, a2, a3, a4, a5, a6⟩ := no 1 (by decide)
    have n19 := a6.2.1
    have ns : ¬ κ q 17 = 1 := by
      obtain ⟨f0, f2, -, f4, f5⟩ := h7
      have kk : tkK t L s = 0 ∨ tkK t L s = 2 ∨ tkK t L s = 4 ∨ tkK t L s = 5 := by
        unfold tkK at k3 ⊢
        by_cases c : s < L
        · rw [if_pos c] at k3 ⊢
          rcases kd_c (t s) with ⟨a, b⟩ | ⟨a, b⟩ | ⟨a, b⟩ | ⟨a, b⟩ | ⟨a, b⟩
          · exact absurd a (h8 c)
          · exact Or.inr (Or.inl a)
          · exact absurd a k3
          · exact Or.inr (Or.inr (Or.inl a))
          · exact Or.inr (Or.inr (Or.inr a))
        · rw [if_neg c]; exact Or.inl rfl
      rcases kk with k | k | k | k
      · rw [f0 k]; decide
      · rw [(f2 k).2]; split <;> decide
      · rw [f4 k]; decide
      · rw [f5 k]; decide
    refine ⟨cvA t (tkE t L s - s) s 0, x1, μ', κ', ?_, ?_, a4, a5, Or.inr a6⟩
    · rw [e, e_Reader_readNumber_44, if_neg (by rw [c4]; exact k3), ob_eq a1, e_Reader_readNumber_75, ob_eq a2]
    · rw [E_M_numeral, e_M_numeral_0, if_pos h4, if_neg ns, ob_eq a3, e_M_numeral_46, if_neg n19, e_M_numeral_61, E_M_goOn, e_M_goOn_0, if_neg n19, e_M_goOn_11]
      rfl
/-- the word that both see -/
theorem T0.word {q L s : Nat} {t : Nat → Int32} {μ κ : zI} {ν : zJ} (h : T0 q L t s μ κ) (hC : TC L t μ) : (∃ n, n < 10 ∧ E_Reader_wordHere μ ν = some (ix n, μ, ν) ∧ κ q 17 = 0 ∧ κ q 18 = nI n ∧ s < L) ∨ (E_Reader_wordHere μ ν = some (10, μ, ν) ∧ ¬ κ q 17 = 0) := by
  obtain ⟨c0, h2, h3, h4, h5, h6, h7, h8⟩ := h
  obtain ⟨c1, c2, c3, c4, c5⟩ := c0
  have eb := tkE_b (t := t) c1
  have sL : tkK t L s = 2 → s < L := fun g => by
    unfold tkK at g
    by_cases c : s < L
    · exact c
    · rw [if_neg c] at g; exact absurd g (by decide)
  have W := C_word (ν := ν) hC c3 c5 c4 (fun g => eb.2.2 (sL g)) eb.2.1
  obtain ⟨f0, f2, f3, f4, f5⟩ := h7
  by_cases k2 : tkK t L s = 2
  · rw [cW, if_pos k2] at W
    obtain ⟨va, so⟩ := f2 k2
    rcases wd_rel (t := t) (s := s) (e := tkE t L s) with ⟨n, n9, e1, e2⟩ | ⟨e1, e2⟩
    · rw [e1] at va
      have nm : ¬ nI n = -1 := nI_nm1 (by omega)
      exact Or.inl ⟨n, n9, by rw [W, e2], by rw [so, va, if_neg nm], va, sL k2⟩
    · rw [e1] at va
      exact Or.inr ⟨by rw [W, e2], by rw [so, va, if_pos rfl]; decide⟩
  · rw [cW, if_neg k2] at W
    refine Or.inr ⟨W, ?_⟩
    have kk : tkK t L s = 0 ∨ tkK t L s = 3 ∨ tkK t L s = 4 ∨ tkK t L s = 5 := by
      unfold tkK at k2 ⊢
      by_cases c : s < L
      · rw [if_pos c] at k2 ⊢
        rcases kd_c (t s) with ⟨a, b⟩ | ⟨a, b⟩ | ⟨a, b⟩ | ⟨a, b⟩ | ⟨a, b⟩
        · exact absurd a (h8 c)
        · exact absurd a k2
        · exact Or.inr (Or.inl a)
        · exact Or.inr (Or.inr (Or.inl a))
        · exact Or.inr (Or.inr (Or.inr a))
      · rw [if_neg c]; exact Or.inl rfl
    rcases kk with k | k | k | k
    · rw [f0 k]; decide
    · rw [(f3 k).1]; decide
    · rw [f4 k]; decide
    · rw [f5 k]; decide
theorem K0.word {q L : Nat} {t : Nat → Int32} {μ κ : zI} {ν : zJ} (h : K0 q L t μ κ) (hC : TC L t μ) : ∃ k, k < 11 ∧ E_Reader_wordHere μ ν = some (k, μ, ν) := by
  obtain ⟨⟨s, c1, c2, c3, c4, c5⟩, -⟩ := h
  have eb := tkE_b (t := t) c1
  have sL : tkK t L s = 2 → s < L := fun g => by
    unfold tkK at g
    by_cases c : s < L
    · exact c
    · rw [if_neg c] at g; exact absurd g (by decide)
  refine ⟨cW t L s (tkE t L s), ?_, C_word (ν := ν) hC c3 c5 c4 (fun g => eb.2.2 (sL g)) eb.2.1⟩
  rw [cW]
  split
  · rcases cwA_b (t := t) (s := s) (e := tkE t L s) 10 0 rfl with ⟨a, -⟩ | ⟨a, -⟩ <;> omega
  · omega
