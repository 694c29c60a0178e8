/-! What the walks of the decompiled functions stand on. -/
def zFuel : Nat := 100000
def zlet {α β : Type} (x : α) (f : α → β) : β := f x
def zin (i : Int32) (n : Nat) : Bool := decide (0 ≤ i) && decide (i.toNatClampNeg < n)
def zb (v : Int32) : Bool := v == 0 || v == 1
theorem zin_vp {i : Int32} {n : Nat} (h : zin i n = true) : vp_in i n := by
  simp only [zin, Bool.and_eq_true, decide_eq_true_eq] at h
  rintro (q | q)
  · exact absurd h.1 (Int32.not_le.mpr q)
  · omega
theorem vp_zin {i : Int32} {n : Nat} (h : vp_in i n) : zin i n = true := by
  simp only [zin, Bool.and_eq_true, decide_eq_true_eq]
  exact ⟨Int32.not_lt.mp fun q => h (Or.inl q), Nat.not_le.mp fun q => h (Or.inr q)⟩
theorem zb_or {v : Int32} (h : zb v = true) : v = 0 ∨ v = 1 := by simpa [zb] using h
theorem zb_n {v : Int32} (h : zb v = true) : narrow .boolean (.int v) = .int v := by rcases zb_or h with rfl | rfl <;> rfl
theorem zb_f {v : Int32} (h : zb v = true) : fits .boolean (.int v) = true := by rcases zb_or h with rfl | rfl <;> rfl
theorem zh_let {α β : Type} {x : α} {f : α → Option β} {o : β} (h : zlet x f = some o) : ∃ y, x = y ∧ f y = some o := ⟨x, rfl, h⟩
theorem zh_if {β : Type} {c : Bool} {a : Option β} {o : β} (h : (if c = true then a else none) = some o) : c = true ∧ a = some o := by
  by_cases q : c = true
  · rw [if_pos q] at h; exact ⟨q, h⟩
  · rw [if_neg q] at h; cases h
theorem zh_ne {β : Type} {w : Int32} {a : Option β} {o : β} (h : (if w = 0 then none else a) = some o) : ¬ w = 0 ∧ a = some o := by
  by_cases q : w = 0
  · rw [if_pos q] at h; cases h
  · rw [if_neg q] at h; exact ⟨q, h⟩
theorem zh_nel {β : Type} {w : Int64} {a : Option β} {o : β} (h : (if w = 0 then none else a) = some o) : ¬ w = 0 ∧ a = some o := by
  by_cases q : w = 0
  · rw [if_pos q] at h; cases h
  · rw [if_neg q] at h; exact ⟨q, h⟩
theorem zh_t {β : Type} {c : Prop} {i : Decidable c} {a b : Option β} {o : β} (hc : c) (h : (@ite _ c i a b) = some o) : a = some o := by rw [if_pos hc] at h; exact h
theorem zh_f {β : Type} {c : Prop} {i : Decidable c} {a b : Option β} {o : β} (hc : ¬ c) (h : (@ite _ c i a b) = some o) : b = some o := by rw [if_neg hc] at h; exact h
theorem zh_bind {α β : Type} {x : Option α} {f : α → Option β} {o : β} (h : x.bind f = some o) : ∃ t, x = some t ∧ f t = some o := by
  cases x with
  | none => cases h
  | some t => exact ⟨t, rfl, h⟩
def zOi (o : Int32 × zI × zJ) : zPost := fun r μ ν => r = some (.int o.1) ∧ μ = o.2.1 ∧ ν = o.2.2
def zOl (o : Int64 × zI × zJ) : zPost := fun r μ ν => r = some (.long o.1) ∧ μ = o.2.1 ∧ ν = o.2.2
def zOv (o : zI × zJ) : zPost := fun r μ ν => r = none ∧ μ = o.1 ∧ ν = o.2
/-- the shapes -/
def stS (b : Nat) : List zSE := [.inl (3, [0, 0, b + 1 + 2, b + 3 + 2, b + 9 + 2, b + 11 + 2, b + 12 + 2, b + 13 + 2, b + 14 + 2]), .inl (4, [b + 2 + 2]), .inr (0, 19), .inl (5, [0, 0, 0, b + 4 + 2, b + 5 + 2, b + 6 + 2, b + 7 + 2, b + 8 + 2]), .inr (0, 6), .inr (0, 6), .inr (0, 6), .inr (0, 6), .inr (0, 1000), .inl (6, [0, 0, b + 10 + 2]), .inr (0, 96), .inl (7, [0, 0, 0, 0, 0, 0, 0, 0, 0, 0, 0, 0, 0]), .inl (8, [0, 0, 0, 0, 0, 0]), .inl (9, [0, 0, 0, 0, 0, 0, 0, 0]), .inr (1, 11)]
def roS : List zSE := [.inl (0, [1 + 2, 3 + 2, 4 + 2, 19 + 2, 34 + 2]), .inl (1, [2 + 2, 0]), .inr (2, 900), .inl (2, [0, 0, 1 + 2, 0, 0, 0, 0, 0])] ++ (stS 4 ++ (stS 19 ++ [.inl (10, [0, 0, 35 + 2]), .inr (0, 1000)]))
def moS (q : Nat) : List zSE := [.inl (11, [0, q + 1 + 2, 0, q + 2 + 2, q + 3 + 2, 0, 0, q + 4 + 2, q + 5 + 2, 0, 0, q + 6 + 2, 0, 0, 0, 0, 0, 0, 0, 0, 0, 0, 0, q + 7 + 2, q + 8 + 2, q + 9 + 2, q + 10 + 2, q + 11 + 2, 0, 0, 0, 0, 0, 0, 0]), .inr (0, 900), .inr (0, 19), .inr (3, 5), .inr (0, 12), .inr (0, 12), .inr (0, 96), .inr (0, 146), .inr (0, 146), .inr (1, 11), .inr (1, 11), .inr (0, 1000)]
def zSt (sh : List zSE) (b : Nat) : Prop := ∀ (j : Nat) (e : zSE), (stS b)[j]? = some e → sh[b + j]? = some e
def zRo (sh : List zSE) : Prop := ∀ (j : Nat) (e : zSE), roS[j]? = some e → sh[j]? = some e
def zMo (sh : List zSE) (q : Nat) : Prop := ∀ (j : Nat) (e : zSE), (moS q)[j]? = some e → sh[q + j]? = some e
theorem zRo_4 {sh : List zSE} (h : zRo sh) : zSt sh 4 := fun j e he => h (4 + j) e (by
  have hj : j < 15 := (List.getElem?_eq_some_iff.mp he).1
  rcases (show j = 0 ∨ j = 1 ∨ j = 2 ∨ j = 3 ∨ j = 4 ∨ j = 5 ∨ j = 6 ∨ j = 7 ∨ j = 8 ∨ j = 9 ∨ j = 10 ∨ j = 11 ∨ j = 12 ∨ j = 13 ∨ j = 14 by omega) with rfl | rfl | rfl | rfl | rfl | rfl | rfl | rfl | rfl | rfl | rfl | rfl | rfl | rfl | rfl <;> exact he)
theorem zRo_19 {sh : List zSE} (h : zRo sh) : zSt sh 19 := fun j e he => h (19 + j) e (by
  have hj : j < 15 := (List.getElem?_eq_some_iff.mp he).1
  rcases (show j = 0 ∨ j = 1 ∨ j = 2 ∨ j = 3 ∨ j = 4 ∨ j = 5 ∨ j = 6 ∨ j = 7 ∨ j = 8 ∨ j = 9 ∨ j = 10 ∨ j = 11 ∨ j = 12 ∨ j = 13 ∨ j = 14 by omega) with rfl | rfl | rfl | rfl | rfl | rfl | rfl | rfl | rfl | rfl | rfl | rfl | rfl | rfl | rfl <;> exact he)
theorem CL_fin (ci k : Nat) (h : ∀ q, CL[ci]? = some q → (q.2.1 k).2.2.2 = false) : ∀ C T N, CL[ci]? = some (C, T, N) → (T k).2.2.2 = false := fun C T N hc => h (C, T, N) hc
section ZSW
variable {l : Launch} {D : va_G} {dA : Nat → ClassId} {ad : Nat → Nat} {sh : List zSE} {y : zM} {R : Room} {X : (Nat → Prop) → State → Prop} {Q : zPost} {mc ms cells slots : Nat} {xw : va_W} {pc : Nat} {L : List (Nat × Value)} {S : List Value} {μ : zI} {ν : zJ}
theorem z_tabIn {dflt lo hi off : Int} {offs : Array Int} {len tgt : Nat} {x : Int32} (hd : decode y.2.1 pc = .ok (.tableswitch dflt lo hi offs, len)) (v : Int32) (hx : x = v) (h1 : ¬ v.toInt < lo) (h2 : ¬ hi < v.toInt) (ho : offs[(v.toInt - lo).toNat]? = some off) (htg : (pc : Int) + off = (tgt : Int))
    (kk : Z l D dA ad sh y R X Q mc ms cells slots xw tgt L S μ ν) : Z l D dA ad sh y R X Q mc ms cells slots xw pc L (.int x :: S) μ ν := by
  subst hx
  exact Z.row (fun p e s m args below meth c H locs ls A Qs hx hb ht hown hX0 h9 k9 => lv_tableIn hx hb hd h1 h2 ho htg k9) kk
theorem z_tabOut {dflt lo hi : Int} {offs : Array Int} {len tgt : Nat} {x : Int32} (hd : decode y.2.1 pc = .ok (.tableswitch dflt lo hi offs, len)) (vs : List Int32) (hne : ∀ v ∈ vs, ¬ x = v) (hv : (List.range (hi - lo + 1).toNat).map (fun k : Nat => Int32.ofInt (lo + (k : Int))) = vs) (htg : (pc : Int) + dflt = (tgt : Int))
    (kk : Z l D dA ad sh y R X Q mc ms cells slots xw tgt L S μ ν) : Z l D dA ad sh y R X Q mc ms cells slots xw pc L (.int x :: S) μ ν := by
  refine Z.row (fun p e s m args below meth c H locs ls A Qs hx hb ht hown hX0 h9 k9 => lv_tableOut hx hb hd ?_ htg k9) kk
  by_cases h : x.toInt < lo ∨ hi < x.toInt
  · exact h
  · exfalso
    have h1 : ¬ x.toInt < lo := fun q => h (Or.inl q)
    have h2 : ¬ hi < x.toInt := fun q => h (Or.inr q)
    refine hne x ?_ rfl
    rw [← hv]
    refine List.mem_map.mpr ⟨(x.toInt - lo).toNat, List.mem_range.mpr (by omega), ?_⟩
    rw [show lo + ((x.toInt - lo).toNat : Int) = x.toInt by omega, Int32.ofInt_toInt]
theorem z_eql {x v : Int64} (h : x = v) (kk : Z l D dA ad sh y R X Q mc ms cells slots xw pc L (.long v :: S) μ ν) : Z l D dA ad sh y R X Q mc ms cells slots xw pc L (.long x :: S) μ ν := h ▸ kk
theorem z_eqn {ν' : zJ} (h : ν = ν') (kk : Z l D dA ad sh y R X Q mc ms cells slots xw pc L S μ ν') : Z l D dA ad sh y R X Q mc ms cells slots xw pc L S μ ν := h ▸ kk
end ZSW
def zcp (sp n : Int32) (ln : Nat) : Bool := decide (0 ≤ sp) && (decide (0 ≤ n) && decide (sp.toNatClampNeg + n.toNatClampNeg ≤ ln))
theorem zcp_a {sp n : Int32} {ln : Nat} (h : zcp sp n ln = true) : ¬ sp < 0 := by
  simp only [zcp, Bool.and_eq_true, decide_eq_true_eq] at h
  exact Int32.not_lt.mpr h.1
theorem zcp_b {sp n : Int32} {ln : Nat} (h : zcp sp n ln = true) : ¬ n < 0 := by
  simp only [zcp, Bool.and_eq_true, decide_eq_true_eq] at h
  exact Int32.not_lt.mpr h.2.1
theorem zcp_c {sp n : Int32} {ln : Nat} (h : zcp sp n ln = true) : sp.toNatClampNeg + n.toNatClampNeg ≤ ln := by
  simp only [zcp, Bool.and_eq_true, decide_eq_true_eq] at h
  exact h.2.2
def m_fill_I : zM := (⟨"java/util/Arrays", "fill", "([II)V"⟩, prog_31_method_103_code, 4, none)
theorem ms_fill_I : zMs m_fill_I 2 := ⟨⟨(zt1 12 (by decide +kernel) rfl), (zt2 117 (by decide +kernel) rfl), by decide, by decide, rfl⟩, (zt2 116 (by decide +kernel) rfl)⟩
def m_fill_J : zM := (⟨"java/util/Arrays", "fill", "([JJ)V"⟩, prog_31_method_101_code, 5, none)
theorem ms_fill_J : zMs m_fill_J 2 := ⟨⟨(zt1 12 (by decide +kernel) rfl), (zt2 99 (by decide +kernel) rfl), by decide, by decide, rfl⟩, (zt2 98 (by decide +kernel) rfl)⟩
theorem zr_fill (μ : zI) (r k n : Nat) (v : Int32) : zu (zr μ r (fun j => if j < k then v else μ r j)) r k v = zr μ r (fun j => if j < k + 1 then v else μ r j) := by
  funext r' j
  by_cases h1 : r' = r
  · subst h1
    by_cases h2 : j = k
    · subst h2; simp [zu, zr]
    · by_cases h3 : j < k
      · simp [zu, zr, h2, h3, Nat.lt_succ_of_lt h3]
      · have h4 : ¬ j < k + 1 := by omega
        simp [zu, zr, h2, h3, h4]
  · simp [zu, zr, h1]
theorem zrl_fill (ν : zJ) (r k n : Nat) (v : Int64) : zul (zrl ν r (fun j => if j < k then v else ν r j)) r k v = zrl ν r (fun j => if j < k + 1 then v else ν r j) := by
  funext r' j
  by_cases h1 : r' = r
  · subst h1
    by_cases h2 : j = k
    · subst h2; simp [zul, zrl]
    · by_cases h3 : j < k
      · simp [zul, zrl, h2, h3, Nat.lt_succ_of_lt h3]
      · have h4 : ¬ j < k + 1 := by omega
        simp [zul, zrl, h2, h3, h4]
  · simp [zul, zrl, h1]
theorem zr_self (μ : zI) (r : Nat) (v : Int32) : zr μ r (fun j => if j < 0 then v else μ r j) = μ := by
  funext r' j
  by_cases h1 : r' = r
  · subst h1; simp [zr]
  · simp [zr, h1]
theorem zrl_self (ν : zJ) (r : Nat) (v : Int64) : zrl ν r (fun j => if j < 0 then v else ν r j) = ν := by
  funext r' j
  by_cases h1 : r' = r
  · subst h1; simp [zrl]
  · simp [zrl, h1]
theorem d_fill_I_0 : decode m_fill_I.2.1 0 = .ok (.iconst 0, 1) := by decide +kernel
theorem d_fill_I_1 : decode m_fill_I.2.1 1 = .ok (.istore_n 2, 1) := by decide +kernel
theorem d_fill_I_2 : decode m_fill_I.2.1 2 = .ok (.aload_n 0, 1) := by decide +kernel
theorem d_fill_I_3 : decode m_fill_I.2.1 3 = .ok (.arraylength, 1) := by decide +kernel
theorem d_fill_I_4 : decode m_fill_I.2.1 4 = .ok (.istore_n 3, 1) := by decide +kernel
theorem d_fill_I_5 : decode m_fill_I.2.1 5 = .ok (.iload_n 2, 1) := by decide +kernel
theorem d_fill_I_6 : decode m_fill_I.2.1 6 = .ok (.iload_n 3, 1) := by decide +kernel
theorem d_fill_I_7 : decode m_fill_I.2.1 7 = .ok (.if_icmp .ge 13, 3) := by decide +kernel
theorem d_fill_I_10 : decode m_fill_I.2.1 10 = .ok (.aload_n 0, 1) := by decide +kernel
theorem d_fill_I_11 : decode m_fill_I.2.1 11 = .ok (.iload_n 2, 1) := by decide +kernel
theorem d_fill_I_12 : decode m_fill_I.2.1 12 = .ok (.iload_n 1, 1) := by decide +kernel
theorem d_fill_I_13 : decode m_fill_I.2.1 13 = .ok (.iastore, 1) := by decide +kernel
theorem d_fill_I_14 : decode m_fill_I.2.1 14 = .ok (.iinc 2 1, 3) := by decide +kernel
theorem d_fill_I_17 : decode m_fill_I.2.1 17 = .ok (.goto (-12), 3) := by decide +kernel
theorem d_fill_I_20 : decode m_fill_I.2.1 20 = .ok (.return_, 1) := by decide +kernel
theorem d_fill_J_0 : decode m_fill_J.2.1 0 = .ok (.iconst 0, 1) := by decide +kernel
theorem d_fill_J_1 : decode m_fill_J.2.1 1 = .ok (.istore_n 3, 1) := by decide +kernel
theorem d_fill_J_2 : decode m_fill_J.2.1 2 = .ok (.aload_n 0, 1) := by decide +kernel
theorem d_fill_J_3 : decode m_fill_J.2.1 3 = .ok (.arraylength, 1) := by decide +kernel
theorem d_fill_J_4 : decode m_fill_J.2.1 4 = .ok (.istore 4, 2) := by decide +kernel
theorem d_fill_J_6 : decode m_fill_J.2.1 6 = .ok (.iload_n 3, 1) := by decide +kernel
theorem d_fill_J_7 : decode m_fill_J.2.1 7 = .ok (.iload 4, 2) := by decide +kernel
theorem d_fill_J_9 : decode m_fill_J.2.1 9 = .ok (.if_icmp .ge 13, 3) := by decide +kernel
theorem d_fill_J_12 : decode m_fill_J.2.1 12 = .ok (.aload_n 0, 1) := by decide +kernel
theorem d_fill_J_13 : decode m_fill_J.2.1 13 = .ok (.iload_n 3, 1) := by decide +kernel
theorem d_fill_J_14 : decode m_fill_J.2.1 14 = .ok (.lload_n 1, 1) := by decide +kernel
theorem d_fill_J_15 : decode m_fill_J.2.1 15 = .ok (.lastore, 1) := by decide +kernel
theorem d_fill_J_16 : decode m_fill_J.2.1 16 = .ok (.iinc 3 1, 3) := by decide +kernel
theorem d_fill_J_19 : decode m_fill_J.2.1 19 = .ok (.goto (-13), 3) := by decide +kernel
theorem d_fill_J_22 : decode m_fill_J.2.1 22 = .ok (.return_, 1) := by decide +kernel
theorem z_fill_I_5 {l : Launch} {D : va_G} {dA : Nat → ClassId} {ad : Nat → Nat} {sh : List zSE} {μ : zI} {ν : zJ} {r n : Nat} {v : Int32} (hs : sh[r]? = some (.inr (0, n))) (hn : n < 2 ^ 31) : ∀ (j k : Nat), k + j = n → Z l D dA ad sh m_fill_I (zR 0 0 0) (zS ad) (zOv (zr μ r (fun j => if j < n then v else μ r j), ν)) 0 0 0 0 [] 5 [(3, .int (nI n)), (2, .int (nI k)), (0, .ref (ad r)), (1, .int v)] [] (zr μ r (fun j => if j < k then v else μ r j)) ν := by
  intro j
  induction j with
  | zero =>
    intro k hk
    have : k = n := by omega
    subst this
    refine z_iload_n d_fill_I_5 1 rfl rfl ?_
    refine z_iload_n d_fill_I_6 0 rfl rfl ?_
    refine z_icmp_ge d_fill_I_7 (tgt := 20) (by decide) (fun c => ?_) (fun c => absurd (nI_le (Nat.le_refl _) hn) c)
    exact z_return d_fill_I_20 rfl ⟨rfl, rfl, rfl⟩
  | succ j ih =>
    intro k hk
    have hkn : k < n := by omega
    refine z_iload_n d_fill_I_5 1 rfl rfl ?_
    refine z_iload_n d_fill_I_6 0 rfl rfl ?_
    refine z_icmp_ge d_fill_I_7 (tgt := 20) (by decide) (fun c => absurd c (nI_ge hkn hn)) (fun c => ?_)
    refine z_aload_n d_fill_I_10 2 rfl rfl ?_
    refine z_iload_n d_fill_I_11 1 rfl rfl ?_
    refine z_iload_n d_fill_I_12 3 rfl rfl ?_
    refine z_iast d_fill_I_13 hs (vp_in_nI hkn hn) ?_
    rw [nI_clamp (by omega), zr_fill μ r k n v]
    refine z_iinc d_fill_I_14 (k := 1) (v := nI (k + 1)) rfl (nI_1 k) (by decide) (L2 := [(2, .int (nI (k + 1))), (3, .int (nI n)), (0, .ref (ad r)), (1, .int v)]) rfl ?_
    refine z_goto d_fill_I_17 (tgt := 5) (by decide) ?_
    refine z_sub [1, 0, 2, 3] rfl ?_
    exact ih (k + 1) (by omega)
theorem c_fill_I {l : Launch} {D : va_G} {dA : Nat → ClassId} {ad : Nat → Nat} {sh : List zSE} {μ : zI} {ν : zJ} {r n : Nat} {v : Int32} (hs : sh[r]? = some (.inr (0, n))) (hn : n < 2 ^ 31) : zC l D dA ad sh m_fill_I 0 0 0 [.ref (ad r), .int v] μ ν (zOv (zr μ r (fun j => if j < n then v else μ r j), ν)) := by
  refine zC.of (by decide) (Nat.le_of_ble_eq_true rfl) ?_
  show Z _ _ _ _ _ _ _ _ _ _ _ _ _ _ 0 [(0, .ref (ad r)), (1, .int v)] _ _ _
  refine z_iconst d_fill_I_0 (v := 0) (by decide) ?_
  refine z_istore_n d_fill_I_1 rfl (by decide) (L2 := [(2, .int 0), (0, .ref (ad r)), (1, .int v)]) rfl ?_
  refine z_aload_n d_fill_I_2 1 rfl rfl ?_
  refine z_alen d_fill_I_3 hs (by decide) (v := nI n) rfl ?_
  refine z_istore_n d_fill_I_4 rfl (by decide) (L2 := [(3, .int (nI n)), (2, .int 0), (0, .ref (ad r)), (1, .int v)]) rfl ?_
  have h := z_fill_I_5 (l := l) (D := D) (dA := dA) (ad := ad) (μ := μ) (ν := ν) (v := v) hs hn n 0 (by omega)
  rw [zr_self] at h
  exact h
theorem z_fill_J_6 {l : Launch} {D : va_G} {dA : Nat → ClassId} {ad : Nat → Nat} {sh : List zSE} {μ : zI} {ν : zJ} {r n : Nat} {v : Int64} (hs : sh[r]? = some (.inr (1, n))) (hn : n < 2 ^ 31) : ∀ (j k : Nat), k + j = n → Z l D dA ad sh m_fill_J (zR 0 0 0) (zS ad) (zOv (μ, zrl ν r (fun j => if j < n then v else ν r j))) 0 0 0 0 [] 6 [(4, .int (nI n)), (3, .int (nI k)), (0, .ref (ad r)), (1, .long v)] [] μ (zrl ν r (fun j => if j < k then v else ν r j)) := by
  intro j
  induction j with
  | zero =>
    intro k hk
    have : k = n := by omega
    subst this
    refine z_iload_n d_fill_J_6 1 rfl rfl ?_
    refine z_iload d_fill_J_7 0 rfl ?_
    refine z_icmp_ge d_fill_J_9 (tgt := 22) (by decide) (fun c => ?_) (fun c => absurd (nI_le (Nat.le_refl _) hn) c)
    exact z_return d_fill_J_22 rfl ⟨rfl, rfl, rfl⟩
  | succ j ih =>
    intro k hk
    have hkn : k < n := by omega
    refine z_iload_n d_fill_J_6 1 rfl rfl ?_
    refine z_iload d_fill_J_7 0 rfl ?_
    refine z_icmp_ge d_fill_J_9 (tgt := 22) (by decide) (fun c => absurd c (nI_ge hkn hn)) (fun c => ?_)
    refine z_aload_n d_fill_J_12 2 rfl rfl ?_
    refine z_iload_n d_fill_J_13 1 rfl rfl ?_
    refine z_lload_n d_fill_J_14 3 rfl rfl ?_
    refine z_last d_fill_J_15 hs (vp_in_nI hkn hn) ?_
    rw [nI_clamp (by omega), zrl_fill ν r k n v]
    refine z_iinc d_fill_J_16 (k := 1) (v := nI (k + 1)) rfl (nI_1 k) (by decide) (L2 := [(3, .int (nI (k + 1))), (4, .int (nI n)), (0, .ref (ad r)), (1, .long v)]) rfl ?_
    refine z_goto d_fill_J_19 (tgt := 6) (by decide) ?_
    refine z_sub [1, 0, 2, 3] rfl ?_
    exact ih (k + 1) (by omega)
theorem c_fill_J {l : Launch} {D : va_G} {dA : Nat → ClassId} {ad : Nat → Nat} {sh : List zSE} {μ : zI} {ν : zJ} {r n : Nat} {v : Int64} (hs : sh[r]? = some (.inr (1, n))) (hn : n < 2 ^ 31) : zC l D dA ad sh m_fill_J 0 0 0 [.ref (ad r), .long v] μ ν (zOv (μ, zrl ν r (fun j => if j < n then v else ν r j))) := by
  refine zC.of (by decide) (Nat.le_of_ble_eq_true rfl) ?_
  show Z _ _ _ _ _ _ _ _ _ _ _ _ _ _ 0 [(0, .ref (ad r)), (1, .long v)] _ _ _
  refine z_iconst d_fill_J_0 (v := 0) (by decide) ?_
  refine z_istore_n d_fill_J_1 rfl (by decide) (L2 := [(3, .int 0), (0, .ref (ad r)), (1, .long v)]) rfl ?_
  refine z_aload_n d_fill_J_2 1 rfl rfl ?_
  refine z_alen d_fill_J_3 hs (by decide) (v := nI n) rfl ?_
  refine z_istore d_fill_J_4 (by decide) (L2 := [(4, .int (nI n)), (3, .int 0), (0, .ref (ad r)), (1, .long v)]) rfl ?_
  have h := z_fill_J_6 (l := l) (D := D) (dA := dA) (ad := ad) (μ := μ) (ν := ν) (v := v) hs hn n 0 (by omega)
  rw [zrl_self] at h
  exact h
