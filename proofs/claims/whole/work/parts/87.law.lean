/-! The law from its entry to its loop. -/
section LG
variable {l : Launch} {D : va_G} {dA : Nat → ClassId} {ad : Nat → Nat} {sh : List zSE} {y : zM} {R : Room} {X : (Nat → Prop) → State → Prop} {ini : Method → Code → Prop} {QF : zQF} {cells slots : Nat} {pc : Nat} {L : List (Nat × Value)} {S : List Value} {μ : zI} {ν : zJ}
theorem g_astore_n {k : Fin 4} {i : Nat} {x : Nat} {L2 : List (Nat × Value)} (hd : decode y.2.1 pc = .ok (.astore_n k, 1)) (hi : (k : Nat) = i) (hn : i < y.2.2.1) (hL : (i, Value.ref x) :: L.filter (fun q => !(q.1 == i) && !(q.1 + 1 == i && q.2.category == 2)) = L2)
    (kk : G l D dA ad sh y R X ini QF cells slots (pc + 1) L2 S μ ν) : G l D dA ad sh y R X ini QF cells slots pc L (.ref x :: S) μ ν := by
  intro p e s m args below meth c H locs ls A h0 hj h1
  obtain ⟨hS, hP, hK, hD, hl⟩ := h1
  exact lv_astore_n h0.1 h0.2.1 hd hi hl hn hL (fun ls2 hl2 => kk p e s m args below meth c H locs ls2 A h0 hj ⟨hS, hP, hK, hD, hl2⟩)
theorem g_istore {i : Nat} {x : Int32} {L2 : List (Nat × Value)} (hd : decode y.2.1 pc = .ok (.istore i, 2)) (hn : i < y.2.2.1) (hL : (i, Value.int x) :: L.filter (fun q => !(q.1 == i) && !(q.1 + 1 == i && q.2.category == 2)) = L2)
    (kk : G l D dA ad sh y R X ini QF cells slots (pc + 2) L2 S μ ν) : G l D dA ad sh y R X ini QF cells slots pc L (.int x :: S) μ ν := by
  intro p e s m args below meth c H locs ls A h0 hj h1
  obtain ⟨hS, hP, hK, hD, hl⟩ := h1
  exact lv_istore h0.1 h0.2.1 hd hl hn hL (fun ls2 hl2 => kk p e s m args below meth c H locs ls2 A h0 hj ⟨hS, hP, hK, hD, hl2⟩)
end LG
def QFW : zQF := fun A s args below => MQ below (fun _ _ o _ => o = .returned (some (.int 1))) args s 601024 7293034 A
theorem g_ofZW {l : Launch} {D : va_G} {dA : Nat → ClassId} {ad : Nat → Nat} {X : (Nat → Prop) → State → Prop} {ini : Method → Code → Prop} {cells slots pc b N : Nat} {xs : Nat → Int32} {L : List (Nat × Value)} {S : List Value} {μ : zI} {ν : zJ} (hX : ∀ A s, X A s → XW ad b N xs A s) (hz : ZW l D dA ad b N xs cells slots pc L S μ ν) : G l D dA ad shW m_law room_1 X ini QFW cells slots pc L S μ ν := by
  intro p e s m args below meth c H locs ls A h0 _ h1
  obtain ⟨hx, hb, hm, hr, ht, ho, hk, hA, hX0⟩ := h0
  intro T hT X1
  obtain ⟨t, a1, o, b1, b2, ⟨⟨r, μ', ν', he, hq, -⟩, -⟩, b4⟩ := hz p e s m args below meth c H locs ls A ⟨hx, hb, hm, hr, ht, ho, hk, hA, hX A s hX0⟩ h1 T hT X1
  exact ⟨t, a1, o, b1, b2, by rw [he, hq], b4⟩
theorem XW.congr {ad ad' : Nat → Nat} {b N : Nat} {xs : Nat → Int32} {A : Nat → Prop} {U : State} (h : XW ad b N xs A U) (e : ∀ k, 1000000 ≤ k → ad' k = ad k) : XW ad' b N xs A U := ⟨h.1.congr e, h.2⟩
theorem FC.fr {μ μ' : zI} {ν ν' : zJ} (h : FC μ ν) (e : ∀ r, r < 36 → μ' r = μ r ∧ ν' r = ν r) : FC μ' ν' := by
  obtain ⟨h0, h1, h2, h3, h4, h5⟩ := h
  refine ⟨h0.fr (fun r _ h => (e r (by omega)).1) (e _ (by decide)).2, ?_, ?_, ?_, ?_, ?_⟩
  · rw [(e 1 (by decide)).1]; exact h1
  · rw [(e 3 (by decide)).1]; exact h2
  · rw [(e 3 (by decide)).1]; exact h3
  · rw [(e 34 (by decide)).1]; exact h4
  · rw [(e 34 (by decide)).1]; exact h5
theorem zCl_nil : zCl [] := fun r ci fks h => absurd h (by simp)
theorem roS_l : roS.length = 36 := rfl
theorem rmS_l : (roS ++ moS 36).length = 48 := rfl
set_option maxRecDepth 40000 in
set_option maxHeartbeats 2000000 in
theorem law_G {l : Launch} {D : va_G} {dA : Nat → ClassId} {ad : Nat → Nat} {b N : Nat} {xs : Nat → Int32} {μ : zI} {ν : zJ} (hfl : l.stackTraces = false) (hN : N ≤ 3072) : G l D dA ad [] m_law room_1 (XW ad b N xs) (fun _ _ => True) QFW 0 0 0 [(0, .ref b)] [] μ ν := by
  refine r_new (n := 0) rfl dW_0 nw_S rfl (zt1 28 (by decide +kernel) rfl) zCl_nil ⟨(Nat.le_of_ble_eq_true rfl), (Nat.le_of_ble_eq_true rfl)⟩ (fun q1 ad1 μ1 ν1 e1 f1 m1 z1 c1 => ?_)
  refine g_dup dW_3 rfl ?_
  have x1 : ∀ k, 1000000 ≤ k → ad1 k = ad k := fun k hk => f1 k (by omega)
  refine g_callI (As := []) dW_4 (mk_S c1 e1) md_S_init rfl rfl (zt1 31 (by decide +kernel) rfl) (zt1 30 (by decide +kernel) rfl) (fun A s h => h.1.1.congr x1) rfl ⟨(Nat.le_of_ble_eq_true rfl), (Nat.le_of_ble_eq_true rfl)⟩ ⟨(Nat.le_of_ble_eq_true rfl), (Nat.le_of_ble_eq_true rfl)⟩ rfl (Nat.le_of_ble_eq_true rfl) (fun ad2 sh2 μ2 ν2 hP => ?_)
  obtain ⟨rfl, c2, g2, F2⟩ := hP
  have a2 : ad2 0 = q1 := (g2 0 (Or.inl rfl)).trans e1
  have x2 : ∀ k, 1000000 ≤ k → ad2 k = ad k := fun k hk => (g2 k (Or.inr hk)).trans (x1 k hk)
  refine g_astore_n (i := 1) (L2 := [(1, .ref q1), (0, .ref b)]) dW_7 rfl (by decide) rfl ?_
  refine r_new (n := 36) roS_l dW_8 nw_M rfl (zt5 194 (by decide +kernel) rfl) c2 ⟨(Nat.le_of_ble_eq_true rfl), (Nat.le_of_ble_eq_true rfl)⟩ (fun q3 ad3 μ3 ν3 e3 f3 m3 z3 c3 => ?_)
  refine g_dup dW_11 rfl ?_
  have x3 : ∀ k, 1000000 ≤ k → ad3 k = ad k := fun k hk => (f3 k (by omega)).trans (x2 k hk)
  refine g_callI (As := []) dW_12 (mk_M (sh0 := roS) (b := 36) roS_l (by decide) c3 e3 z3) md_M_init rfl rfl (zt5 197 (by decide +kernel) rfl) (zt5 196 (by decide +kernel) rfl) (fun A s h => h.1.1.congr x3) rfl ⟨(Nat.le_of_ble_eq_true rfl), (Nat.le_of_ble_eq_true rfl)⟩ ⟨(Nat.le_of_ble_eq_true rfl), (Nat.le_of_ble_eq_true rfl)⟩ rfl (Nat.le_of_ble_eq_true rfl) (fun ad4 sh4 μ4 ν4 hP => ?_)
  obtain ⟨rfl, c4, g4, h4, R4⟩ := hP
  have x4 : ∀ k, 1000000 ≤ k → ad4 k = ad k := fun k hk => (g4 k (Or.inr hk)).trans (x3 k hk)
  refine g_astore_n (i := 2) (L2 := [(2, .ref q3), (1, .ref q1), (0, .ref b)]) dW_15 rfl (by decide) rfl ?_
  refine g_iconst dW_16 (v := 1) (by decide) ?_
  refine g_newa dW_17 at_long (N := 1) (by decide) (by decide) (by decide) c4 ⟨(Nat.le_of_ble_eq_true rfl), (Nat.le_of_ble_eq_true rfl)⟩ (fun q5 ad5 μ5 ν5 e5 f5 m5 z5 n5 w5 c5 => ?_)
  rw [rmS_l] at e5 f5 m5 z5 n5 w5
  have x5 : ∀ k, 1000000 ≤ k → ad5 k = ad k := fun k hk => (e5 k (by omega)).trans (x4 k hk)
  refine g_astore_n (i := 3) (L2 := [(3, .ref q5), (2, .ref q3), (1, .ref q1), (0, .ref b)]) dW_19 rfl (by decide) rfl ?_
  refine g_iconst dW_20 (v := 0) (by decide) ?_
  refine g_istore (i := 4) (L2 := [(4, .int 0), (3, .ref q5), (2, .ref q3), (1, .ref q1), (0, .ref b)]) dW_21 (by decide) rfl ?_
  have b0 : ad5 0 = q1 := by rw [e5 0 (by decide), g4 0 (Or.inl (by decide)), f3 0 (by decide)]; exact a2
  have b36 : ad5 36 = q3 := by rw [e5 36 (by decide), g4 36 (Or.inl (by decide))]; exact e3
  have hL : ([(4, .int 0), (3, .ref q5), (2, .ref q3), (1, .ref q1), (0, .ref b)] : List (Nat × Value)) = lw ad5 b 0 := by
    rw [lw, b0, b36, f5]
    rfl
  rw [hL, List.append_assoc]
  have hF : FC μ5 ν5 := F2.fr (fun r hr => ⟨by rw [m5 r (by omega), (h4 r hr).1, (m3 r hr).1], by rw [n5 r (by omega), (h4 r hr).2, (m3 r hr).2]⟩)
  have hR : R1 μ5 ν5 := ⟨0, 0, 0, (R4 μ5 ν5 hF).cg2 (fun _ _ => rfl) rfl (fun r h1 h2 => m5 r (by omega)) (n5 _ (by decide))⟩
  refine g_ofZW (fun A s h => h.congr x5) ?_
  refine loop_W hfl hN (N / 6) 0 _ _ μ5 ν5 (by omega) (by omega) hR ?_ ?_
  · omega
  · omega
