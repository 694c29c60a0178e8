/-! Constructors. -/
def kC (ad0 : Nat → Nat) (μ0 : zI) (ν0 : zJ) (b n : Nat) (ad : Nat → Nat) (μ : zI) (ν : zJ) : Prop := (∀ r, r ≤ b ∨ 1000000 ≤ r → ad r = ad0 r) ∧ (∀ r, r ≤ b → μ r = μ0 r ∧ ν r = ν0 r) ∧ ∀ r, b < r → r < n → ∀ k, μ r k = 0 ∧ ν r k = 0
def kP (ad0 : Nat → Nat) (sh0 : List zSE) (b : Nat) (μ0 : zI) (ν0 : zJ) (tl : List zSE) : zPK := fun ad' sh' μ' ν' => sh' = sh0 ++ tl ∧ zCl sh' ∧ kC ad0 μ0 ν0 b (b + tl.length) ad' μ' ν'
theorem kC.rf {ad0 : Nat → Nat} {μ0 : zI} {ν0 : zJ} {b : Nat} : kC ad0 μ0 ν0 b (b + 1) ad0 μ0 ν0 := ⟨fun _ _ => rfl, fun _ _ => ⟨rfl, rfl⟩, fun r h1 h2 => by omega⟩
theorem kC.new {ad0 ad ad' : Nat → Nat} {μ0 μ μ' : zI} {ν0 ν ν' : zJ} {b n : Nat} (h : kC ad0 μ0 ν0 b n ad μ ν) (hb : b < n) (h6 : n < 1000000) (e1 : ∀ r, r ≠ n → ad' r = ad r) (e3 : ∀ r, r ≠ n → μ' r = μ r) (e4 : ∀ k, μ' n k = 0) (e5 : ∀ r, r ≠ n → ν' r = ν r) (e6 : ∀ k, ν' n k = 0) : kC ad0 μ0 ν0 b (n + 1) ad' μ' ν' := by
  obtain ⟨h1, h2, h3⟩ := h
  refine ⟨fun r hr => (e1 r (by omega)).trans (h1 r hr), fun r hr => ⟨(e3 r (by omega)).trans (h2 r hr).1, (e5 r (by omega)).trans (h2 r hr).2⟩, fun r g1 g2 k => ?_⟩
  by_cases e : r = n
  · subst e; exact ⟨e4 k, e6 k⟩
  · rw [e3 r e, e5 r e]; exact h3 r g1 (by omega) k
theorem kC.call {ad0 ad ad' : Nat → Nat} {μ0 μ μ' : zI} {ν0 ν ν' : zJ} {b n t : Nat} (h : kC ad0 μ0 ν0 b (n + 1) ad μ ν) (hb : b < n) (g : kC ad μ ν n (n + t) ad' μ' ν') : kC ad0 μ0 ν0 b (n + t) ad' μ' ν' := by
  obtain ⟨h1, h2, h3⟩ := h
  obtain ⟨g1, g2, g3⟩ := g
  refine ⟨fun r hr => (g1 r (by omega)).trans (h1 r hr), fun r hr => ⟨(g2 r (by omega)).1.trans (h2 r hr).1, (g2 r (by omega)).2.trans (h2 r hr).2⟩, fun r a1 a2 k => ?_⟩
  by_cases e : r ≤ n
  · rw [(g2 r e).1, (g2 r e).2]; exact h3 r a1 (by omega) k
  · exact g3 r (by omega) a2 k
theorem kC.put {ad0 ad : Nat → Nat} {μ0 μ : zI} {ν0 ν : zJ} {b n k : Nat} {v : Int32} (h : kC ad0 μ0 ν0 b n ad μ ν) : kC ad0 (zu μ0 b k v) ν0 b n ad (zu μ b k v) ν := by
  obtain ⟨h1, h2, h3⟩ := h
  refine ⟨h1, fun r hr => ⟨?_, (h2 r hr).2⟩, fun r g1 g2 k => by rw [zgr (by omega)]; exact h3 r g1 g2 k⟩
  by_cases e : r = b
  · subst e
    funext j
    rw [zu_eq, zu_eq, (h2 r hr).1]
  · rw [zgr e, zgr e]; exact (h2 r hr).1
section QR
variable {l : Launch} {D : va_G} {dA : Nat → ClassId} {ad : Nat → Nat} {sh0 ll : List zSE} {y : zM} {R : Room} {X : (Nat → Prop) → State → Prop} {ini : Method → Code → Prop} {QF : zQF} {cells slots : Nat} {pc : Nat} {L : List (Nat × Value)} {S : List Value} {μ : zI} {ν : zJ} {ad0 : Nat → Nat} {μ0 : zI} {ν0 : zJ} {b n : Nat}
theorem q_at {j r : Nat} (hr : sh0.length + j = r) : (sh0 ++ ll)[r]? = ll[j]? := by
  rw [List.getElem?_append_right (by omega)]
  congr 1
  omega
theorem q_set {j r : Nat} {x : zSE} (hr : sh0.length + j = r) : (sh0 ++ ll).set r x = sh0 ++ ll.set j x := by
  rw [List.set_append_right _ _ (by omega)]
  congr 2
  omega
theorem q_newa {atype : ArrayType} {t N : Nat} {ty : FieldType} {v : Int32} (hn : (sh0 ++ ll).length = n) (hb : b < n) (h6 : n < 1000000) (hk : kC ad0 μ0 ν0 b n ad μ ν) (hcl : zCl (sh0 ++ ll)) (hd : decode y.2.1 pc = .ok (.newarray atype, 2)) (ha : zAt atype t ty) (hnv : ¬ v < 0) (hv : v.toNatClampNeg = N) (hby : N * componentBytes ty ≤ 536870912) (hR : cells + 1 ≤ R.cells ∧ slots + N ≤ R.slots)
    (kk : ∀ (q : Nat) (ad' : Nat → Nat) (μ' : zI) (ν' : zJ), ad' n = q → (∀ r, r < n → ad' r = ad r) → kC ad0 μ0 ν0 b (n + 1) ad' μ' ν' → zCl (sh0 ++ (ll ++ [.inr (t, N)])) →
      G l D dA ad' (sh0 ++ (ll ++ [.inr (t, N)])) y R X ini QF (cells + 1) (slots + N) (pc + 2) L (.ref q :: S) μ' ν') : G l D dA ad (sh0 ++ ll) y R X ini QF cells slots pc L (.int v :: S) μ ν := by
  refine g_newa hd ha hnv hv hby hcl hR (fun q ad' μ' ν' e1 e2 e3 e4 e5 e6 hz => ?_)
  rw [hn] at e1 e2 e3 e4 e5 e6
  rw [List.append_assoc] at hz ⊢
  exact kk q ad' μ' ν' e2 (fun r h => e1 r (by omega)) (hk.new hb h6 e1 e3 e4 e5 e6) hz
theorem q_new {idx ci N : Nat} {C : String} {T : u_T} {fks : List Nat} (hn : (sh0 ++ ll).length = n) (hb : b < n) (h6 : n < 1000000) (hk : kC ad0 μ0 ν0 b n ad μ ν) (hcl : zCl (sh0 ++ ll)) (hd : decode y.2.1 pc = .ok (.new idx, 3)) (hw : zNw ci fks) (hc0 : CL[ci]? = some (C, T, N)) (hlk : Cond.classLink y.1.cls idx C ∈ TB) (hR : cells + 1 ≤ R.cells ∧ slots + N ≤ R.slots)
    (kk : ∀ (q : Nat) (ad' : Nat → Nat) (μ' : zI) (ν' : zJ), ad' n = q → (∀ r, r < n → ad' r = ad r) → kC ad0 μ0 ν0 b (n + 1) ad' μ' ν' → zCl (sh0 ++ (ll ++ [.inl (ci, fks)])) →
      G l D dA ad' (sh0 ++ (ll ++ [.inl (ci, fks)])) y R X ini QF (cells + 1) (slots + N) (pc + 3) L (.ref q :: S) μ' ν') : G l D dA ad (sh0 ++ ll) y R X ini QF cells slots pc L S μ ν := by
  refine g_new hd hw hc0 hlk hcl hR (fun q ad' μ' ν' e1 e2 e3 e4 e5 e6 hz => ?_)
  rw [hn] at e1 e2 e3 e4 e5 e6
  rw [List.append_assoc] at hz ⊢
  exact kk q ad' μ' ν' e2 (fun r h => e1 r (by omega)) (hk.new hb h6 e1 e3 e4 e5 e6) hz
theorem q_putF {idx ci k r j q a b1 : Nat} {ty : FieldType} {fks : List Nat} (hn : (sh0 ++ ll).length = n) (hcl : zCl (sh0 ++ ll)) (hd : decode y.2.1 pc = .ok (.putfield idx, 3)) (hf : zFld y.1.cls idx ci k ty) (hr : sh0.length + j = r) (hs : ll[j]? = some (.inl (ci, fks))) (hk : k < fks.length) (ha : ad r = a) (hb' : ad q = b1) (hq : q < n) (hfin : ∀ C T N, CL[ci]? = some (C, T, N) → (T k).2.2.2 = true ∧ (T k).1 = y.1.cls) (hini : ∀ me co, ini me co → me.name = "<init>") (hnn : narrow ty (.ref b1) = .ref b1) (hft : fits ty (.ref b1) = true)
    (kk : zCl (sh0 ++ ll.set j (.inl (ci, fks.set k (q + 2)))) → G l D dA ad (sh0 ++ ll.set j (.inl (ci, fks.set k (q + 2)))) y R X ini QF cells slots (pc + 3) L S μ ν) : G l D dA ad (sh0 ++ ll) y R X ini QF cells slots pc L (.ref b1 :: .ref a :: S) μ ν := by
  refine g_putF hd hf (by rw [q_at hr]; exact hs) hk ha hb' (by omega) hfin hini hnn hft hcl (fun hz => ?_)
  rw [q_set hr] at hz ⊢
  exact kk hz
theorem q_newaL {ll' : List zSE} {atype : ArrayType} {t N : Nat} {ty : FieldType} {v : Int32} (hn : (sh0 ++ ll).length = n) (hb : b < n) (h6 : n < 1000000) (hk : kC ad0 μ0 ν0 b n ad μ ν) (hcl : zCl (sh0 ++ ll)) (hl' : ll ++ [.inr (t, N)] = ll') (hd : decode y.2.1 pc = .ok (.newarray atype, 2)) (ha : zAt atype t ty) (hnv : ¬ v < 0) (hv : v.toNatClampNeg = N) (hby : N * componentBytes ty ≤ 536870912) (hR : cells + 1 ≤ R.cells ∧ slots + N ≤ R.slots)
    (kk : ∀ (q : Nat) (ad' : Nat → Nat) (μ' : zI) (ν' : zJ), ad' n = q → (∀ r, r < n → ad' r = ad r) → kC ad0 μ0 ν0 b (n + 1) ad' μ' ν' → zCl (sh0 ++ ll') →
      G l D dA ad' (sh0 ++ ll') y R X ini QF (cells + 1) (slots + N) (pc + 2) L (.ref q :: S) μ' ν') : G l D dA ad (sh0 ++ ll) y R X ini QF cells slots pc L (.int v :: S) μ ν := by
  subst hl'
  exact q_newa hn hb h6 hk hcl hd ha hnv hv hby hR kk
theorem q_putFL {ll' : List zSE} {idx ci k r j q a b1 : Nat} {ty : FieldType} {fks : List Nat} (hn : (sh0 ++ ll).length = n) (hcl : zCl (sh0 ++ ll)) (hl' : ll.set j (.inl (ci, fks.set k (q + 2))) = ll') (hd : decode y.2.1 pc = .ok (.putfield idx, 3)) (hf : zFld y.1.cls idx ci k ty) (hr : sh0.length + j = r) (hs : ll[j]? = some (.inl (ci, fks))) (hk : k < fks.length) (ha : ad r = a) (hb' : ad q = b1) (hq : q < n) (hfin : ∀ C T N, CL[ci]? = some (C, T, N) → (T k).2.2.2 = true ∧ (T k).1 = y.1.cls) (hini : ∀ me co, ini me co → me.name = "<init>") (hnn : narrow ty (.ref b1) = .ref b1) (hft : fits ty (.ref b1) = true)
    (kk : zCl (sh0 ++ ll') → G l D dA ad (sh0 ++ ll') y R X ini QF cells slots (pc + 3) L S μ ν) : G l D dA ad (sh0 ++ ll) y R X ini QF cells slots pc L (.ref b1 :: .ref a :: S) μ ν := by
  subst hl'
  exact q_putF hn hcl hd hf hr hs hk ha hb' hq hfin hini hnn hft kk
/-- a constructor that leaves its new cells empty, of a nest mate -/
theorem q_callIN {idx d mc1 ms1 a : Nat} {z : zM} {S0 : List Value} {e : zSE} {tl : List zSE} {host : String} (hn : (sh0 ++ ll).length = n) (hb : b < n) (hk : kC ad0 μ0 ν0 b (n + 1) ad μ ν) (hd : decode y.2.1 pc = .ok (.invokespecial idx, 3)) (hC : zK l D dA ad ((sh0 ++ ll) ++ [e]) z d mc1 ms1 [.ref a] μ ν (kP ad (sh0 ++ ll) n μ ν tl)) (hz : zMd z 0) (hzn : z.1.name = "<init>") (hret : z.2.2.2 = none) (hzi : Cond.instanceMethod z.1 ∈ TB) (hlk : (y.1.cls, idx, z.1, host) ∈ zNest) (hX : ∀ A s, X A s → zS ad A s) (hR : d + 1 ≤ R.frames ∧ 8 + (z.2.2.1 + 11) + 40 * d ≤ R.locals) (hf : cells + mc1 ≤ R.cells ∧ slots + ms1 ≤ R.slots) (hst : S0 = .ref a :: S) (hW : (S.map fun v => v.category).sum ≤ 8)
    (kk : ∀ ad' μ' ν', (∀ r, r ≤ n → ad' r = ad r) → kC ad0 μ0 ν0 b (n + tl.length) ad' μ' ν' → zCl (sh0 ++ (ll ++ tl)) → G l D dA ad' (sh0 ++ (ll ++ tl)) y R X ini QF (cells + mc1) (slots + ms1) (pc + 3) L S μ' ν') : G l D dA ad (sh0 ++ (ll ++ [e])) y R X ini QF cells slots pc L S0 μ ν := by
  rw [← List.append_assoc]
  refine g_callIN hd hC hz hzn hret hzi hlk hX rfl hR hf hst hW (fun ad' sh' μ' ν' hP => ?_)
  obtain ⟨rfl, hz, hg⟩ := hP
  rw [List.append_assoc] at hz ⊢
  exact kk ad' μ' ν' (fun r h => hg.1 r (Or.inl h)) (hk.call hb hg) hz
end QR
theorem nw_Told : zNw 4 [1] := ⟨R_Told, F_Told, 1, t_Told, rfl, w_Told, t_Told_ok, zt1 93 (by decide +kernel) rfl, md_Told_init.1, rfl, fun j hj => by rcases (show j = 0 by omega) with rfl <;> rfl, by decide⟩
set_option maxRecDepth 20000 in
theorem mk_Told {l : Launch} {D : va_G} {dA : Nat → ClassId} {ad : Nat → Nat} {sh0 : List zSE} {b a : Nat} {μ : zI} {ν : zJ} (hb : sh0.length = b) (hB : b < 1000) (hcl : zCl (sh0 ++ [.inl (4, [1])])) (ha : ad b = a) : zK l D dA ad (sh0 ++ [.inl (4, [1])]) m_Told_init 1 1 19 [.ref a] μ ν (kP ad sh0 b μ ν [.inl (4, [b + 1 + 2]), .inr (0, 19)]) := by
  refine zK.of (by decide) rfl (Nat.le_of_ble_eq_true rfl) ?_
  refine g_aload_n d_Told_init_0 0 rfl rfl ?_
  refine g_objInit d_Told_init_1 l_Told_1 ⟨(Nat.le_of_ble_eq_true rfl), (Nat.le_of_ble_eq_true rfl)⟩ ?_
  refine g_aload_n d_Told_init_4 0 rfl rfl ?_
  refine g_bipush d_Told_init_5 (v := 19) (by decide) ?_
  refine q_newa (n := b + 1) (by rw [List.length_append, hb]; rfl) (by omega) (by omega) kC.rf hcl d_Told_init_7 at_int (N := 19) (by decide) (by decide) (by decide) ⟨(Nat.le_of_ble_eq_true rfl), (Nat.le_of_ble_eq_true rfl)⟩ (fun q0 ad0 μ0 ν0 e0 f0 k0 c0 => ?_)
  have ha0 := (f0 b (by omega)).trans ha
  refine q_putF (j := 0) (r := b) (q := b + 1) (n := b + 2) (by rw [List.length_append, hb]; rfl) c0 d_Told_init_9 f_Told_9 (by omega) rfl (Nat.le_of_ble_eq_true rfl) ha0 e0 (by omega) (fun C T N h => by cases h; exact ⟨rfl, rfl⟩) (fun _ _ h => h) rfl rfl (fun cc0 => ?_)
  exact g_return d_Told_init_12 rfl ⟨rfl, cc0, k0⟩ (Nat.le_of_ble_eq_true rfl) (Nat.le_of_ble_eq_true rfl)
theorem nw_Panel : zNw 5 [0, 0, 0, 1, 1, 1, 1, 1] := ⟨R_Panel, F_Panel, 8, t_Panel, rfl, w_Panel, t_Panel_ok, zt1 104 (by decide +kernel) rfl, md_Panel_init.1, rfl, fun j hj => by rcases (show j = 0 ∨ j = 1 ∨ j = 2 ∨ j = 3 ∨ j = 4 ∨ j = 5 ∨ j = 6 ∨ j = 7 by omega) with rfl | rfl | rfl | rfl | rfl | rfl | rfl | rfl <;> rfl, by decide⟩
set_option maxRecDepth 20000 in
theorem mk_Panel {l : Launch} {D : va_G} {dA : Nat → ClassId} {ad : Nat → Nat} {sh0 : List zSE} {b a : Nat} {μ : zI} {ν : zJ} (hb : sh0.length = b) (hB : b < 1000) (hcl : zCl (sh0 ++ [.inl (5, [0, 0, 0, 1, 1, 1, 1, 1])])) (ha : ad b = a) : zK l D dA ad (sh0 ++ [.inl (5, [0, 0, 0, 1, 1, 1, 1, 1])]) m_Panel_init 1 5 1024 [.ref a] μ ν (kP ad sh0 b μ ν [.inl (5, [0, 0, 0, b + 1 + 2, b + 2 + 2, b + 3 + 2, b + 4 + 2, b + 5 + 2]), .inr (0, 6), .inr (0, 6), .inr (0, 6), .inr (0, 6), .inr (0, 1000)]) := by
  refine zK.of (by decide) rfl (Nat.le_of_ble_eq_true rfl) ?_
  refine g_aload_n d_Panel_init_0 0 rfl rfl ?_
  refine g_objInit d_Panel_init_1 l_Panel_3 ⟨(Nat.le_of_ble_eq_true rfl), (Nat.le_of_ble_eq_true rfl)⟩ ?_
  refine g_aload_n d_Panel_init_4 0 rfl rfl ?_
  refine g_bipush d_Panel_init_5 (v := 6) (by decide) ?_
  refine q_newa (n := b + 1) (by rw [List.length_append, hb]; rfl) (by omega) (by omega) kC.rf hcl d_Panel_init_7 at_int (N := 6) (by decide) (by decide) (by decide) ⟨(Nat.le_of_ble_eq_true rfl), (Nat.le_of_ble_eq_true rfl)⟩ (fun q0 ad0 μ0 ν0 e0 f0 k0 c0 => ?_)
  have ha0 := (f0 b (by omega)).trans ha
  refine q_putF (j := 0) (r := b) (q := b + 1) (n := b + 2) (by rw [List.length_append, hb]; rfl) c0 d_Panel_init_9 f_Panel_11 (by omega) rfl (Nat.le_of_ble_eq_true rfl) ha0 e0 (by omega) (fun C T N h => by cases h; exact ⟨rfl, rfl⟩) (fun _ _ h => h) rfl rfl (fun cc0 => ?_)
  refine g_aload_n d_Panel_init_12 0 rfl rfl ?_
  refine g_bipush d_Panel_init_13 (v := 6) (by decide) ?_
  refine q_newa (n := b + 2) (by rw [List.length_append, hb]; rfl) (by omega) (by omega) k0 cc0 d_Panel_init_15 at_int (N := 6) (by decide) (by decide) (by decide) ⟨(Nat.le_of_ble_eq_true rfl), (Nat.le_of_ble_eq_true rfl)⟩ (fun q1 ad1 μ1 ν1 e1 f1 k1 c1 => ?_)
  have ha1 := (f1 b (by omega)).trans ha0
  refine q_putF (j := 0) (r := b) (q := b + 2) (n := b + 3) (by rw [List.length_append, hb]; rfl) c1 d_Panel_init_17 f_Panel_15 (by omega) rfl (Nat.le_of_ble_eq_true rfl) ha1 e1 (by omega) (fun C T N h => by cases h; exact ⟨rfl, rfl⟩) (fun _ _ h => h) rfl rfl (fun cc1 => ?_)
  refine g_aload_n d_Panel_init_20 0 rfl rfl ?_
  refine g_bipush d_Panel_init_21 (v := 6) (by decide) ?_
  refine q_newa (n := b + 3) (by rw [List.length_append, hb]; rfl) (by omega) (by omega) k1 cc1 d_Panel_init_23 at_int (N := 6) (by decide) (by decide) (by decide) ⟨(Nat.le_of_ble_eq_true rfl), (Nat.le_of_ble_eq_true rfl)⟩ (fun q2 ad2 μ2 ν2 e2 f2 k2 c2 => ?_)
  have ha2 := (f2 b (by omega)).trans ha1
  refine q_putF (j := 0) (r := b) (q := b + 3) (n := b + 4) (by rw [List.length_append, hb]; rfl) c2 d_Panel_init_25 f_Panel_18 (by omega) rfl (Nat.le_of_ble_eq_true rfl) ha2 e2 (by omega) (fun C T N h => by cases h; exact ⟨rfl, rfl⟩) (fun _ _ h => h) rfl rfl (fun cc2 => ?_)
  refine g_aload_n d_Panel_init_28 0 rfl rfl ?_
  refine g_bipush d_Panel_init_29 (v := 6) (by decide) ?_
  refine q_newa (n := b + 4) (by rw [List.length_append, hb]; rfl) (by omega) (by omega) k2 cc2 d_Panel_init_31 at_int (N := 6) (by decide) (by decide) (by decide) ⟨(Nat.le_of_ble_eq_true rfl), (Nat.le_of_ble_eq_true rfl)⟩ (fun q3 ad3 μ3 ν3 e3 f3 k3 c3 => ?_)
  have ha3 := (f3 b (by omega)).trans ha2
  refine q_putF (j := 0) (r := b) (q := b + 4) (n := b + 5) (by rw [List.length_append, hb]; rfl) c3 d_Panel_init_33 f_Panel_21 (by omega) rfl (Nat.le_of_ble_eq_true rfl) ha3 e3 (by omega) (fun C T N h => by cases h; exact ⟨rfl, rfl⟩) (fun _ _ h => h) rfl rfl (fun cc3 => ?_)
  refine g_aload_n d_Panel_init_36 0 rfl rfl ?_
  refine g_sipush d_Panel_init_37 (v := 1000) (by decide) ?_
  refine q_newa (n := b + 5) (by rw [List.length_append, hb]; rfl) (by omega) (by omega) k3 cc3 d_Panel_init_40 at_int (N := 1000) (by decide) (by decide) (by decide) ⟨(Nat.le_of_ble_eq_true rfl), (Nat.le_of_ble_eq_true rfl)⟩ (fun q4 ad4 μ4 ν4 e4 f4 k4 c4 => ?_)
  have ha4 := (f4 b (by omega)).trans ha3
  refine q_putF (j := 0) (r := b) (q := b + 5) (n := b + 6) (by rw [List.length_append, hb]; rfl) c4 d_Panel_init_42 f_Panel_24 (by omega) rfl (Nat.le_of_ble_eq_true rfl) ha4 e4 (by omega) (fun C T N h => by cases h; exact ⟨rfl, rfl⟩) (fun _ _ h => h) rfl rfl (fun cc4 => ?_)
  exact g_return d_Panel_init_45 rfl ⟨rfl, cc4, k4⟩ (Nat.le_of_ble_eq_true rfl) (Nat.le_of_ble_eq_true rfl)
theorem nw_Schedule : zNw 6 [0, 0, 1] := ⟨R_Schedule, F_Schedule, 3, t_Schedule, rfl, w_Schedule, t_Schedule_ok, zt1 141 (by decide +kernel) rfl, md_Schedule_init.1, rfl, fun j hj => by rcases (show j = 0 ∨ j = 1 ∨ j = 2 by omega) with rfl | rfl | rfl <;> rfl, by decide⟩
set_option maxRecDepth 20000 in
theorem mk_Schedule {l : Launch} {D : va_G} {dA : Nat → ClassId} {ad : Nat → Nat} {sh0 : List zSE} {b a : Nat} {μ : zI} {ν : zJ} (hb : sh0.length = b) (hB : b < 1000) (hcl : zCl (sh0 ++ [.inl (6, [0, 0, 1])])) (ha : ad b = a) : zK l D dA ad (sh0 ++ [.inl (6, [0, 0, 1])]) m_Schedule_init 1 1 96 [.ref a] μ ν (kP ad sh0 b μ ν [.inl (6, [0, 0, b + 1 + 2]), .inr (0, 96)]) := by
  refine zK.of (by decide) rfl (Nat.le_of_ble_eq_true rfl) ?_
  refine g_aload_n d_Schedule_init_0 0 rfl rfl ?_
  refine g_objInit d_Schedule_init_1 l_Schedule_3 ⟨(Nat.le_of_ble_eq_true rfl), (Nat.le_of_ble_eq_true rfl)⟩ ?_
  refine g_aload_n d_Schedule_init_4 0 rfl rfl ?_
  refine g_bipush d_Schedule_init_5 (v := 96) (by decide) ?_
  refine q_newa (n := b + 1) (by rw [List.length_append, hb]; rfl) (by omega) (by omega) kC.rf hcl d_Schedule_init_7 at_int (N := 96) (by decide) (by decide) (by decide) ⟨(Nat.le_of_ble_eq_true rfl), (Nat.le_of_ble_eq_true rfl)⟩ (fun q0 ad0 μ0 ν0 e0 f0 k0 c0 => ?_)
  have ha0 := (f0 b (by omega)).trans ha
  refine q_putF (j := 0) (r := b) (q := b + 1) (n := b + 2) (by rw [List.length_append, hb]; rfl) c0 d_Schedule_init_9 f_Schedule_11 (by omega) rfl (Nat.le_of_ble_eq_true rfl) ha0 e0 (by omega) (fun C T N h => by cases h; exact ⟨rfl, rfl⟩) (fun _ _ h => h) rfl rfl (fun cc0 => ?_)
  exact g_return d_Schedule_init_12 rfl ⟨rfl, cc0, k0⟩ (Nat.le_of_ble_eq_true rfl) (Nat.le_of_ble_eq_true rfl)
theorem nw_Follower : zNw 7 [0, 0, 0, 0, 0, 0, 0, 0, 0, 0, 0, 0, 0] := ⟨R_Follower, F_Follower, 13, t_Follower, rfl, w_Follower, t_Follower_ok, zt1 158 (by decide +kernel) rfl, md_Follower_init.1, rfl, fun j hj => by rcases (show j = 0 ∨ j = 1 ∨ j = 2 ∨ j = 3 ∨ j = 4 ∨ j = 5 ∨ j = 6 ∨ j = 7 ∨ j = 8 ∨ j = 9 ∨ j = 10 ∨ j = 11 ∨ j = 12 by omega) with rfl | rfl | rfl | rfl | rfl | rfl | rfl | rfl | rfl | rfl | rfl | rfl | rfl <;> rfl, by decide⟩
set_option maxRecDepth 20000 in
theorem mk_Follower {l : Launch} {D : va_G} {dA : Nat → ClassId} {ad : Nat → Nat} {sh0 : List zSE} {b a : Nat} {μ : zI} {ν : zJ} (hb : sh0.length = b) (hB : b < 1000) (hcl : zCl (sh0 ++ [.inl (7, [0, 0, 0, 0, 0, 0, 0, 0, 0, 0, 0, 0, 0])])) (ha : ad b = a) : zK l D dA ad (sh0 ++ [.inl (7, [0, 0, 0, 0, 0, 0, 0, 0, 0, 0, 0, 0, 0])]) m_Follower_init 1 0 0 [.ref a] μ ν (kP ad sh0 b μ ν [.inl (7, [0, 0, 0, 0, 0, 0, 0, 0, 0, 0, 0, 0, 0])]) := by
  refine zK.of (by decide) rfl (Nat.le_of_ble_eq_true rfl) ?_
  refine g_aload_n d_Follower_init_0 0 rfl rfl ?_
  refine g_objInit d_Follower_init_1 l_Follower_3 ⟨(Nat.le_of_ble_eq_true rfl), (Nat.le_of_ble_eq_true rfl)⟩ ?_
  exact g_return d_Follower_init_4 rfl ⟨rfl, hcl, kC.rf⟩ (Nat.le_of_ble_eq_true rfl) (Nat.le_of_ble_eq_true rfl)
theorem nw_Battery : zNw 8 [0, 0, 0, 0, 0, 0] := ⟨R_Battery, F_Battery, 6, t_Battery, rfl, w_Battery, t_Battery_ok, zt1 219 (by decide +kernel) rfl, md_Battery_init.1, rfl, fun j hj => by rcases (show j = 0 ∨ j = 1 ∨ j = 2 ∨ j = 3 ∨ j = 4 ∨ j = 5 by omega) with rfl | rfl | rfl | rfl | rfl | rfl <;> rfl, by decide⟩
set_option maxRecDepth 20000 in
theorem mk_Battery {l : Launch} {D : va_G} {dA : Nat → ClassId} {ad : Nat → Nat} {sh0 : List zSE} {b a : Nat} {μ : zI} {ν : zJ} (hb : sh0.length = b) (hB : b < 1000) (hcl : zCl (sh0 ++ [.inl (8, [0, 0, 0, 0, 0, 0])])) (ha : ad b = a) : zK l D dA ad (sh0 ++ [.inl (8, [0, 0, 0, 0, 0, 0])]) m_Battery_init 1 0 0 [.ref a] μ ν (kP ad sh0 b μ ν [.inl (8, [0, 0, 0, 0, 0, 0])]) := by
  refine zK.of (by decide) rfl (Nat.le_of_ble_eq_true rfl) ?_
  refine g_aload_n d_Battery_init_0 0 rfl rfl ?_
  refine g_objInit d_Battery_init_1 l_Battery_3 ⟨(Nat.le_of_ble_eq_true rfl), (Nat.le_of_ble_eq_true rfl)⟩ ?_
  exact g_return d_Battery_init_4 rfl ⟨rfl, hcl, kC.rf⟩ (Nat.le_of_ble_eq_true rfl) (Nat.le_of_ble_eq_true rfl)
theorem nw_Inverter : zNw 9 [0, 0, 0, 0, 0, 0, 0, 0] := ⟨R_Inverter, F_Inverter, 8, t_Inverter, rfl, w_Inverter, t_Inverter_ok, zt2 15 (by decide +kernel) rfl, md_Inverter_init.1, rfl, fun j hj => by rcases (show j = 0 ∨ j = 1 ∨ j = 2 ∨ j = 3 ∨ j = 4 ∨ j = 5 ∨ j = 6 ∨ j = 7 by omega) with rfl | rfl | rfl | rfl | rfl | rfl | rfl | rfl <;> rfl, by decide⟩
set_option maxRecDepth 20000 in
theorem mk_Inverter {l : Launch} {D : va_G} {dA : Nat → ClassId} {ad : Nat → Nat} {sh0 : List zSE} {b a : Nat} {μ : zI} {ν : zJ} (hb : sh0.length = b) (hB : b < 1000) (hcl : zCl (sh0 ++ [.inl (9, [0, 0, 0, 0, 0, 0, 0, 0])])) (ha : ad b = a) : zK l D dA ad (sh0 ++ [.inl (9, [0, 0, 0, 0, 0, 0, 0, 0])]) m_Inverter_init 1 0 0 [.ref a] μ ν (kP ad sh0 b μ ν [.inl (9, [0, 0, 0, 0, 0, 0, 0, 0])]) := by
  refine zK.of (by decide) rfl (Nat.le_of_ble_eq_true rfl) ?_
  refine g_aload_n d_Inverter_init_0 0 rfl rfl ?_
  refine g_objInit d_Inverter_init_1 l_Inverter_3 ⟨(Nat.le_of_ble_eq_true rfl), (Nat.le_of_ble_eq_true rfl)⟩ ?_
  exact g_return d_Inverter_init_4 rfl ⟨rfl, hcl, kC.rf⟩ (Nat.le_of_ble_eq_true rfl) (Nat.le_of_ble_eq_true rfl)
theorem nw_Log : zNw 10 [0, 0, 1] := ⟨R_Log, F_Log, 3, t_Log, rfl, w_Log, t_Log_ok, zt2 172 (by decide +kernel) rfl, md_Log_init.1, rfl, fun j hj => by rcases (show j = 0 ∨ j = 1 ∨ j = 2 by omega) with rfl | rfl | rfl <;> rfl, by decide⟩
set_option maxRecDepth 20000 in
theorem mk_Log {l : Launch} {D : va_G} {dA : Nat → ClassId} {ad : Nat → Nat} {sh0 : List zSE} {b a : Nat} {μ : zI} {ν : zJ} (hb : sh0.length = b) (hB : b < 1000) (hcl : zCl (sh0 ++ [.inl (10, [0, 0, 1])])) (ha : ad b = a) : zK l D dA ad (sh0 ++ [.inl (10, [0, 0, 1])]) m_Log_init 1 1 1000 [.ref a] μ ν (kP ad sh0 b μ ν [.inl (10, [0, 0, b + 1 + 2]), .inr (0, 1000)]) := by
  refine zK.of (by decide) rfl (Nat.le_of_ble_eq_true rfl) ?_
  refine g_aload_n d_Log_init_0 0 rfl rfl ?_
  refine g_objInit d_Log_init_1 l_Log_3 ⟨(Nat.le_of_ble_eq_true rfl), (Nat.le_of_ble_eq_true rfl)⟩ ?_
  refine g_aload_n d_Log_init_4 0 rfl rfl ?_
  refine g_sipush d_Log_init_5 (v := 1000) (by decide) ?_
  refine q_newa (n := b + 1) (by rw [List.length_append, hb]; rfl) (by omega) (by omega) kC.rf hcl d_Log_init_8 at_int (N := 1000) (by decide) (by decide) (by decide) ⟨(Nat.le_of_ble_eq_true rfl), (Nat.le_of_ble_eq_true rfl)⟩ (fun q0 ad0 μ0 ν0 e0 f0 k0 c0 => ?_)
  have ha0 := (f0 b (by omega)).trans ha
  refine q_putF (j := 0) (r := b) (q := b + 1) (n := b + 2) (by rw [List.length_append, hb]; rfl) c0 d_Log_init_10 f_Log_11 (by omega) rfl (Nat.le_of_ble_eq_true rfl) ha0 e0 (by omega) (fun C T N h => by cases h; exact ⟨rfl, rfl⟩) (fun _ _ h => h) rfl rfl (fun cc0 => ?_)
  exact g_return d_Log_init_13 rfl ⟨rfl, cc0, k0⟩ (Nat.le_of_ble_eq_true rfl) (Nat.le_of_ble_eq_true rfl)
theorem nw_Tape : zNw 1 [1, 0] := ⟨R_Tape, F_Tape, 2, t_Tape, rfl, w_Tape, t_Tape_ok, zt1 37 (by decide +kernel) rfl, md_Tape_init.1, rfl, fun j hj => by rcases (show j = 0 ∨ j = 1 by omega) with rfl | rfl <;> rfl, by decide⟩
set_option maxRecDepth 20000 in
theorem mk_Tape {l : Launch} {D : va_G} {dA : Nat → ClassId} {ad : Nat → Nat} {sh0 : List zSE} {b a : Nat} {μ : zI} {ν : zJ} (hb : sh0.length = b) (hB : b < 1000) (hcl : zCl (sh0 ++ [.inl (1, [1, 0])])) (ha : ad b = a) : zK l D dA ad (sh0 ++ [.inl (1, [1, 0])]) m_Tape_init 1 1 900 [.ref a] μ ν (kP ad sh0 b μ ν [.inl (1, [b + 1 + 2, 0]), .inr (2, 900)]) := by
  refine zK.of (by decide) rfl (Nat.le_of_ble_eq_true rfl) ?_
  refine g_aload_n d_Tape_init_0 0 rfl rfl ?_
  refine g_objInit d_Tape_init_1 l_Tape_1 ⟨(Nat.le_of_ble_eq_true rfl), (Nat.le_of_ble_eq_true rfl)⟩ ?_
  refine g_aload_n d_Tape_init_4 0 rfl rfl ?_
  refine g_sipush d_Tape_init_5 (v := 900) (by decide) ?_
  refine q_newa (n := b + 1) (by rw [List.length_append, hb]; rfl) (by omega) (by omega) kC.rf hcl d_Tape_init_8 at_byte (N := 900) (by decide) (by decide) (by decide) ⟨(Nat.le_of_ble_eq_true rfl), (Nat.le_of_ble_eq_true rfl)⟩ (fun q0 ad0 μ0 ν0 e0 f0 k0 c0 => ?_)
  have ha0 := (f0 b (by omega)).trans ha
  refine q_putF (j := 0) (r := b) (q := b + 1) (n := b + 2) (by rw [List.length_append, hb]; rfl) c0 d_Tape_init_10 f_Tape_9 (by omega) rfl (Nat.le_of_ble_eq_true rfl) ha0 e0 (by omega) (fun C T N h => by cases h; exact ⟨rfl, rfl⟩) (fun _ _ h => h) rfl rfl (fun cc0 => ?_)
  exact g_return d_Tape_init_13 rfl ⟨rfl, cc0, k0⟩ (Nat.le_of_ble_eq_true rfl) (Nat.le_of_ble_eq_true rfl)
theorem nw_Reader : zNw 2 [0, 0, 1, 0, 0, 0, 0, 0] := ⟨R_Reader, F_Reader, 8, t_Reader, rfl, w_Reader, t_Reader_ok, zt1 54 (by decide +kernel) rfl, md_Reader_init.1, rfl, fun j hj => by rcases (show j = 0 ∨ j = 1 ∨ j = 2 ∨ j = 3 ∨ j = 4 ∨ j = 5 ∨ j = 6 ∨ j = 7 by omega) with rfl | rfl | rfl | rfl | rfl | rfl | rfl | rfl <;> rfl, by decide⟩
set_option maxRecDepth 20000 in
theorem mk_Reader {l : Launch} {D : va_G} {dA : Nat → ClassId} {ad : Nat → Nat} {sh0 : List zSE} {b a q a1 : Nat} {μ : zI} {ν : zJ} (hb : sh0.length = b) (hB : b < 1000) (hcl : zCl (sh0 ++ [.inl (2, [0, 0, 1, 0, 0, 0, 0, 0])])) (ha : ad b = a) (hq : ad q = a1) (hqb : q < b) : zK l D dA ad (sh0 ++ [.inl (2, [0, 0, 1, 0, 0, 0, 0, 0])]) m_Reader_init 1 0 0 [.ref a, .ref a1] μ ν (fun ad' sh' μ' ν' => sh' = sh0 ++ [.inl (2, [0, 0, q + 2, 0, 0, 0, 0, 0])] ∧ zCl sh' ∧ ad' = ad ∧ μ' = zu μ b 1 (-1) ∧ ν' = ν) := by
  refine zK.of (by decide) rfl (Nat.le_of_ble_eq_true rfl) ?_
  refine g_aload_n d_Reader_init_0 0 rfl rfl ?_
  refine g_objInit d_Reader_init_1 l_Reader_3 ⟨(Nat.le_of_ble_eq_true rfl), (Nat.le_of_ble_eq_true rfl)⟩ ?_
  refine g_aload_n d_Reader_init_4 0 rfl rfl ?_
  refine g_aload_n d_Reader_init_5 1 rfl rfl ?_
  refine q_putF (j := 0) (r := b) (q := q) (n := b + 1) (by rw [List.length_append, hb]; rfl) hcl d_Reader_init_6 f_Reader_9 (by omega) rfl (Nat.le_of_ble_eq_true rfl) ha hq (by omega) (fun C T N h => by cases h; exact ⟨rfl, rfl⟩) (fun _ _ h => h) rfl rfl (fun c1 => ?_)
  refine g_aload_n d_Reader_init_9 0 rfl rfl ?_
  refine g_iconst d_Reader_init_10 (v := -1) (by decide) ?_
  refine g_put (r := b) (ci := 2) (k := 1) (fks := [0, 0, q + 2, 0, 0, 0, 0, 0]) d_Reader_init_11 f_Reader_15 (by rw [q_at (j := 0) (by omega)]; rfl) rfl ha (fun C T N h => by cases h; rfl) rfl rfl ?_
  exact g_return d_Reader_init_14 rfl ⟨rfl, c1, rfl, rfl, rfl⟩ (Nat.le_of_ble_eq_true rfl) (Nat.le_of_ble_eq_true rfl)
