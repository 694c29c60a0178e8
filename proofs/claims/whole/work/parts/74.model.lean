/-! The reference made. -/
theorem nw_M : zNw 11 [0, 1, 0, 1, 1, 0, 0, 1, 1, 0, 0, 1, 0, 0, 0, 0, 0, 0, 0, 0, 0, 0, 0, 1, 1, 1, 1, 1, 0, 0, 0, 0, 0, 0, 0] := ⟨R_M, F_M, 35, t_M, rfl, w_M, t_M_ok, zt5 195 (by decide +kernel) rfl, md_M_init.1, rfl, fun j hj => by rcases (show j = 0 ∨ j = 1 ∨ j = 2 ∨ j = 3 ∨ j = 4 ∨ j = 5 ∨ j = 6 ∨ j = 7 ∨ j = 8 ∨ j = 9 ∨ j = 10 ∨ j = 11 ∨ j = 12 ∨ j = 13 ∨ j = 14 ∨ j = 15 ∨ j = 16 ∨ j = 17 ∨ j = 18 ∨ j = 19 ∨ j = 20 ∨ j = 21 ∨ j = 22 ∨ j = 23 ∨ j = 24 ∨ j = 25 ∨ j = 26 ∨ j = 27 ∨ j = 28 ∨ j = 29 ∨ j = 30 ∨ j = 31 ∨ j = 32 ∨ j = 33 ∨ j = 34 by omega) with rfl | rfl | rfl | rfl | rfl | rfl | rfl | rfl | rfl | rfl | rfl | rfl | rfl | rfl | rfl | rfl | rfl | rfl | rfl | rfl | rfl | rfl | rfl | rfl | rfl | rfl | rfl | rfl | rfl | rfl | rfl | rfl | rfl | rfl | rfl <;> rfl, by decide⟩
set_option maxRecDepth 40000 in
set_option maxHeartbeats 400000 in
theorem mk_M {l : Launch} {D : va_G} {dA : Nat → ClassId} {ad : Nat → Nat} {sh0 : List zSE} {b a : Nat} {μ : zI} {ν : zJ} (hb : sh0.length = b) (hB : b < 1000) (hcl : zCl (sh0 ++ [.inl (11, [0, 1, 0, 1, 1, 0, 0, 1, 1, 0, 0, 1, 0, 0, 0, 0, 0, 0, 0, 0, 0, 0, 0, 1, 1, 1, 1, 1, 0, 0, 0, 0, 0, 0, 0])])) (ha : ad b = a) (hz : ∀ k, μ b k = 0) : zK l D dA ad (sh0 ++ [.inl (11, [0, 1, 0, 1, 1, 0, 0, 1, 1, 0, 0, 1, 0, 0, 0, 0, 0, 0, 0, 0, 0, 0, 0, 1, 1, 1, 1, 1, 0, 0, 0, 0, 0, 0, 0])]) m_M_init 2 12 2377 [.ref a] μ ν (fun ad' sh' μ' ν' => sh' = sh0 ++ moS b ∧ zCl sh' ∧ (∀ r, r ≤ b ∨ 1000000 ≤ r → ad' r = ad r) ∧ (∀ r, r < b → μ' r = μ r ∧ ν' r = ν r) ∧ ∀ μc νc, FC μc νc → RR b 0 0 0 μc νc μ' ν') := by
  refine zK.of (by decide) rfl (Nat.le_of_ble_eq_true rfl) ?_
  refine g_aload_n d_M_init_0 0 rfl rfl ?_
  refine g_objInit d_M_init_1 l_M_1 ⟨(Nat.le_of_ble_eq_true rfl), (Nat.le_of_ble_eq_true rfl)⟩ ?_
  -- array 0
  refine g_aload_n d_M_init_4 0 rfl rfl ?_
  refine g_sipush d_M_init_5 (v := 900) (by decide) ?_
  refine q_newaL (ll' := [.inl (11, [0, 1, 0, 1, 1, 0, 0, 1, 1, 0, 0, 1, 0, 0, 0, 0, 0, 0, 0, 0, 0, 0, 0, 1, 1, 1, 1, 1, 0, 0, 0, 0, 0, 0, 0]), .inr (0, 900)]) (n := b + 1) (by rw [List.length_append, hb]; rfl) (by omega) (by omega) kC.rf hcl rfl d_M_init_8 at_int (N := 900) (by decide) (by decide) (by decide) ⟨(Nat.le_of_ble_eq_true rfl), (Nat.le_of_ble_eq_true rfl)⟩ (fun q0 ad0 μ0 ν0 e0 f0 k0 c0 => ?_)
  have ha0 := (f0 b (by omega)).trans ha
  refine q_putFL (ll' := [.inl (11, [0, b + 1 + 2, 0, 1, 1, 0, 0, 1, 1, 0, 0, 1, 0, 0, 0, 0, 0, 0, 0, 0, 0, 0, 0, 1, 1, 1, 1, 1, 0, 0, 0, 0, 0, 0, 0]), .inr (0, 900)]) (j := 0) (r := b) (q := b + 1) (n := b + 2) (by rw [List.length_append, hb]; rfl) c0 rfl d_M_init_10 f_M_7 (by omega) rfl (Nat.le_of_ble_eq_true rfl) ha0 e0 (by omega) (fun C T N h => by cases h; exact ⟨rfl, rfl⟩) (fun _ _ h => h) rfl rfl (fun cc0 => ?_)
  -- array 1
  refine g_aload_n d_M_init_13 0 rfl rfl ?_
  refine g_bipush d_M_init_14 (v := 19) (by decide) ?_
  refine q_newaL (ll' := [.inl (11, [0, b + 1 + 2, 0, 1, 1, 0, 0, 1, 1, 0, 0, 1, 0, 0, 0, 0, 0, 0, 0, 0, 0, 0, 0, 1, 1, 1, 1, 1, 0, 0, 0, 0, 0, 0, 0]), .inr (0, 900), .inr (0, 19)]) (n := b + 2) (by rw [List.length_append, hb]; rfl) (by omega) (by omega) k0 cc0 rfl d_M_init_16 at_int (N := 19) (by decide) (by decide) (by decide) ⟨(Nat.le_of_ble_eq_true rfl), (Nat.le_of_ble_eq_true rfl)⟩ (fun q1 ad1 μ1 ν1 e1 f1 k1 c1 => ?_)
  have ha1 := (f1 b (by omega)).trans ha0
  refine q_putFL (ll' := [.inl (11, [0, b + 1 + 2, 0, b + 2 + 2, 1, 0, 0, 1, 1, 0, 0, 1, 0, 0, 0, 0, 0, 0, 0, 0, 0, 0, 0, 1, 1, 1, 1, 1, 0, 0, 0, 0, 0, 0, 0]), .inr (0, 900), .inr (0, 19)]) (j := 0) (r := b) (q := b + 2) (n := b + 3) (by rw [List.length_append, hb]; rfl) c1 rfl d_M_init_18 f_M_13 (by omega) rfl (Nat.le_of_ble_eq_true rfl) ha1 e1 (by omega) (fun C T N h => by cases h; exact ⟨rfl, rfl⟩) (fun _ _ h => h) rfl rfl (fun cc1 => ?_)
  -- array 2
  refine g_aload_n d_M_init_21 0 rfl rfl ?_
  refine g_iconst d_M_init_22 (v := 5) (by decide) ?_
  refine q_newaL (ll' := [.inl (11, [0, b + 1 + 2, 0, b + 2 + 2, 1, 0, 0, 1, 1, 0, 0, 1, 0, 0, 0, 0, 0, 0, 0, 0, 0, 0, 0, 1, 1, 1, 1, 1, 0, 0, 0, 0, 0, 0, 0]), .inr (0, 900), .inr (0, 19), .inr (3, 5)]) (n := b + 3) (by rw [List.length_append, hb]; rfl) (by omega) (by omega) k1 cc1 rfl d_M_init_23 at_bool (N := 5) (by decide) (by decide) (by decide) ⟨(Nat.le_of_ble_eq_true rfl), (Nat.le_of_ble_eq_true rfl)⟩ (fun q2 ad2 μ2 ν2 e2 f2 k2 c2 => ?_)
  have ha2 := (f2 b (by omega)).trans ha1
  refine q_putFL (ll' := [.inl (11, [0, b + 1 + 2, 0, b + 2 + 2, b + 3 + 2, 0, 0, 1, 1, 0, 0, 1, 0, 0, 0, 0, 0, 0, 0, 0, 0, 0, 0, 1, 1, 1, 1, 1, 0, 0, 0, 0, 0, 0, 0]), .inr (0, 900), .inr (0, 19), .inr (3, 5)]) (j := 0) (r := b) (q := b + 3) (n := b + 4) (by rw [List.length_append, hb]; rfl) c2 rfl d_M_init_25 f_M_16 (by omega) rfl (Nat.le_of_ble_eq_true rfl) ha2 e2 (by omega) (fun C T N h => by cases h; exact ⟨rfl, rfl⟩) (fun _ _ h => h) rfl rfl (fun cc2 => ?_)
  -- array 3
  refine g_aload_n d_M_init_28 0 rfl rfl ?_
  refine g_bipush d_M_init_29 (v := 12) (by decide) ?_
  refine q_newaL (ll' := [.inl (11, [0, b + 1 + 2, 0, b + 2 + 2, b + 3 + 2, 0, 0, 1, 1, 0, 0, 1, 0, 0, 0, 0, 0, 0, 0, 0, 0, 0, 0, 1, 1, 1, 1, 1, 0, 0, 0, 0, 0, 0, 0]), .inr (0, 900), .inr (0, 19), .inr (3, 5), .inr (0, 12)]) (n := b + 4) (by rw [List.length_append, hb]; rfl) (by omega) (by omega) k2 cc2 rfl d_M_init_31 at_int (N := 12) (by decide) (by decide) (by decide) ⟨(Nat.le_of_ble_eq_true rfl), (Nat.le_of_ble_eq_true rfl)⟩ (fun q3 ad3 μ3 ν3 e3 f3 k3 c3 => ?_)
  have ha3 := (f3 b (by omega)).trans ha2
  refine q_putFL (ll' := [.inl (11, [0, b + 1 + 2, 0, b + 2 + 2, b + 3 + 2, 0, 0, b + 4 + 2, 1, 0, 0, 1, 0, 0, 0, 0, 0, 0, 0, 0, 0, 0, 0, 1, 1, 1, 1, 1, 0, 0, 0, 0, 0, 0, 0]), .inr (0, 900), .inr (0, 19), .inr (3, 5), .inr (0, 12)]) (j := 0) (r := b) (q := b + 4) (n := b + 5) (by rw [List.length_append, hb]; rfl) c3 rfl d_M_init_33 f_M_20 (by omega) rfl (Nat.le_of_ble_eq_true rfl) ha3 e3 (by omega) (fun C T N h => by cases h; exact ⟨rfl, rfl⟩) (fun _ _ h => h) rfl rfl (fun cc3 => ?_)
  -- array 4
  refine g_aload_n d_M_init_36 0 rfl rfl ?_
  refine g_bipush d_M_init_37 (v := 12) (by decide) ?_
  refine q_newaL (ll' := [.inl (11, [0, b + 1 + 2, 0, b + 2 + 2, b + 3 + 2, 0, 0, b + 4 + 2, 1, 0, 0, 1, 0, 0, 0, 0, 0, 0, 0, 0, 0, 0, 0, 1, 1, 1, 1, 1, 0, 0, 0, 0, 0, 0, 0]), .inr (0, 900), .inr (0, 19), .inr (3, 5), .inr (0, 12), .inr (0, 12)]) (n := b + 5) (by rw [List.length_append, hb]; rfl) (by omega) (by omega) k3 cc3 rfl d_M_init_39 at_int (N := 12) (by decide) (by decide) (by decide) ⟨(Nat.le_of_ble_eq_true rfl), (Nat.le_of_ble_eq_true rfl)⟩ (fun q4 ad4 μ4 ν4 e4 f4 k4 c4 => ?_)
  have ha4 := (f4 b (by omega)).trans ha3
  refine q_putFL (ll' := [.inl (11, [0, b + 1 + 2, 0, b + 2 + 2, b + 3 + 2, 0, 0, b + 4 + 2, b + 5 + 2, 0, 0, 1, 0, 0, 0, 0, 0, 0, 0, 0, 0, 0, 0, 1, 1, 1, 1, 1, 0, 0, 0, 0, 0, 0, 0]), .inr (0, 900), .inr (0, 19), .inr (3, 5), .inr (0, 12), .inr (0, 12)]) (j := 0) (r := b) (q := b + 5) (n := b + 6) (by rw [List.length_append, hb]; rfl) c4 rfl d_M_init_41 f_M_23 (by omega) rfl (Nat.le_of_ble_eq_true rfl) ha4 e4 (by omega) (fun C T N h => by cases h; exact ⟨rfl, rfl⟩) (fun _ _ h => h) rfl rfl (fun cc4 => ?_)
  -- array 5
  refine g_aload_n d_M_init_44 0 rfl rfl ?_
  refine g_bipush d_M_init_45 (v := 96) (by decide) ?_
  refine q_newaL (ll' := [.inl (11, [0, b + 1 + 2, 0, b + 2 + 2, b + 3 + 2, 0, 0, b + 4 + 2, b + 5 + 2, 0, 0, 1, 0, 0, 0, 0, 0, 0, 0, 0, 0, 0, 0, 1, 1, 1, 1, 1, 0, 0, 0, 0, 0, 0, 0]), .inr (0, 900), .inr (0, 19), .inr (3, 5), .inr (0, 12), .inr (0, 12), .inr (0, 96)]) (n := b + 6) (by rw [List.length_append, hb]; rfl) (by omega) (by omega) k4 cc4 rfl d_M_init_47 at_int (N := 96) (by decide) (by decide) (by decide) ⟨(Nat.le_of_ble_eq_true rfl), (Nat.le_of_ble_eq_true rfl)⟩ (fun q5 ad5 μ5 ν5 e5 f5 k5 c5 => ?_)
  have ha5 := (f5 b (by omega)).trans ha4
  refine q_putFL (ll' := [.inl (11, [0, b + 1 + 2, 0, b + 2 + 2, b + 3 + 2, 0, 0, b + 4 + 2, b + 5 + 2, 0, 0, b + 6 + 2, 0, 0, 0, 0, 0, 0, 0, 0, 0, 0, 0, 1, 1, 1, 1, 1, 0, 0, 0, 0, 0, 0, 0]), .inr (0, 900), .inr (0, 19), .inr (3, 5), .inr (0, 12), .inr (0, 12), .inr (0, 96)]) (j := 0) (r := b) (q := b + 6) (n := b + 7) (by rw [List.length_append, hb]; rfl) c5 rfl d_M_init_49 f_M_26 (by omega) rfl (Nat.le_of_ble_eq_true rfl) ha5 e5 (by omega) (fun C T N h => by cases h; exact ⟨rfl, rfl⟩) (fun _ _ h => h) rfl rfl (fun cc5 => ?_)
  refine g_aload_n d_M_init_52 0 rfl rfl ?_
  refine g_iconst d_M_init_53 (v := -1) (by decide) ?_
  refine g_put (r := b) (ci := 11) (k := 22) d_M_init_54 f_M_29 (by rw [q_at (j := 0) (by omega)]; rfl) rfl ha5 (fun C T N h => by cases h; rfl) rfl rfl ?_
  have kp := k5.put (k := 22) (v := -1)
  -- array 6
  refine g_aload_n d_M_init_57 0 rfl rfl ?_
  refine g_sipush d_M_init_58 (v := 146) (by decide) ?_
  refine q_newaL (ll' := [.inl (11, [0, b + 1 + 2, 0, b + 2 + 2, b + 3 + 2, 0, 0, b + 4 + 2, b + 5 + 2, 0, 0, b + 6 + 2, 0, 0, 0, 0, 0, 0, 0, 0, 0, 0, 0, 1, 1, 1, 1, 1, 0, 0, 0, 0, 0, 0, 0]), .inr (0, 900), .inr (0, 19), .inr (3, 5), .inr (0, 12), .inr (0, 12), .inr (0, 96), .inr (0, 146)]) (n := b + 7) (by rw [List.length_append, hb]; rfl) (by omega) (by omega) kp cc5 rfl d_M_init_61 at_int (N := 146) (by decide) (by decide) (by decide) ⟨(Nat.le_of_ble_eq_true rfl), (Nat.le_of_ble_eq_true rfl)⟩ (fun q6 ad6 μ6 ν6 e6 f6 k6 c6 => ?_)
  have ha6 := (f6 b (by omega)).trans ha5
  refine q_putFL (ll' := [.inl (11, [0, b + 1 + 2, 0, b + 2 + 2, b + 3 + 2, 0, 0, b + 4 + 2, b + 5 + 2, 0, 0, b + 6 + 2, 0, 0, 0, 0, 0, 0, 0, 0, 0, 0, 0, b + 7 + 2, 1, 1, 1, 1, 0, 0, 0, 0, 0, 0, 0]), .inr (0, 900), .inr (0, 19), .inr (3, 5), .inr (0, 12), .inr (0, 12), .inr (0, 96), .inr (0, 146)]) (j := 0) (r := b) (q := b + 7) (n := b + 8) (by rw [List.length_append, hb]; rfl) c6 rfl d_M_init_63 f_M_33 (by omega) rfl (Nat.le_of_ble_eq_true rfl) ha6 e6 (by omega) (fun C T N h => by cases h; exact ⟨rfl, rfl⟩) (fun _ _ h => h) rfl rfl (fun cc6 => ?_)
  -- array 7
  refine g_aload_n d_M_init_66 0 rfl rfl ?_
  refine g_sipush d_M_init_67 (v := 146) (by decide) ?_
  refine q_newaL (ll' := [.inl (11, [0, b + 1 + 2, 0, b + 2 + 2, b + 3 + 2, 0, 0, b + 4 + 2, b + 5 + 2, 0, 0, b + 6 + 2, 0, 0, 0, 0, 0, 0, 0, 0, 0, 0, 0, b + 7 + 2, 1, 1, 1, 1, 0, 0, 0, 0, 0, 0, 0]), .inr (0, 900), .inr (0, 19), .inr (3, 5), .inr (0, 12), .inr (0, 12), .inr (0, 96), .inr (0, 146), .inr (0, 146)]) (n := b + 8) (by rw [List.length_append, hb]; rfl) (by omega) (by omega) k6 cc6 rfl d_M_init_70 at_int (N := 146) (by decide) (by decide) (by decide) ⟨(Nat.le_of_ble_eq_true rfl), (Nat.le_of_ble_eq_true rfl)⟩ (fun q7 ad7 μ7 ν7 e7 f7 k7 c7 => ?_)
  have ha7 := (f7 b (by omega)).trans ha6
  refine q_putFL (ll' := [.inl (11, [0, b + 1 + 2, 0, b + 2 + 2, b + 3 + 2, 0, 0, b + 4 + 2, b + 5 + 2, 0, 0, b + 6 + 2, 0, 0, 0, 0, 0, 0, 0, 0, 0, 0, 0, b + 7 + 2, b + 8 + 2, 1, 1, 1, 0, 0, 0, 0, 0, 0, 0]), .inr (0, 900), .inr (0, 19), .inr (3, 5), .inr (0, 12), .inr (0, 12), .inr (0, 96), .inr (0, 146), .inr (0, 146)]) (j := 0) (r := b) (q := b + 8) (n := b + 9) (by rw [List.length_append, hb]; rfl) c7 rfl d_M_init_72 f_M_36 (by omega) rfl (Nat.le_of_ble_eq_true rfl) ha7 e7 (by omega) (fun C T N h => by cases h; exact ⟨rfl, rfl⟩) (fun _ _ h => h) rfl rfl (fun cc7 => ?_)
  -- array 8
  refine g_aload_n d_M_init_75 0 rfl rfl ?_
  refine g_bipush d_M_init_76 (v := 11) (by decide) ?_
  refine q_newaL (ll' := [.inl (11, [0, b + 1 + 2, 0, b + 2 + 2, b + 3 + 2, 0, 0, b + 4 + 2, b + 5 + 2, 0, 0, b + 6 + 2, 0, 0, 0, 0, 0, 0, 0, 0, 0, 0, 0, b + 7 + 2, b + 8 + 2, 1, 1, 1, 0, 0, 0, 0, 0, 0, 0]), .inr (0, 900), .inr (0, 19), .inr (3, 5), .inr (0, 12), .inr (0, 12), .inr (0, 96), .inr (0, 146), .inr (0, 146), .inr (1, 11)]) (n := b + 9) (by rw [List.length_append, hb]; rfl) (by omega) (by omega) k7 cc7 rfl d_M_init_78 at_long (N := 11) (by decide) (by decide) (by decide) ⟨(Nat.le_of_ble_eq_true rfl), (Nat.le_of_ble_eq_true rfl)⟩ (fun q8 ad8 μ8 ν8 e8 f8 k8 c8 => ?_)
  have ha8 := (f8 b (by omega)).trans ha7
  refine q_putFL (ll' := [.inl (11, [0, b + 1 + 2, 0, b + 2 + 2, b + 3 + 2, 0, 0, b + 4 + 2, b + 5 + 2, 0, 0, b + 6 + 2, 0, 0, 0, 0, 0, 0, 0, 0, 0, 0, 0, b + 7 + 2, b + 8 + 2, b + 9 + 2, 1, 1, 0, 0, 0, 0, 0, 0, 0]), .inr (0, 900), .inr (0, 19), .inr (3, 5), .inr (0, 12), .inr (0, 12), .inr (0, 96), .inr (0, 146), .inr (0, 146), .inr (1, 11)]) (j := 0) (r := b) (q := b + 9) (n := b + 10) (by rw [List.length_append, hb]; rfl) c8 rfl d_M_init_80 f_M_39 (by omega) rfl (Nat.le_of_ble_eq_true rfl) ha8 e8 (by omega) (fun C T N h => by cases h; exact ⟨rfl, rfl⟩) (fun _ _ h => h) rfl rfl (fun cc8 => ?_)
  -- array 9
  refine g_aload_n d_M_init_83 0 rfl rfl ?_
  refine g_bipush d_M_init_84 (v := 11) (by decide) ?_
  refine q_newaL (ll' := [.inl (11, [0, b + 1 + 2, 0, b + 2 + 2, b + 3 + 2, 0, 0, b + 4 + 2, b + 5 + 2, 0, 0, b + 6 + 2, 0, 0, 0, 0, 0, 0, 0, 0, 0, 0, 0, b + 7 + 2, b + 8 + 2, b + 9 + 2, 1, 1, 0, 0, 0, 0, 0, 0, 0]), .inr (0, 900), .inr (0, 19), .inr (3, 5), .inr (0, 12), .inr (0, 12), .inr (0, 96), .inr (0, 146), .inr (0, 146), .inr (1, 11), .inr (1, 11)]) (n := b + 10) (by rw [List.length_append, hb]; rfl) (by omega) (by omega) k8 cc8 rfl d_M_init_86 at_long (N := 11) (by decide) (by decide) (by decide) ⟨(Nat.le_of_ble_eq_true rfl), (Nat.le_of_ble_eq_true rfl)⟩ (fun q9 ad9 μ9 ν9 e9 f9 k9 c9 => ?_)
  have ha9 := (f9 b (by omega)).trans ha8
  refine q_putFL (ll' := [.inl (11, [0, b + 1 + 2, 0, b + 2 + 2, b + 3 + 2, 0, 0, b + 4 + 2, b + 5 + 2, 0, 0, b + 6 + 2, 0, 0, 0, 0, 0, 0, 0, 0, 0, 0, 0, b + 7 + 2, b + 8 + 2, b + 9 + 2, b + 10 + 2, 1, 0, 0, 0, 0, 0, 0, 0]), .inr (0, 900), .inr (0, 19), .inr (3, 5), .inr (0, 12), .inr (0, 12), .inr (0, 96), .inr (0, 146), .inr (0, 146), .inr (1, 11), .inr (1, 11)]) (j := 0) (r := b) (q := b + 10) (n := b + 11) (by rw [List.length_append, hb]; rfl) c9 rfl d_M_init_88 f_M_43 (by omega) rfl (Nat.le_of_ble_eq_true rfl) ha9 e9 (by omega) (fun C T N h => by cases h; exact ⟨rfl, rfl⟩) (fun _ _ h => h) rfl rfl (fun cc9 => ?_)
  -- array 10
  refine g_aload_n d_M_init_91 0 rfl rfl ?_
  refine g_sipush d_M_init_92 (v := 1000) (by decide) ?_
  refine q_newaL (ll' := [.inl (11, [0, b + 1 + 2, 0, b + 2 + 2, b + 3 + 2, 0, 0, b + 4 + 2, b + 5 + 2, 0, 0, b + 6 + 2, 0, 0, 0, 0, 0, 0, 0, 0, 0, 0, 0, b + 7 + 2, b + 8 + 2, b + 9 + 2, b + 10 + 2, 1, 0, 0, 0, 0, 0, 0, 0]), .inr (0, 900), .inr (0, 19), .inr (3, 5), .inr (0, 12), .inr (0, 12), .inr (0, 96), .inr (0, 146), .inr (0, 146), .inr (1, 11), .inr (1, 11), .inr (0, 1000)]) (n := b + 11) (by rw [List.length_append, hb]; rfl) (by omega) (by omega) k9 cc9 rfl d_M_init_95 at_int (N := 1000) (by decide) (by decide) (by decide) ⟨(Nat.le_of_ble_eq_true rfl), (Nat.le_of_ble_eq_true rfl)⟩ (fun q10 ad10 μ10 ν10 e10 f10 k10 c10 => ?_)
  have ha10 := (f10 b (by omega)).trans ha9
  refine q_putFL (ll' := [.inl (11, [0, b + 1 + 2, 0, b + 2 + 2, b + 3 + 2, 0, 0, b + 4 + 2, b + 5 + 2, 0, 0, b + 6 + 2, 0, 0, 0, 0, 0, 0, 0, 0, 0, 0, 0, b + 7 + 2, b + 8 + 2, b + 9 + 2, b + 10 + 2, b + 11 + 2, 0, 0, 0, 0, 0, 0, 0]), .inr (0, 900), .inr (0, 19), .inr (3, 5), .inr (0, 12), .inr (0, 12), .inr (0, 96), .inr (0, 146), .inr (0, 146), .inr (1, 11), .inr (1, 11), .inr (0, 1000)]) (j := 0) (r := b) (q := b + 11) (n := b + 12) (by rw [List.length_append, hb]; rfl) c10 rfl d_M_init_97 f_M_46 (by omega) rfl (Nat.le_of_ble_eq_true rfl) ha10 e10 (by omega) (fun C T N h => by cases h; exact ⟨rfl, rfl⟩) (fun _ _ h => h) rfl rfl (fun cc10 => ?_)
  refine g_aload_n d_M_init_100 0 rfl rfl ?_
  have hm : zMo (sh0 ++ moS b) b := fun j e he => by rw [q_at (j := j) (by omega)]; exact he
  have hFM : FM b μ10 := by
    have g : ∀ k, μ10 b k = zu μ b 22 (-1) b k := fun k => by rw [(k10.2.1 b (Nat.le_refl _)).1]
    exact ⟨by rw [g, zgk (by decide)]; exact hz 2, by rw [g, zgk (by decide)]; exact hz 21, by rw [g, zgh], by rw [g, zgk (by decide)]; exact hz 29⟩
  obtain ⟨κ1, κ2, τ2, g1, g2, g3, g4, g5⟩ := M_fresh (τ := ν10) hFM
  have cz : zCl (sh0 ++ moS b) := cc10
  have hX : ∀ (A : Nat → Prop) (s : State), zS ad A s → zS ad10 A s := fun A s h => h.congr (fun k hk => k10.1 k (Or.inr hk))
  have hs0 : (sh0 ++ moS b)[b]? = some (.inl (11, [0, b + 1 + 2, 0, b + 2 + 2, b + 3 + 2, 0, 0, b + 4 + 2, b + 5 + 2, 0, 0, b + 6 + 2, 0, 0, 0, 0, 0, 0, 0, 0, 0, 0, 0, b + 7 + 2, b + 8 + 2, b + 9 + 2, b + 10 + 2, b + 11 + 2, 0, 0, 0, 0, 0, 0, 0])) := hm 0 _ rfl
  have cF := c_M_freshText (l := l) (D := D) (dA := dA) (ad := ad10) hm g1
  have cB := c_M_begins (l := l) (D := D) (dA := dA) (ad := ad10) hm g2
  change G l D dA ad10 (sh0 ++ moS b) _ _ _ _ _ _ _ _ _ _ _ _
  refine g_callV (sh := sh0 ++ moS b) d_M_init_101 cF ha10 mv_M_freshText l_M_49 hX hs0 rfl rfl ⟨(Nat.le_of_ble_eq_true rfl), (Nat.le_of_ble_eq_true rfl)⟩ ⟨(Nat.le_of_ble_eq_true rfl), (Nat.le_of_ble_eq_true rfl)⟩ rfl (Nat.le_of_ble_eq_true rfl) (fun r μ' ν' hq => ?_)
  obtain ⟨rfl, rfl, rfl⟩ := hq
  refine g_aload_n d_M_init_104 0 rfl rfl ?_
  refine g_callV (sh := sh0 ++ moS b) d_M_init_105 cB ha10 mv_M_begins l_M_52 hX hs0 rfl rfl ⟨(Nat.le_of_ble_eq_true rfl), (Nat.le_of_ble_eq_true rfl)⟩ ⟨(Nat.le_of_ble_eq_true rfl), (Nat.le_of_ble_eq_true rfl)⟩ rfl (Nat.le_of_ble_eq_true rfl) (fun r μ' ν' hq => ?_)
  obtain ⟨rfl, rfl, rfl⟩ := hq
  refine g_return d_M_init_108 rfl ⟨rfl, cz, k10.1, fun r hr => ⟨?_, ?_⟩, g5⟩ (Nat.le_of_ble_eq_true rfl) (Nat.le_of_ble_eq_true rfl)
  · rw [g3 r (Or.inl hr), (k10.2.1 r (by omega)).1, zgr (by omega)]
  · rw [g4 r (by omega), (k10.2.1 r (by omega)).2]
