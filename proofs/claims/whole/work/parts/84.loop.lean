/-! The law's loop. -/
section LOOP
variable {l : Launch} {D : va_G} {dA : Nat → ClassId} {ad : Nat → Nat} {cells slots : Nat} {μ : zI} {ν : zJ} {b N k : Nat} {xs : Nat → Int32}
theorem wL_good : GoodIn TB (w_L :: TB) := fun w hw => (List.mem_cons.mp hw).elim (fun e => e ▸ TB_good _ w_L_in) (fun hw => TB_good w hw)
theorem z_callL {pc idx : Nat} {L : List (Nat × Value)} {i w t v : Int32} (hfl : l.stackTraces = false) (hmd : mdC i w μ ν t v) (hd : decode m_law.2.1 pc = .ok (.invokestatic 64, 3)) (hc : cells + 1 ≤ 601024) (hs : slots + 6 ≤ 7293034)
    (kk : ZW l D dA ad b N xs (cells + 1) (slots + 6) (pc + 3) L [.int t] μ (mdN 48 t v ν)) : ZW l D dA ad b N xs cells slots pc L [.ref (ad 48), .int w, .int i, .ref (ad 0)] μ ν := by
  intro p e s m args below meth c H locs ls A h0 h1
  obtain ⟨hx, hb, hm, hr, ht, ho, hk, hA, hX0⟩ := id h0
  obtain ⟨hS, hP, hK, hD, hll⟩ := h1
  rw [List.append_nil] at hP hD
  have cw : vx_CSW room_1 s args m_law.1.cls 64 m_L.1 m_L.2.1 m_L.2.2.1 m_L.2.2.2 hhL (w_L :: TB) (zR 7 1 6) 1 6 4 :=
    ⟨⟨rfl, rfl, (Nat.le_of_ble_eq_true rfl), (Nat.le_of_ble_eq_true rfl), pay_in ht wL_good, List.mem_cons_self⟩, ht _ w_L_in, ht _ (zt1 0 (by decide +kernel) rfl), ⟨by decide, by decide⟩, fun sig h => by
      have h2 : (parseMethodDescriptor m_L.1.desc).map (fun d => d.parameters.length) = some 4 := by decide +kernel
      rw [h] at h2
      exact (Option.some.inj h2).symm, ht _ (zt5 91 (by decide +kernel) rfl), ht _ (zt5 92 (by decide +kernel) rfl)⟩
  refine zcall_go (rest := []) (Qz := mdP 48 t v μ ν) hA hS hD (vx_runSW (As := [.ref (ad 0), .int i, .int w, .ref (ad 48)]) (Ts := TB) ⟨hx, hb, hm, ho, ht⟩ (mL_met hfl ro_W out_W hmd H.size) cw ⟨zblindX, fun U hU hW => zcall_preX hA hX0.1 hS hP hK hD U hU hW⟩ rfl rfl hll.1 rfl (lv_room (Nat.le_of_ble_eq_true rfl)) hd ⟨hc, hs⟩) (fun r μ' ν' H1 locs1 hq hS1 hP1 hD1 => ?_)
  obtain ⟨rfl, rfl, rfl⟩ := hq
  exact kk p e s m args below meth c H1 locs1 ls A h0 ⟨hS1, by rw [List.append_nil]; exact hP1, hK, by rw [List.append_nil]; exact hD1, hll⟩
theorem la_argM {p j : Nat} {ji t : Int32} {jn : Int} {S : List Value} (d0 : decode m_law.2.1 p = .ok (.aload_n 0, 1)) (d1 : decode m_law.2.1 (p + 1) = .ok (.iload 4, 2)) (d3 : decode m_law.2.1 (p + 1 + 2) = .ok (.iconst jn, 1)) (d4 : decode m_law.2.1 (p + 1 + 2 + 1) = .ok (.iadd, 1)) (d5 : decode m_law.2.1 (p + 1 + 2 + 1 + 1) = .ok (.iaload, 1)) (hj : Int32.ofInt jn = nI j) (hk : 6 * k + j < N) (hN : N ≤ 3072)
    (kk : ZW l D dA ad b N xs cells slots (p + 1 + 2 + 1 + 1 + 1) ((5, .int t) :: lw ad b k) (.int (xs (6 * k + j)) :: S) μ ν) : ZW l D dA ad b N xs cells slots p ((5, .int t) :: lw ad b k) S μ ν := by
  refine z_aload_n d0 5 rfl rfl ?_
  refine z_iload d1 1 rfl ?_
  refine z_iconst d3 hj ?_
  refine z_iadd d4 ?_
  rw [nI_add]
  refine z_sld d5 (fun _ _ h => h.2) (vp_in_n hk (by omega)) ?_
  rw [nI_clamp (by omega)]
  exact kk
theorem md_48 {t v : Int32} {ν : zJ} (h : t = 0) : mdN 48 t v ν 48 (0 : Int32).toNatClampNeg = Int32.toInt64 v := by
  rw [mdN, if_pos h]
  exact zlh
set_option maxRecDepth 20000 in
theorem arm_module (hfl : l.stackTraces = false) (h : R1 μ ν) (hk : 6 * k + 6 ≤ N) (hN : N ≤ 3072) (hc : cells + 1 ≤ 601024) (hs : slots + 19 ≤ 7293034) (kk : ∀ μ' ν', R1 μ' ν' → ZW l D dA ad b N xs (cells + 1) (slots + 19) 1525 (lw ad b k) [] μ' ν') : ZW l D dA ad b N xs cells slots 546 (lw ad b k) [] μ ν := by
  obtain ⟨t, v, v', κ', m0, e1, z1, hv, h2⟩ := oneMd (xs (6 * k + 1)) (xs (6 * k + 2)) h
  refine z_aload_n dW_546 3 rfl rfl ?_
  refine la_arg (j := 1) dW_547 dW_548 dW_550 dW_551 dW_552 rfl (by omega) hN ?_
  refine la_arg (j := 2) dW_553 dW_554 dW_556 dW_557 dW_558 rfl (by omega) hN ?_
  refine z_aload_n dW_559 1 rfl rfl ?_
  refine z_callL (idx := 64) hfl m0 dW_560 hc (by omega) ?_
  refine z_istore (i := 5) (L2 := (5, .int t) :: lw ad b k) dW_563 (by decide) rfl ?_
  refine z_aload_n dW_565 3 rfl rfl ?_
  refine la_argM (ji := 0) (j := 1) dW_566 dW_567 dW_569 dW_570 dW_571 rfl (by omega) hN ?_
  refine la_argM (ji := 0) (j := 2) dW_572 dW_573 dW_575 dW_576 dW_577 rfl (by omega) hN ?_
  refine z_callV (b := 36) dW_578 (c_M_module mo_W e1) mv_M_module (zt7 47 (by decide +kernel) rfl) (fun _ _ h => h.1.1) (mo_W 0 _ rfl) rfl rfl ⟨(Nat.le_of_ble_eq_true rfl), (Nat.le_of_ble_eq_true rfl)⟩ ⟨by show cells + 1 + 0 ≤ 601024; omega, by show slots + 6 + 0 ≤ 7293034; omega⟩ rfl (Nat.le_of_ble_eq_true rfl) (fun r9 μ9 ν9 hq => ?_)
  obtain ⟨rfl, rfl, rfl⟩ := hq
  refine z_istore (i := 6) (L2 := (6, .int v') :: (5, .int t) :: lw ad b k) dW_581 (by decide) rfl ?_
  refine z_aload_n dW_583 4 rfl rfl ?_
  refine z_callV (b := 36) dW_584 (c_M_thrown (out := (_, _, _)) mo_W rfl) mv_M_thrown (zt6 80 (by decide +kernel) rfl) (fun _ _ h => h.1.1) (mo_W 0 _ rfl) rfl rfl ⟨(Nat.le_of_ble_eq_true rfl), (Nat.le_of_ble_eq_true rfl)⟩ ⟨by show cells + 1 + 0 + 0 ≤ 601024; omega, by show slots + 6 + 0 + 0 ≤ 7293034; omega⟩ rfl (Nat.le_of_ble_eq_true rfl) (fun r9 μ9 ν9 hq => ?_)
  obtain ⟨rfl, rfl, rfl⟩ := hq
  refine z_iload dW_587 1 rfl ?_
  refine z_icmp_eq (tgt := 594) dW_589 rfl (fun _ => ?_) (fun hne => absurd z1 hne)
  have fin : ∀ μq νq, R1 μq νq → ZW l D dA ad b N xs (cells + 1 + 0 + 0) (slots + 6 + 0 + 0) 611 ((6, .int v') :: (5, .int t) :: lw ad b k) [] μq νq := by
    intro μq νq hq
    refine z_goto (tgt := 1525) dW_611 rfl ?_
    refine z_sub [2, 3, 4, 5, 6] (L' := lw ad b k) rfl ?_
    exact z_wide (by omega) (by omega) (kk _ _ hq)
  refine z_iload dW_594 1 rfl ?_
  refine z_if_ne (tgt := 611) dW_596 rfl (fun _ => fin _ _ h2) (fun t0 => ?_)
  refine z_aload_n dW_599 3 rfl rfl ?_
  refine z_iconst dW_600 (v := 0) (by decide) ?_
  refine z_lald dW_601 out_W (by unfold vp_in; decide) ?_
  refine z_iload dW_602 0 rfl ?_
  refine z_i2l dW_604 ?_
  refine z_lcmp dW_605 ?_
  refine z_eqi (v := 0) (show lg_cmp (mdN 48 t v ν 48 (0 : Int32).toNatClampNeg) (Int32.toInt64 v') = 0 by rw [md_48 t0, hv t0, lcmp_0]) ?_
  exact z_if_eq (tgt := 611) dW_606 rfl (fun _ => fin _ _ h2) (fun hne => absurd rfl hne)
theorem tab_or (x : Int32) : (x.toInt < 0 ∨ 44 < x.toInt) ∨ ∃ m, m < 45 ∧ x = nI m := by
  by_cases c : x.toInt < 0
  · exact Or.inl (Or.inl c)
  · by_cases d : 44 < x.toInt
    · exact Or.inl (Or.inr d)
    · refine Or.inr ⟨x.toInt.toNat, by omega, ?_⟩
      rw [← Int32.toInt_inj, nIt (by omega)]
      omega
theorem z_tabO {dflt lo hi : Int} {offs : Array Int} {len tgt pc : Nat} {x : Int32} {L : List (Nat × Value)} {S : List Value} (hd : decode m_law.2.1 pc = .ok (.tableswitch dflt lo hi offs, len)) (h : x.toInt < lo ∨ hi < x.toInt) (htg : (pc : Int) + dflt = (tgt : Int))
    (kk : ZW l D dA ad b N xs cells slots tgt L S μ ν) : ZW l D dA ad b N xs cells slots pc L (.int x :: S) μ ν :=
  Z.row (fun p e s m args below meth c H locs ls A Qs hx hb ht hown hX0 h9 k9 => lv_tableOut hx hb hd h htg k9) kk
set_option maxRecDepth 20000 in
set_option maxHeartbeats 2000000 in
theorem disp (hfl : l.stackTraces = false) (h : R1 μ ν) (hk : 6 * k + 6 ≤ N) (hN : N ≤ 3072) (hc : cells + 1 ≤ 601024) (hs : slots + 19 ≤ 7293034) (kk : ∀ μ' ν', R1 μ' ν' → ZW l D dA ad b N xs (cells + 1) (slots + 19) 1525 (lw ad b k) [] μ' ν') : ZW l D dA ad b N xs cells slots 33 (lw ad b k) [] μ ν := by
  refine z_aload_n dW_33 4 rfl rfl ?_
  refine z_iload dW_34 0 rfl ?_
  refine z_sld dW_36 (fun _ _ h => h.2) (vp_in_n (by omega) (by omega)) ?_
  refine z_bipush dW_37 (v := 63) (by decide) ?_
  refine z_iand dW_39 ?_
  generalize xs ((nI (6 * k)).toNatClampNeg) &&& 63 = x
  rcases tab_or x with ho | ⟨m, hm, rfl⟩
  · refine z_tabO (tgt := 1525) dW_40 ho rfl ?_
    exact z_wide (by omega) (by omega) (kk _ _ h)
  · rcases (show m = 0 ∨ m = 1 ∨ m = 2 ∨ m = 3 ∨ m = 4 ∨ m = 5 ∨ m = 6 ∨ m = 7 ∨ m = 8 ∨ m = 9 ∨ m = 10 ∨ m = 11 ∨ m = 12 ∨ m = 13 ∨ m = 14 ∨ m = 15 ∨ m = 16 ∨ m = 17 ∨ m = 18 ∨ m = 19 ∨ m = 20 ∨ m = 21 ∨ m = 22 ∨ m = 23 ∨ m = 24 ∨ m = 25 ∨ m = 26 ∨ m = 27 ∨ m = 28 ∨ m = 29 ∨ m = 30 ∨ m = 31 ∨ m = 32 ∨ m = 33 ∨ m = 34 ∨ m = 35 ∨ m = 36 ∨ m = 37 ∨ m = 38 ∨ m = 39 ∨ m = 40 ∨ m = 41 ∨ m = 42 ∨ m = 43 ∨ m = 44 by omega) with rfl | rfl | rfl | rfl | rfl | rfl | rfl | rfl | rfl | rfl | rfl | rfl | rfl | rfl | rfl | rfl | rfl | rfl | rfl | rfl | rfl | rfl | rfl | rfl | rfl | rfl | rfl | rfl | rfl | rfl | rfl | rfl | rfl | rfl | rfl | rfl | rfl | rfl | rfl | rfl | rfl | rfl | rfl | rfl | rfl
    · exact z_tabIn (tgt := 236) dW_40 0 rfl (by decide) (by decide) rfl rfl (arm_feed h hk hN hc hs kk)
    · exact z_tabIn (tgt := 309) dW_40 1 rfl (by decide) (by decide) rfl rfl (arm_text h hk hN hc hs kk)
    · exact z_tabIn (tgt := 334) dW_40 2 rfl (by decide) (by decide) rfl rfl (arm_fault h hk hN hc hs kk)
    · exact z_tabIn (tgt := 359) dW_40 3 rfl (by decide) (by decide) rfl rfl (arm_ticks h hk hN hc hs kk)
    · exact z_tabIn (tgt := 384) dW_40 4 rfl (by decide) (by decide) rfl rfl (arm_light h hk hN hc hs kk)
    · exact z_tabIn (tgt := 421) dW_40 5 rfl (by decide) (by decide) rfl rfl (arm_grid h hk hN hc hs kk)
    · exact z_tabIn (tgt := 446) dW_40 6 rfl (by decide) (by decide) rfl rfl (arm_tune h hk hN hc hs kk)
    · exact z_tabIn (tgt := 471) dW_40 7 rfl (by decide) (by decide) rfl rfl (arm_scan h hk hN hc hs kk)
    · exact z_tabIn (tgt := 484) dW_40 8 rfl (by decide) (by decide) rfl rfl (arm_told h hk hN hc hs kk)
    · exact z_tabIn (tgt := 509) dW_40 9 rfl (by decide) (by decide) rfl rfl (arm_settle h hk hN hc hs kk)
    · exact z_tabIn (tgt := 546) dW_40 10 rfl (by decide) (by decide) rfl rfl (arm_module hfl h hk hN hc hs kk)
    · exact z_tabIn (tgt := 614) dW_40 11 rfl (by decide) (by decide) rfl rfl (arm_volts h hk hN hc hs kk)
    · exact z_tabIn (tgt := 639) dW_40 12 rfl (by decide) (by decide) rfl rfl (arm_power h hk hN hc hs kk)
    · exact z_tabIn (tgt := 664) dW_40 13 rfl (by decide) (by decide) rfl rfl (arm_tops h hk hN hc hs kk)
    · exact z_tabIn (tgt := 677) dW_40 14 rfl (by decide) (by decide) rfl rfl (arm_top h hk hN hc hs kk)
    · exact z_tabIn (tgt := 714) dW_40 15 rfl (by decide) (by decide) rfl rfl (arm_best h hk hN hc hs kk)
    · exact z_tabIn (tgt := 739) dW_40 16 rfl (by decide) (by decide) rfl rfl (arm_band h hk hN hc hs kk)
    · exact z_tabIn (tgt := 776) dW_40 17 rfl (by decide) (by decide) rfl rfl (arm_climbed h hk hN hc hs kk)
    · exact z_tabIn (tgt := 801) dW_40 18 rfl (by decide) (by decide) rfl rfl (arm_shadeOf h hk hN hc hs kk)
    · exact z_tabIn (tgt := 826) dW_40 19 rfl (by decide) (by decide) rfl rfl (arm_lightFor h hk hN hc hs kk)
    · exact z_tabIn (tgt := 863) dW_40 20 rfl (by decide) (by decide) rfl rfl (arm_darkest h hk hN hc hs kk)
    · exact z_tabIn (tgt := 876) dW_40 21 rfl (by decide) (by decide) rfl rfl (arm_now h hk hN hc hs kk)
    · exact z_tabIn (tgt := 901) dW_40 22 rfl (by decide) (by decide) rfl rfl (arm_sum h hk hN hc hs kk)
    · exact z_tabIn (tgt := 927) dW_40 23 rfl (by decide) (by decide) rfl rfl (arm_past h hk hN hc hs kk)
    · exact z_tabIn (tgt := 964) dW_40 24 rfl (by decide) (by decide) rfl rfl (arm_near h hk hN hc hs kk)
    · exact z_tabIn (tgt := 989) dW_40 25 rfl (by decide) (by decide) rfl rfl (arm_longestAway h hk hN hc hs kk)
    · exact z_tabIn (tgt := 1014) dW_40 26 rfl (by decide) (by decide) rfl rfl (arm_ripple h hk hN hc hs kk)
    · exact z_tabIn (tgt := 1039) dW_40 27 rfl (by decide) (by decide) rfl rfl (arm_average h hk hN hc hs kk)
    · exact z_tabIn (tgt := 1064) dW_40 28 rfl (by decide) (by decide) rfl rfl (arm_worst h hk hN hc hs kk)
    · exact z_tabIn (tgt := 1089) dW_40 29 rfl (by decide) (by decide) rfl rfl (arm_comes h hk hN hc hs kk)
    · exact z_tabIn (tgt := 1126) dW_40 30 rfl (by decide) (by decide) rfl rfl (arm_cancel h hk hN hc hs kk)
    · exact z_tabIn (tgt := 1151) dW_40 31 rfl (by decide) (by decide) rfl rfl (arm_ifTicks h hk hN hc hs kk)
    · exact z_tabIn (tgt := 1188) dW_40 32 rfl (by decide) (by decide) rfl rfl (arm_firstSeen h hk hN hc hs kk)
    · exact z_tabIn (tgt := 1213) dW_40 33 rfl (by decide) (by decide) rfl rfl (arm_firstFloat h hk hN hc hs kk)
    · exact z_tabIn (tgt := 1238) dW_40 34 rfl (by decide) (by decide) rfl rfl (arm_leastPush h hk hN hc hs kk)
    · exact z_tabIn (tgt := 1263) dW_40 35 rfl (by decide) (by decide) rfl rfl (arm_bestStep h hk hN hc hs kk)
    · exact z_tabIn (tgt := 1288) dW_40 36 rfl (by decide) (by decide) rfl rfl (arm_bestWay h hk hN hc hs kk)
    · exact z_tabIn (tgt := 1313) dW_40 37 rfl (by decide) (by decide) rfl rfl (arm_bestShare h hk hN hc hs kk)
    · exact z_tabIn (tgt := 1326) dW_40 38 rfl (by decide) (by decide) rfl rfl (arm_slope h hk hN hc hs kk)
    · exact z_tabIn (tgt := 1351) dW_40 39 rfl (by decide) (by decide) rfl rfl (arm_firstFull h hk hN hc hs kk)
    · exact z_tabIn (tgt := 1376) dW_40 40 rfl (by decide) (by decide) rfl rfl (arm_seenBy h hk hN hc hs kk)
    · exact z_tabIn (tgt := 1413) dW_40 41 rfl (by decide) (by decide) rfl rfl (arm_blind h hk hN hc hs kk)
    · exact z_tabIn (tgt := 1438) dW_40 42 rfl (by decide) (by decide) rfl rfl (arm_bestGap h hk hN hc hs kk)
    · exact z_tabIn (tgt := 1463) dW_40 43 rfl (by decide) (by decide) rfl rfl (arm_ifNear h hk hN hc hs kk)
    · exact z_tabIn (tgt := 1500) dW_40 44 rfl (by decide) (by decide) rfl rfl (arm_count h hk hN hc hs kk)
theorem iN6 {N : Nat} (hN : N ≤ 3072) : (nI N - 6).toInt = (N : Int) - 6 := by
  rw [isb (by rw [nIt (by omega)]; show -2147483648 ≤ (N : Int) - 6; omega) (by rw [nIt (by omega)]; show (N : Int) - 6 < 2147483648; omega), nIt (by omega)]
  rfl
theorem loop_W (hfl : l.stackTraces = false) (hN : N ≤ 3072) : ∀ (j k cells slots : Nat) (μ : zI) (ν : zJ), 6 * k + 6 * j ≤ N → N < 6 * k + 6 * j + 6 → R1 μ ν → cells + j ≤ 601024 → slots + 19 * j ≤ 7293034 → ZW l D dA ad b N xs cells slots 23 (lw ad b k) [] μ ν := by
  intro j
  induction j with
  | zero =>
    intro k cells slots μ ν h1 h2 h hc hs
    refine z_iload dW_23 0 rfl ?_
    refine z_aload_n dW_25 4 rfl rfl ?_
    refine z_slen dW_26 (fun _ _ h => h.2) ?_
    refine z_bipush dW_27 (v := 6) (by decide) ?_
    refine z_isub dW_29 ?_
    refine z_icmp_gt (tgt := 1531) dW_30 rfl (fun _ => ?_) (fun hn => absurd (ilt.mpr (by rw [iN6 hN, nIt (by omega)]; omega)) hn)
    refine z_iconst dW_1531 (v := 1) (by decide) ?_
    refine z_wide (k := 601024) (n := 7293034) (by omega) (by omega) ?_
    exact z_ireturn dW_1532 rfl rfl rfl
  | succ j ih =>
    intro k cells slots μ ν h1 h2 h hc hs
    refine z_iload dW_23 0 rfl ?_
    refine z_aload_n dW_25 4 rfl rfl ?_
    refine z_slen dW_26 (fun _ _ h => h.2) ?_
    refine z_bipush dW_27 (v := 6) (by decide) ?_
    refine z_isub dW_29 ?_
    refine z_icmp_gt (tgt := 1531) dW_30 rfl (fun hn => absurd (ilt.mp hn) (by rw [iN6 hN, nIt (by omega)]; omega)) (fun _ => ?_)
    refine disp hfl h (by omega) hN (by omega) (by omega) (fun μ' ν' h' => ?_)
    refine z_iinc (i := 4) (k := 0) (L2 := lw ad b (k + 1)) dW_1525 rfl (show nI (6 * k) + Int32.ofInt 6 = nI (6 * (k + 1)) from nI_add (6 * k) 6) (by decide) rfl ?_
    refine z_goto (tgt := 23) dW_1528 rfl ?_
    exact ih (k + 1) (cells + 1) (slots + 19) μ' ν' (by omega) (by omega) h' (by omega) (by omega)
end LOOP
