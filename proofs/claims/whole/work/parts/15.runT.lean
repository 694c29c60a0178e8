def f_M_wordHere_97 (q : Nat) (r4 : Int32 → Int32 → zI → zJ → Option (Int32 × zI × zJ)) : Nat → Int32 → Int32 → Int32 → zI → zJ → Option (Int32 × zI × zJ)
  | 0, _, _, _, _, _ => none
  | n + 1, x1, x2, x3, μ, ν => (if decide (11 < 14) = true then (if zin x2 (zSl 11) = true then (if (zSc 11 x2) = 32 then r4 (x1 + 1) (x2 + 1) μ ν else (f_M_wordHere_97 q r4 n) x1 (x2 + 1) x3 μ ν) else none) else none)
theorem z_M_wordHere_97 {l : Launch} {D : va_G} {dA : Nat → ClassId} {ad : Nat → Nat} {sh : List zSE}  {q : Nat} (hm : zMo sh q) {r4 : Int32 → Int32 → zI → zJ → Option (Int32 × zI × zJ)} {out : (Int32 × zI × zJ)} (hr4 : ∀ (x1 : Int32) (x2 : Int32) (μ : zI) (ν : zJ), r4 x1 x2 μ ν = some out → Z l D dA ad sh m_M_wordHere (zR 4 0 0) (zS ad) (zOi out) 0 0 0 0 [] 4 [(0, .ref (ad q)), (1, .int x1), (2, .int x2)] [] μ ν) : ∀ (n : Nat) (x1 : Int32) (x2 : Int32) (x3 : Int32) (μ : zI) (ν : zJ), f_M_wordHere_97 q r4 n x1 x2 x3 μ ν = some out → Z l D dA ad sh m_M_wordHere (zR 4 0 0) (zS ad) (zOi out) 0 0 0 0 [] 97 [(0, .ref (ad q)), (1, .int x1), (2, .int x2), (3, .int x3)] [] μ ν := by
  intro n
  induction n with
  | zero => intro x1 x2 x3 μ ν hF; cases hF
  | succ n ih =>
    intro x1 x2 x3 μ ν hF
    dsimp only [f_M_wordHere_97] at hF
    refine z_ldcW (idx := 91) d_M_wordHere_97 rfl (fun _ _ h => h) ?_
    refine z_iload_n d_M_wordHere_99 2 rfl rfl ?_
    obtain ⟨hy1, hF⟩ := zh_if hF
    obtain ⟨hy2, hF⟩ := zh_if hF
    refine z_callVr d_M_wordHere_100 (c_J_charAt (of_decide_eq_true hy1) (zin_vp hy2)) mv_J_charAt l_M_98 (fun _ _ h => h) (zrec_s (of_decide_eq_true hy1)) rfl ⟨Nat.le_of_ble_eq_true rfl, Nat.le_of_ble_eq_true rfl⟩ ⟨Nat.le_of_ble_eq_true rfl, Nat.le_of_ble_eq_true rfl⟩ rfl (Nat.le_of_ble_eq_true rfl) (fun r μ' ν' hq => ?_)
    rw [hq.1, hq.2.1, hq.2.2]
    show Z _ _ _ _ _ _ _ _ _ _ _ 0 0 _ _ _ [.int (zSc 11 x2)] _ _
    refine z_bipush d_M_wordHere_103 (v := 32) (by decide) ?_
    refine z_icmp_eq d_M_wordHere_105 (tgt := 114) (by decide) (fun cy3 => ?_) (fun cy3 => ?_)
    · replace hF := zh_t cy3 hF
      refine z_iinc d_M_wordHere_114 (k := 2) (v := (x2 + 1)) rfl rfl (by decide) (L2 := [(2, .int (x2 + 1)), (0, .ref (ad q)), (1, .int x1), (3, .int x3)]) rfl ?_
      refine z_iinc d_M_wordHere_117 (k := 2) (v := (x1 + 1)) rfl rfl (by decide) (L2 := [(1, .int (x1 + 1)), (2, .int (x2 + 1)), (0, .ref (ad q)), (3, .int x3)]) rfl ?_
      refine z_goto d_M_wordHere_120 (tgt := 4) (by decide) ?_
      refine z_sub [2, 0, 1] (L' := [(0, .ref (ad q)), (1, .int (x1 + 1)), (2, .int (x2 + 1))]) rfl ?_
      exact hr4 _ _ _ _ hF
    · replace hF := zh_f cy3 hF
      refine z_iinc d_M_wordHere_108 (k := 2) (v := (x2 + 1)) rfl rfl (by decide) (L2 := [(2, .int (x2 + 1)), (0, .ref (ad q)), (1, .int x1), (3, .int x3)]) rfl ?_
      refine z_goto d_M_wordHere_111 (tgt := 97) (by decide) ?_
      refine z_sub [1, 2, 0, 3] (L' := [(0, .ref (ad q)), (1, .int x1), (2, .int (x2 + 1)), (3, .int x3)]) rfl ?_
      exact ih _ _ _ _ _ hF
def e_M_wordHere_69 (q : Nat) (r4 : Int32 → Int32 → zI → zJ → Option (Int32 × zI × zJ)) (x1 : Int32) (x2 : Int32) (x3 : Int32) (μ : zI) (ν : zJ) : Option (Int32 × zI × zJ) := (if decide (11 < 14) = true then (if zin (x2 + x3) (zSl 11) = true then (if (zSc 11 (x2 + x3)) = 32 then (if ((μ q 16) + x3) = (μ q 15) then some (x1, μ, ν) else f_M_wordHere_97 q r4 zFuel x1 x2 x3 μ ν) else f_M_wordHere_97 q r4 zFuel x1 x2 x3 μ ν) else none) else none)
theorem z_M_wordHere_69 {l : Launch} {D : va_G} {dA : Nat → ClassId} {ad : Nat → Nat} {sh : List zSE}  {q : Nat} (hm : zMo sh q) {r4 : Int32 → Int32 → zI → zJ → Option (Int32 × zI × zJ)} {x1 : Int32} {x2 : Int32} {x3 : Int32} {μ : zI} {ν : zJ} {out : (Int32 × zI × zJ)} (hr4 : ∀ (x1 : Int32) (x2 : Int32) (μ : zI) (ν : zJ), r4 x1 x2 μ ν = some out → Z l D dA ad sh m_M_wordHere (zR 4 0 0) (zS ad) (zOi out) 0 0 0 0 [] 4 [(0, .ref (ad q)), (1, .int x1), (2, .int x2)] [] μ ν) (hF : e_M_wordHere_69 q r4 x1 x2 x3 μ ν = some out) : Z l D dA ad sh m_M_wordHere (zR 4 0 0) (zS ad) (zOi out) 0 0 0 0 [] 69 [(0, .ref (ad q)), (1, .int x1), (2, .int x2), (3, .int x3)] [] μ ν := by
  unfold e_M_wordHere_69 at hF
  refine z_ldcW (idx := 91) d_M_wordHere_69 rfl (fun _ _ h => h) ?_
  refine z_iload_n d_M_wordHere_71 2 rfl rfl ?_
  refine z_iload_n d_M_wordHere_72 3 rfl rfl ?_
  refine z_iadd d_M_wordHere_73 ?_
  obtain ⟨hy1, hF⟩ := zh_if hF
  obtain ⟨hy2, hF⟩ := zh_if hF
  refine z_callVr d_M_wordHere_74 (c_J_charAt (of_decide_eq_true hy1) (zin_vp hy2)) mv_J_charAt l_M_98 (fun _ _ h => h) (zrec_s (of_decide_eq_true hy1)) rfl ⟨Nat.le_of_ble_eq_true rfl, Nat.le_of_ble_eq_true rfl⟩ ⟨Nat.le_of_ble_eq_true rfl, Nat.le_of_ble_eq_true rfl⟩ rfl (Nat.le_of_ble_eq_true rfl) (fun r μ' ν' hq => ?_)
  rw [hq.1, hq.2.1, hq.2.2]
  show Z _ _ _ _ _ _ _ _ _ _ _ 0 0 _ _ _ [.int (zSc 11 (x2 + x3))] _ _
  refine z_bipush d_M_wordHere_77 (v := 32) (by decide) ?_
  refine z_icmp_ne d_M_wordHere_79 (tgt := 97) (by decide) (fun cy3 => ?_) (fun cy3 => ?_)
  · replace hF := zh_f cy3 hF
    exact z_M_wordHere_97 hm hr4 zFuel _ _ _ _ _ hF
  · replace hF := zh_t cy3 hF
    refine z_aload_n d_M_wordHere_82 0 rfl rfl ?_
    refine z_get d_M_wordHere_83 f_M_71 (hm 0 _ rfl) rfl ?_
    refine z_iload_n d_M_wordHere_86 3 rfl rfl ?_
    refine z_iadd d_M_wordHere_87 ?_
    refine z_aload_n d_M_wordHere_88 0 rfl rfl ?_
    refine z_get d_M_wordHere_89 f_M_61 (hm 0 _ rfl) rfl ?_
    refine z_icmp_ne d_M_wordHere_92 (tgt := 97) (by decide) (fun cy4 => ?_) (fun cy4 => ?_)
    · replace hF := zh_f cy4 hF
      exact z_M_wordHere_97 hm hr4 zFuel _ _ _ _ _ hF
    · replace hF := zh_t cy4 hF
      refine z_iload_n d_M_wordHere_95 1 rfl rfl ?_
      cases hF
      exact z_ireturn d_M_wordHere_96 rfl rfl ⟨rfl, rfl, rfl⟩
def f_M_wordHere_15 (q : Nat) (r4 : Int32 → Int32 → zI → zJ → Option (Int32 × zI × zJ)) : Nat → Int32 → Int32 → Int32 → zI → zJ → Option (Int32 × zI × zJ)
  | 0, _, _, _, _, _ => none
  | n + 1, x1, x2, x3, μ, ν => (if decide (11 < 14) = true then (if zin (x2 + x3) (zSl 11) = true then (if (zSc 11 (x2 + x3)) = 32 then e_M_wordHere_69 q r4 x1 x2 x3 μ ν else (if (μ q 15) ≤ ((μ q 16) + x3) then e_M_wordHere_69 q r4 x1 x2 x3 μ ν else (if zin ((μ q 16) + x3) 900 = true then (if decide (11 < 14) = true then (if zin (x2 + x3) (zSl 11) = true then (if (μ (q + 1) (Int32.toNatClampNeg ((μ q 16) + x3))) = (zSc 11 (x2 + x3)) then (f_M_wordHere_15 q r4 n) x1 x2 (x3 + 1) μ ν else e_M_wordHere_69 q r4 x1 x2 x3 μ ν) else none) else none) else none))) else none) else none)
theorem z_M_wordHere_15 {l : Launch} {D : va_G} {dA : Nat → ClassId} {ad : Nat → Nat} {sh : List zSE}  {q : Nat} (hm : zMo sh q) {r4 : Int32 → Int32 → zI → zJ → Option (Int32 × zI × zJ)} {out : (Int32 × zI × zJ)} (hr4 : ∀ (x1 : Int32) (x2 : Int32) (μ : zI) (ν : zJ), r4 x1 x2 μ ν = some out → Z l D dA ad sh m_M_wordHere (zR 4 0 0) (zS ad) (zOi out) 0 0 0 0 [] 4 [(0, .ref (ad q)), (1, .int x1), (2, .int x2)] [] μ ν) : ∀ (n : Nat) (x1 : Int32) (x2 : Int32) (x3 : Int32) (μ : zI) (ν : zJ), f_M_wordHere_15 q r4 n x1 x2 x3 μ ν = some out → Z l D dA ad sh m_M_wordHere (zR 4 0 0) (zS ad) (zOi out) 0 0 0 0 [] 15 [(0, .ref (ad q)), (1, .int x1), (2, .int x2), (3, .int x3)] [] μ ν := by
  intro n
  induction n with
  | zero => intro x1 x2 x3 μ ν hF; cases hF
  | succ n ih =>
    intro x1 x2 x3 μ ν hF
    dsimp only [f_M_wordHere_15] at hF
    refine z_ldcW (idx := 91) d_M_wordHere_15 rfl (fun _ _ h => h) ?_
    refine z_iload_n d_M_wordHere_17 2 rfl rfl ?_
    refine z_iload_n d_M_wordHere_18 3 rfl rfl ?_
    refine z_iadd d_M_wordHere_19 ?_
    obtain ⟨hy1, hF⟩ := zh_if hF
    obtain ⟨hy2, hF⟩ := zh_if hF
    refine z_callVr d_M_wordHere_20 (c_J_charAt (of_decide_eq_true hy1) (zin_vp hy2)) mv_J_charAt l_M_98 (fun _ _ h => h) (zrec_s (of_decide_eq_true hy1)) rfl ⟨Nat.le_of_ble_eq_true rfl, Nat.le_of_ble_eq_true rfl⟩ ⟨Nat.le_of_ble_eq_true rfl, Nat.le_of_ble_eq_true rfl⟩ rfl (Nat.le_of_ble_eq_true rfl) (fun r μ' ν' hq => ?_)
    rw [hq.1, hq.2.1, hq.2.2]
    show Z _ _ _ _ _ _ _ _ _ _ _ 0 0 _ _ _ [.int (zSc 11 (x2 + x3))] _ _
    refine z_bipush d_M_wordHere_23 (v := 32) (by decide) ?_
    refine z_icmp_eq d_M_wordHere_25 (tgt := 69) (by decide) (fun cy3 => ?_) (fun cy3 => ?_)
    · replace hF := zh_t cy3 hF
      exact z_M_wordHere_69 hm hr4 hF
    · replace hF := zh_f cy3 hF
      refine z_aload_n d_M_wordHere_28 0 rfl rfl ?_
      refine z_get d_M_wordHere_29 f_M_71 (hm 0 _ rfl) rfl ?_
      refine z_iload_n d_M_wordHere_32 3 rfl rfl ?_
      refine z_iadd d_M_wordHere_33 ?_
      refine z_aload_n d_M_wordHere_34 0 rfl rfl ?_
      refine z_get d_M_wordHere_35 f_M_61 (hm 0 _ rfl) rfl ?_
      refine z_icmp_ge d_M_wordHere_38 (tgt := 69) (by decide) (fun cy4 => ?_) (fun cy4 => ?_)
      · replace hF := zh_t cy4 hF
        exact z_M_wordHere_69 hm hr4 hF
      · replace hF := zh_f cy4 hF
        refine z_aload_n d_M_wordHere_41 0 rfl rfl ?_
        refine z_getr d_M_wordHere_42 (q := (q + 1)) f_M_7 (hm 0 _ rfl) rfl ?_
        refine z_aload_n d_M_wordHere_45 0 rfl rfl ?_
        refine z_get d_M_wordHere_46 f_M_71 (hm 0 _ rfl) rfl ?_
        refine z_iload_n d_M_wordHere_49 3 rfl rfl ?_
        refine z_iadd d_M_wordHere_50 ?_
        obtain ⟨hy5, hF⟩ := zh_if hF
        refine z_iald d_M_wordHere_51 (hm 1 _ rfl) (zin_vp hy5) ?_
        refine z_ldcW (idx := 91) d_M_wordHere_52 rfl (fun _ _ h => h) ?_
        refine z_iload_n d_M_wordHere_54 2 rfl rfl ?_
        refine z_iload_n d_M_wordHere_55 3 rfl rfl ?_
        refine z_iadd d_M_wordHere_56 ?_
        obtain ⟨hy6, hF⟩ := zh_if hF
        obtain ⟨hy7, hF⟩ := zh_if hF
        refine z_callVr d_M_wordHere_57 (c_J_charAt (of_decide_eq_true hy6) (zin_vp hy7)) mv_J_charAt l_M_98 (fun _ _ h => h) (zrec_s (of_decide_eq_true hy6)) rfl ⟨Nat.le_of_ble_eq_true rfl, Nat.le_of_ble_eq_true rfl⟩ ⟨Nat.le_of_ble_eq_true rfl, Nat.le_of_ble_eq_true rfl⟩ rfl (Nat.le_of_ble_eq_true rfl) (fun r μ' ν' hq => ?_)
        rw [hq.1, hq.2.1, hq.2.2]
        show Z _ _ _ _ _ _ _ _ _ _ _ 0 0 _ _ _ [.int (zSc 11 (x2 + x3)), .int (μ (q + 1) (Int32.toNatClampNeg ((μ q 16) + x3)))] _ _
        refine z_icmp_ne d_M_wordHere_60 (tgt := 69) (by decide) (fun cy8 => ?_) (fun cy8 => ?_)
        · replace hF := zh_f cy8 hF
          exact z_M_wordHere_69 hm hr4 hF
        · replace hF := zh_t cy8 hF
          refine z_iinc d_M_wordHere_63 (k := 3) (v := (x3 + 1)) rfl rfl (by decide) (L2 := [(3, .int (x3 + 1)), (0, .ref (ad q)), (1, .int x1), (2, .int x2)]) rfl ?_
          refine z_goto d_M_wordHere_66 (tgt := 15) (by decide) ?_
          refine z_sub [1, 2, 3, 0] (L' := [(0, .ref (ad q)), (1, .int x1), (2, .int x2), (3, .int (x3 + 1))]) rfl ?_
          exact ih _ _ _ _ _ hF
def f_M_wordHere_4 (q : Nat)  : Nat → Int32 → Int32 → zI → zJ → Option (Int32 × zI × zJ)
  | 0, _, _, _, _ => none
  | n + 1, x1, x2, μ, ν => (if decide (11 < 14) = true then (if (nI (zSl 11)) ≤ x2 then some ((-1), μ, ν) else f_M_wordHere_15 q (f_M_wordHere_4 q n) zFuel x1 x2 0 μ ν) else none)
theorem z_M_wordHere_4 {l : Launch} {D : va_G} {dA : Nat → ClassId} {ad : Nat → Nat} {sh : List zSE}  {q : Nat} (hm : zMo sh q)  {out : (Int32 × zI × zJ)} : ∀ (n : Nat) (x1 : Int32) (x2 : Int32) (μ : zI) (ν : zJ), f_M_wordHere_4 q  n x1 x2 μ ν = some out → Z l D dA ad sh m_M_wordHere (zR 4 0 0) (zS ad) (zOi out) 0 0 0 0 [] 4 [(0, .ref (ad q)), (1, .int x1), (2, .int x2)] [] μ ν := by
  intro n
  induction n with
  | zero => intro x1 x2 μ ν hF; cases hF
  | succ n ih =>
    intro x1 x2 μ ν hF
    dsimp only [f_M_wordHere_4] at hF
    refine z_iload_n d_M_wordHere_4 2 rfl rfl ?_
    refine z_ldcW (idx := 91) d_M_wordHere_5 rfl (fun _ _ h => h) ?_
    obtain ⟨hy1, hF⟩ := zh_if hF
    refine z_callVr d_M_wordHere_7 (c_J_length (of_decide_eq_true hy1)) mv_J_length l_M_93 (fun _ _ h => h) (zrec_s (of_decide_eq_true hy1)) rfl ⟨Nat.le_of_ble_eq_true rfl, Nat.le_of_ble_eq_true rfl⟩ ⟨Nat.le_of_ble_eq_true rfl, Nat.le_of_ble_eq_true rfl⟩ rfl (Nat.le_of_ble_eq_true rfl) (fun r μ' ν' hq => ?_)
    rw [hq.1, hq.2.1, hq.2.2]
    show Z _ _ _ _ _ _ _ _ _ _ _ 0 0 _ _ _ [.int (nI (zSl 11)), .int x2] _ _
    refine z_icmp_ge d_M_wordHere_10 (tgt := 123) (by decide) (fun cy2 => ?_) (fun cy2 => ?_)
    · replace hF := zh_t cy2 hF
      refine z_iconst d_M_wordHere_123 (v := (-1)) (by decide) ?_
      cases hF
      exact z_ireturn d_M_wordHere_124 rfl rfl ⟨rfl, rfl, rfl⟩
    · replace hF := zh_f cy2 hF
      refine z_iconst d_M_wordHere_13 (v := 0) (by decide) ?_
      refine z_istore_n d_M_wordHere_14 rfl (by decide) (L2 := [(3, .int 0), (0, .ref (ad q)), (1, .int x1), (2, .int x2)]) rfl ?_
      refine z_sub [1, 2, 3, 0] (L' := [(0, .ref (ad q)), (1, .int x1), (2, .int x2), (3, .int 0)]) rfl ?_
      exact z_M_wordHere_15 hm (fun a0 a1 a2 a3 => ih a0 a1 a2 a3) zFuel _ _ _ _ _ hF
def e_M_wordHere_0 (q : Nat)   (μ : zI) (ν : zJ) : Option (Int32 × zI × zJ) := f_M_wordHere_4 q zFuel 0 0 μ ν
theorem z_M_wordHere_0 {l : Launch} {D : va_G} {dA : Nat → ClassId} {ad : Nat → Nat} {sh : List zSE}  {q : Nat} (hm : zMo sh q)   {μ : zI} {ν : zJ} {out : (Int32 × zI × zJ)} (hF : e_M_wordHere_0 q   μ ν = some out) : Z l D dA ad sh m_M_wordHere (zR 4 0 0) (zS ad) (zOi out) 0 0 0 0 [] 0 [(0, .ref (ad q))] [] μ ν := by
  unfold e_M_wordHere_0 at hF
  refine z_iconst d_M_wordHere_0 (v := 0) (by decide) ?_
  refine z_istore_n d_M_wordHere_1 rfl (by decide) (L2 := [(1, .int 0), (0, .ref (ad q))]) rfl ?_
  refine z_iconst d_M_wordHere_2 (v := 0) (by decide) ?_
  refine z_istore_n d_M_wordHere_3 rfl (by decide) (L2 := [(2, .int 0), (1, .int 0), (0, .ref (ad q))]) rfl ?_
  refine z_sub [2, 1, 0] (L' := [(0, .ref (ad q)), (1, .int 0), (2, .int 0)]) rfl ?_
  exact z_M_wordHere_4 hm  zFuel _ _ _ _ hF
def E_M_wordHere (q : Nat)  (μ : zI) (ν : zJ) : Option (Int32 × zI × zJ) := e_M_wordHere_0 q μ ν
theorem c_M_wordHere {l : Launch} {D : va_G} {dA : Nat → ClassId} {ad : Nat → Nat} {sh : List zSE} {μ : zI} {ν : zJ} {q : Nat} (hm : zMo sh q) {out : (Int32 × zI × zJ)} (hE : E_M_wordHere q μ ν = some out) : zC l D dA ad sh m_M_wordHere 4 0 0 [.ref (ad q)] μ ν (zOi out) :=
  zC.of (by decide) (Nat.le_of_ble_eq_true rfl) (z_M_wordHere_0 hm hE)
def e_M_token_18 (q : Nat) (r0 : zI → zJ → Option (zI × zJ))  (μ : zI) (ν : zJ) : Option (zI × zJ) := zlet (zu μ q 15 ((μ q 15) + 1)) fun μy1 => r0 μy1 ν
theorem z_M_token_18 {l : Launch} {D : va_G} {dA : Nat → ClassId} {ad : Nat → Nat} {sh : List zSE}  {q : Nat} (hm : zMo sh q) {r0 : zI → zJ → Option (zI × zJ)}  {μ : zI} {ν : zJ} {out : (zI × zJ)} (hr0 : ∀  (μ : zI) (ν : zJ), r0  μ ν = some out → Z l D dA ad sh m_M_token (zR 5 0 0) (zS ad) (zOv out) 0 0 0 0 [] 0 [(0, .ref (ad q))] [] μ ν) (hF : e_M_token_18 q r0  μ ν = some out) : Z l D dA ad sh m_M_token (zR 5 0 0) (zS ad) (zOv out) 0 0 0 0 [] 18 [(0, .ref (ad q))] [] μ ν := by
  unfold e_M_token_18 at hF
  refine z_aload_n d_M_token_18 0 rfl rfl ?_
  refine z_dup d_M_token_19 rfl ?_
  refine z_get d_M_token_20 f_M_61 (hm 0 _ rfl) rfl ?_
  refine z_iconst d_M_token_23 (v := 1) (by decide) ?_
  refine z_iadd d_M_token_24 ?_
  refine z_put d_M_token_25 f_M_61 (hm 0 _ rfl) rfl (CL_fin _ _ (fun q hq => by cases hq; rfl)) rfl rfl ?_
  obtain ⟨μy1, hy1, hF⟩ := zh_let hF
  refine z_eqm hy1 ?_
  refine z_goto d_M_token_28 (tgt := 0) (by decide) ?_
  exact hr0  _ _ hF
def e_M_token_215 (q : Nat)  (x1 : Int32) (μ : zI) (ν : zJ) : Option (zI × zJ) := some (μ, ν)
theorem z_M_token_215 {l : Launch} {D : va_G} {dA : Nat → ClassId} {ad : Nat → Nat} {sh : List zSE}  {q : Nat} (hm : zMo sh q)  {x1 : Int32} {μ : zI} {ν : zJ} {out : (zI × zJ)} (hF : e_M_token_215 q  x1 μ ν = some out) : Z l D dA ad sh m_M_token (zR 5 0 0) (zS ad) (zOv out) 0 0 0 0 [] 215 [(0, .ref (ad q)), (1, .int x1)] [] μ ν := by
  unfold e_M_token_215 at hF
  cases hF
  exact z_return d_M_token_215 rfl ⟨rfl, rfl, rfl⟩
def e_M_token_109 (q : Nat)  (x1 : Int32) (s1 : Int32) (μ : zI) (ν : zJ) : Option (zI × zJ) := zlet (zu μ q 17 s1) fun μy1 => e_M_token_215 q x1 μy1 ν
theorem z_M_token_109 {l : Launch} {D : va_G} {dA : Nat → ClassId} {ad : Nat → Nat} {sh : List zSE}  {q : Nat} (hm : zMo sh q)  {x1 : Int32} {s1 : Int32} {μ : zI} {ν : zJ} {out : (zI × zJ)} (hF : e_M_token_109 q  x1 s1 μ ν = some out) : Z l D dA ad sh m_M_token (zR 5 0 0) (zS ad) (zOv out) 0 0 0 0 [] 109 [(0, .ref (ad q)), (1, .int x1)] [.int s1, .ref (ad q)] μ ν := by
  unfold e_M_token_109 at hF
  refine z_put d_M_token_109 f_M_74 (hm 0 _ rfl) rfl (CL_fin _ _ (fun q hq => by cases hq; rfl)) rfl rfl ?_
  obtain ⟨μy1, hy1, hF⟩ := zh_let hF
  refine z_eqm hy1 ?_
  refine z_goto d_M_token_112 (tgt := 215) (by decide) ?_
  exact z_M_token_215 hm  hF
def f_M_token_64 (q : Nat)  : Nat → Int32 → zI → zJ → Option (zI × zJ)
  | 0, _, _, _ => none
  | n + 1, x1, μ, ν => Option.bind (E_M_here q μ ν) fun ty1 => Option.bind (E_M_isSmall ty1.1 ty1.2.1 ty1.2.2) fun ty2 => (if ty2.1 = 0 then Option.bind (E_M_wordHere q ty2.2.1 ty2.2.2) fun ty4 => zlet (zu ty4.2.1 q 18 ty4.1) fun μy5 => (if (μy5 q 18) = (-1) then e_M_token_109 q x1 4 μy5 ty4.2.2 else e_M_token_109 q x1 0 μy5 ty4.2.2) else zlet (zu ty2.2.1 q 15 ((ty2.2.1 q 15) + 1)) fun μy7 => (f_M_token_64 q n) x1 μy7 ty2.2.2)
theorem z_M_token_64 {l : Launch} {D : va_G} {dA : Nat → ClassId} {ad : Nat → Nat} {sh : List zSE}  {q : Nat} (hm : zMo sh q)  {out : (zI × zJ)} : ∀ (n : Nat) (x1 : Int32) (μ : zI) (ν : zJ), f_M_token_64 q  n x1 μ ν = some out → Z l D dA ad sh m_M_token (zR 5 0 0) (zS ad) (zOv out) 0 0 0 0 [] 64 [(0, .ref (ad q)), (1, .int x1)] [] μ ν := by
  intro n
  induction n with
  | zero => intro x1 μ ν hF; cases hF
  | succ n ih =>
    intro x1 μ ν hF
    dsimp only [f_M_token_64] at hF
    refine z_aload_n d_M_token_64 0 rfl rfl ?_
    obtain ⟨ty1, hty1, hF⟩ := zh_bind hF
    refine z_callV d_M_token_65 (c_M_here hm hty1) mv_M_here l_M_67 (fun _ _ h => h) (hm 0 _ rfl) rfl rfl ⟨Nat.le_of_ble_eq_true rfl, Nat.le_of_ble_eq_true rfl⟩ ⟨Nat.le_of_ble_eq_true rfl, Nat.le_of_ble_eq_true rfl⟩ rfl (Nat.le_of_ble_eq_true rfl) (fun r μ' ν' hq => ?_)
    obtain ⟨rfl, rfl, rfl⟩ := hq
    show Z _ _ _ _ _ _ _ _ _ _ _ 0 0 _ _ _ [.int ty1.1] _ _
    obtain ⟨ty2, hty2, hF⟩ := zh_bind hF
    refine z_callS d_M_token_68 (c_M_isSmall  hty2) ms_M_isSmall l_M_77 (fun _ _ h => h) rfl ⟨Nat.le_of_ble_eq_true rfl, Nat.le_of_ble_eq_true rfl⟩ ⟨Nat.le_of_ble_eq_true rfl, Nat.le_of_ble_eq_true rfl⟩ rfl (Nat.le_of_ble_eq_true rfl) (fun r μ' ν' hq => ?_)
    obtain ⟨rfl, rfl, rfl⟩ := hq
    show Z _ _ _ _ _ _ _ _ _ _ _ 0 0 _ _ _ [.int ty2.1] _ _
    refine z_if_eq d_M_token_71 (tgt := 87) (by decide) (fun cy3 => ?_) (fun cy3 => ?_)
    · replace hF := zh_t cy3 hF
      refine z_aload_n d_M_token_87 0 rfl rfl ?_
      refine z_aload_n d_M_token_88 0 rfl rfl ?_
      obtain ⟨ty4, hty4, hF⟩ := zh_bind hF
      refine z_callV d_M_token_89 (c_M_wordHere hm hty4) mv_M_wordHere l_M_81 (fun _ _ h => h) (hm 0 _ rfl) rfl rfl ⟨Nat.le_of_ble_eq_true rfl, Nat.le_of_ble_eq_true rfl⟩ ⟨Nat.le_of_ble_eq_true rfl, Nat.le_of_ble_eq_true rfl⟩ rfl (Nat.le_of_ble_eq_true rfl) (fun r μ' ν' hq => ?_)
      obtain ⟨rfl, rfl, rfl⟩ := hq
      show Z _ _ _ _ _ _ _ _ _ _ _ 0 0 _ _ _ [.int ty4.1, .ref (ad q)] _ _
      refine z_put d_M_token_92 f_M_84 (hm 0 _ rfl) rfl (CL_fin _ _ (fun q hq => by cases hq; rfl)) rfl rfl ?_
      obtain ⟨μy5, hy5, hF⟩ := zh_let hF
      refine z_eqm hy5 ?_
      refine z_aload_n d_M_token_95 0 rfl rfl ?_
      refine z_aload_n d_M_token_96 0 rfl rfl ?_
      refine z_get d_M_token_97 f_M_84 (hm 0 _ rfl) rfl ?_
      refine z_iconst d_M_token_100 (v := (-1)) (by decide) ?_
      refine z_icmp_eq d_M_token_101 (tgt := 108) (by decide) (fun cy6 => ?_) (fun cy6 => ?_)
      · replace hF := zh_t cy6 hF
        refine z_iconst d_M_token_108 (v := 4) (by decide) ?_
        exact z_M_token_109 hm  hF
      · replace hF := zh_f cy6 hF
        refine z_iconst d_M_token_104 (v := 0) (by decide) ?_
        refine z_goto d_M_token_105 (tgt := 109) (by decide) ?_
        exact z_M_token_109 hm  hF
    · replace hF := zh_f cy3 hF
      refine z_aload_n d_M_token_74 0 rfl rfl ?_
      refine z_dup d_M_token_75 rfl ?_
      refine z_get d_M_token_76 f_M_61 (hm 0 _ rfl) rfl ?_
      refine z_iconst d_M_token_79 (v := 1) (by decide) ?_
      refine z_iadd d_M_token_80 ?_
      refine z_put d_M_token_81 f_M_61 (hm 0 _ rfl) rfl (CL_fin _ _ (fun q hq => by cases hq; rfl)) rfl rfl ?_
      obtain ⟨μy7, hy7, hF⟩ := zh_let hF
      refine z_eqm hy7 ?_
      refine z_goto d_M_token_84 (tgt := 64) (by decide) ?_
      exact ih _ _ _ hF
def e_M_token_174 (q : Nat) (r132 : Int32 → zI → zJ → Option (zI × zJ)) (x1 : Int32) (s1 : Int32) (μ : zI) (ν : zJ) : Option (zI × zJ) := zlet (zu μ q 18 s1) fun μy1 => zlet (zu μy1 q 15 ((μy1 q 15) + 1)) fun μy2 => r132 x1 μy2 ν
theorem z_M_token_174 {l : Launch} {D : va_G} {dA : Nat → ClassId} {ad : Nat → Nat} {sh : List zSE}  {q : Nat} (hm : zMo sh q) {r132 : Int32 → zI → zJ → Option (zI × zJ)} {x1 : Int32} {s1 : Int32} {μ : zI} {ν : zJ} {out : (zI × zJ)} (hr132 : ∀ (x1 : Int32) (μ : zI) (ν : zJ), r132 x1 μ ν = some out → Z l D dA ad sh m_M_token (zR 5 0 0) (zS ad) (zOv out) 0 0 0 0 [] 132 [(0, .ref (ad q)), (1, .int x1)] [] μ ν) (hF : e_M_token_174 q r132 x1 s1 μ ν = some out) : Z l D dA ad sh m_M_token (zR 5 0 0) (zS ad) (zOv out) 0 0 0 0 [] 174 [(0, .ref (ad q)), (1, .int x1)] [.int s1, .ref (ad q)] μ ν := by
  unfold e_M_token_174 at hF
  refine z_put d_M_token_174 f_M_84 (hm 0 _ rfl) rfl (CL_fin _ _ (fun q hq => by cases hq; rfl)) rfl rfl ?_
  obtain ⟨μy1, hy1, hF⟩ := zh_let hF
  refine z_eqm hy1 ?_
  refine z_aload_n d_M_token_177 0 rfl rfl ?_
  refine z_dup d_M_token_178 rfl ?_
  refine z_get d_M_token_179 f_M_61 (hm 0 _ rfl) rfl ?_
  refine z_iconst d_M_token_182 (v := 1) (by decide) ?_
  refine z_iadd d_M_token_183 ?_
  refine z_put d_M_token_184 f_M_61 (hm 0 _ rfl) rfl (CL_fin _ _ (fun q hq => by cases hq; rfl)) rfl rfl ?_
  obtain ⟨μy2, hy2, hF⟩ := zh_let hF
  refine z_eqm hy2 ?_
  refine z_goto d_M_token_187 (tgt := 132) (by decide) ?_
  exact hr132 _ _ _ hF
def f_M_token_132 (q : Nat)  : Nat → Int32 → zI → zJ → Option (zI × zJ)
  | 0, _, _, _ => none
  | n + 1, x1, μ, ν => Option.bind (E_M_here q μ ν) fun ty1 => Option.bind (E_M_isDigit ty1.1 ty1.2.1 ty1.2.2) fun ty2 => (if ty2.1 = 0 then e_M_token_215 q x1 ty2.2.1 ty2.2.2 else (if (ty2.2.1 q 18) ≤ 99999 then Option.bind (E_M_here q ty2.2.1 ty2.2.2) fun ty5 => e_M_token_174 q (f_M_token_132 q n) x1 (((10 * (ty2.2.1 q 18)) + ty5.1) - 48) ty5.2.1 ty5.2.2 else e_M_token_174 q (f_M_token_132 q n) x1 (ty2.2.1 q 18) ty2.2.1 ty2.2.2))
theorem z_M_token_132 {l : Launch} {D : va_G} {dA : Nat → ClassId} {ad : Nat → Nat} {sh : List zSE}  {q : Nat} (hm : zMo sh q)  {out : (zI × zJ)} : ∀ (n : Nat) (x1 : Int32) (μ : zI) (ν : zJ), f_M_token_132 q  n x1 μ ν = some out → Z l D dA ad sh m_M_token (zR 5 0 0) (zS ad) (zOv out) 0 0 0 0 [] 132 [(0, .ref (ad q)), (1, .int x1)] [] μ ν := by
  intro n
  induction n with
  | zero => intro x1 μ ν hF; cases hF
  | succ n ih =>
    intro x1 μ ν hF
    dsimp only [f_M_token_132] at hF
    refine z_aload_n d_M_token_132 0 rfl rfl ?_
    obtain ⟨ty1, hty1, hF⟩ := zh_bind hF
    refine z_callV d_M_token_133 (c_M_here hm hty1) mv_M_here l_M_67 (fun _ _ h => h) (hm 0 _ rfl) rfl rfl ⟨Nat.le_of_ble_eq_true rfl, Nat.le_of_ble_eq_true rfl⟩ ⟨Nat.le_of_ble_eq_true rfl, Nat.le_of_ble_eq_true rfl⟩ rfl (Nat.le_of_ble_eq_true rfl) (fun r μ' ν' hq => ?_)
    obtain ⟨rfl, rfl, rfl⟩ := hq
    show Z _ _ _ _ _ _ _ _ _ _ _ 0 0 _ _ _ [.int ty1.1] _ _
    obtain ⟨ty2, hty2, hF⟩ := zh_bind hF
    refine z_callS d_M_token_136 (c_M_isDigit  hty2) ms_M_isDigit l_M_87 (fun _ _ h => h) rfl ⟨Nat.le_of_ble_eq_true rfl, Nat.le_of_ble_eq_true rfl⟩ ⟨Nat.le_of_ble_eq_true rfl, Nat.le_of_ble_eq_true rfl⟩ rfl (Nat.le_of_ble_eq_true rfl) (fun r μ' ν' hq => ?_)
    obtain ⟨rfl, rfl, rfl⟩ := hq
    show Z _ _ _ _ _ _ _ _ _ _ _ 0 0 _ _ _ [.int ty2.1] _ _
    refine z_if_eq d_M_token_139 (tgt := 215) (by decide) (fun cy3 => ?_) (fun cy3 => ?_)
    · replace hF := zh_t cy3 hF
      exact z_M_token_215 hm  hF
    · replace hF := zh_f cy3 hF
      refine z_aload_n d_M_token_142 0 rfl rfl ?_
      refine z_aload_n d_M_token_143 0 rfl rfl ?_
      refine z_get d_M_token_144 f_M_84 (hm 0 _ rfl) rfl ?_
      refine z_ldc d_M_token_147 k_M_90 ?_
      refine z_icmp_le d_M_token_149 (tgt := 159) (by decide) (fun cy4 => ?_) (fun cy4 => ?_)
      · replace hF := zh_t cy4 hF
        refine z_bipush d_M_token_159 (v := 10) (by decide) ?_
        refine z_aload_n d_M_token_161 0 rfl rfl ?_
        refine z_get d_M_token_162 f_M_84 (hm 0 _ rfl) rfl ?_
        refine z_imul d_M_token_165 ?_
        refine z_aload_n d_M_token_166 0 rfl rfl ?_
        obtain ⟨ty5, hty5, hF⟩ := zh_bind hF
        refine z_callV d_M_token_167 (c_M_here hm hty5) mv_M_here l_M_67 (fun _ _ h => h) (hm 0 _ rfl) rfl rfl ⟨Nat.le_of_ble_eq_true rfl, Nat.le_of_ble_eq_true rfl⟩ ⟨Nat.le_of_ble_eq_true rfl, Nat.le_of_ble_eq_true rfl⟩ rfl (Nat.le_of_ble_eq_true rfl) (fun r μ' ν' hq => ?_)
        obtain ⟨rfl, rfl, rfl⟩ := hq
        show Z _ _ _ _ _ _ _ _ _ _ _ 0 0 _ _ _ [.int ty5.1, .int (10 * (ty2.2.1 q 18)), .ref (ad q)] _ _
        refine z_iadd d_M_token_170 ?_
        refine z_bipush d_M_token_171 (v := 48) (by decide) ?_
        refine z_isub d_M_token_173 ?_
        exact z_M_token_174 hm (fun a0 a1 a2 => ih a0 a1 a2) hF
      · replace hF := zh_f cy4 hF
        refine z_aload_n d_M_token_152 0 rfl rfl ?_
        refine z_get d_M_token_153 f_M_84 (hm 0 _ rfl) rfl ?_
        refine z_goto d_M_token_156 (tgt := 174) (by decide) ?_
        exact z_M_token_174 hm (fun a0 a1 a2 => ih a0 a1 a2) hF
def e_M_token_202 (q : Nat)  (x1 : Int32) (s1 : Int32) (μ : zI) (ν : zJ) : Option (zI × zJ) := zlet (zu μ q 17 s1) fun μy1 => zlet (zu μy1 q 15 ((μy1 q 15) + 1)) fun μy2 => e_M_token_215 q x1 μy2 ν
theorem z_M_token_202 {l : Launch} {D : va_G} {dA : Nat → ClassId} {ad : Nat → Nat} {sh : List zSE}  {q : Nat} (hm : zMo sh q)  {x1 : Int32} {s1 : Int32} {μ : zI} {ν : zJ} {out : (zI × zJ)} (hF : e_M_token_202 q  x1 s1 μ ν = some out) : Z l D dA ad sh m_M_token (zR 5 0 0) (zS ad) (zOv out) 0 0 0 0 [] 202 [(0, .ref (ad q)), (1, .int x1)] [.int s1, .ref (ad q)] μ ν := by
  unfold e_M_token_202 at hF
  refine z_put d_M_token_202 f_M_74 (hm 0 _ rfl) rfl (CL_fin _ _ (fun q hq => by cases hq; rfl)) rfl rfl ?_
  obtain ⟨μy1, hy1, hF⟩ := zh_let hF
  refine z_eqm hy1 ?_
  refine z_aload_n d_M_token_205 0 rfl rfl ?_
  refine z_dup d_M_token_206 rfl ?_
  refine z_get d_M_token_207 f_M_61 (hm 0 _ rfl) rfl ?_
  refine z_iconst d_M_token_210 (v := 1) (by decide) ?_
  refine z_iadd d_M_token_211 ?_
  refine z_put d_M_token_212 f_M_61 (hm 0 _ rfl) rfl (CL_fin _ _ (fun q hq => by cases hq; rfl)) rfl rfl ?_
  obtain ⟨μy2, hy2, hF⟩ := zh_let hF
  refine z_eqm hy2 ?_
  exact z_M_token_215 hm  hF
def f_M_token_0 (q : Nat)  : Nat → zI → zJ → Option (zI × zJ)
  | 0, _, _ => none
  | n + 1, μ, ν => Option.bind (E_M_here q μ ν) fun ty1 => (if ty1.1 = 10 then e_M_token_18 q (f_M_token_0 q n) ty1.2.1 ty1.2.2 else Option.bind (E_M_here q ty1.2.1 ty1.2.2) fun ty3 => (if ty3.1 = 32 then e_M_token_18 q (f_M_token_0 q n) ty3.2.1 ty3.2.2 else zlet (zu ty3.2.1 q 16 (ty3.2.1 q 15)) fun μy5 => Option.bind (E_M_here q μy5 ty3.2.2) fun ty6 => zlet (α := Int32) ty6.1 fun y7 => (if y7 = (-1) then zlet (zu ty6.2.1 q 17 3) fun μy16 => e_M_token_215 q y7 μy16 ty6.2.2 else Option.bind (E_M_isSmall y7 ty6.2.1 ty6.2.2) fun ty9 => (if ty9.1 = 0 then Option.bind (E_M_isDigit y7 ty9.2.1 ty9.2.2) fun ty11 => (if ty11.1 = 0 then (if y7 = 59 then e_M_token_202 q y7 2 ty11.2.1 ty11.2.2 else e_M_token_202 q y7 4 ty11.2.1 ty11.2.2) else zlet (zu ty11.2.1 q 17 1) fun μy14 => zlet (zu μy14 q 18 0) fun μy15 => f_M_token_132 q zFuel y7 μy15 ty11.2.2) else f_M_token_64 q zFuel y7 ty9.2.1 ty9.2.2))))
theorem z_M_token_0 {l : Launch} {D : va_G} {dA : Nat → ClassId} {ad : Nat → Nat} {sh : List zSE}  {q : Nat} (hm : zMo sh q)  {out : (zI × zJ)} : ∀ (n : Nat)  (μ : zI) (ν : zJ), f_M_token_0 q  n  μ ν = some out → Z l D dA ad sh m_M_token (zR 5 0 0) (zS ad) (zOv out) 0 0 0 0 [] 0 [(0, .ref (ad q))] [] μ ν := by
  intro n
  induction n with
  | zero => intro  μ ν hF; cases hF
  | succ n ih =>
    intro  μ ν hF
    dsimp only [f_M_token_0] at hF
    refine z_aload_n d_M_token_0 0 rfl rfl ?_
    obtain ⟨ty1, hty1, hF⟩ := zh_bind hF
    refine z_callV d_M_token_1 (c_M_here hm hty1) mv_M_here l_M_67 (fun _ _ h => h) (hm 0 _ rfl) rfl rfl ⟨Nat.le_of_ble_eq_true rfl, Nat.le_of_ble_eq_true rfl⟩ ⟨Nat.le_of_ble_eq_true rfl, Nat.le_of_ble_eq_true rfl⟩ rfl (Nat.le_of_ble_eq_true rfl) (fun r μ' ν' hq => ?_)
    obtain ⟨rfl, rfl, rfl⟩ := hq
    show Z _ _ _ _ _ _ _ _ _ _ _ 0 0 _ _ _ [.int ty1.1] _ _
    refine z_bipush d_M_token_4 (v := 10) (by decide) ?_
    refine z_icmp_eq d_M_token_6 (tgt := 18) (by decide) (fun cy2 => ?_) (fun cy2 => ?_)
    · replace hF := zh_t cy2 hF
      exact z_M_token_18 hm (fun a0 a1 => ih a0 a1) hF
    · replace hF := zh_f cy2 hF
      refine z_aload_n d_M_token_9 0 rfl rfl ?_
      obtain ⟨ty3, hty3, hF⟩ := zh_bind hF
      refine z_callV d_M_token_10 (c_M_here hm hty3) mv_M_here l_M_67 (fun _ _ h => h) (hm 0 _ rfl) rfl rfl ⟨Nat.le_of_ble_eq_true rfl, Nat.le_of_ble_eq_true rfl⟩ ⟨Nat.le_of_ble_eq_true rfl, Nat.le_of_ble_eq_true rfl⟩ rfl (Nat.le_of_ble_eq_true rfl) (fun r μ' ν' hq => ?_)
      obtain ⟨rfl, rfl, rfl⟩ := hq
      show Z _ _ _ _ _ _ _ _ _ _ _ 0 0 _ _ _ [.int ty3.1] _ _
      refine z_bipush d_M_token_13 (v := 32) (by decide) ?_
      refine z_icmp_ne d_M_token_15 (tgt := 31) (by decide) (fun cy4 => ?_) (fun cy4 => ?_)
      · replace hF := zh_f cy4 hF
        refine z_aload_n d_M_token_31 0 rfl rfl ?_
        refine z_aload_n d_M_token_32 0 rfl rfl ?_
        refine z_get d_M_token_33 f_M_61 (hm 0 _ rfl) rfl ?_
        refine z_put d_M_token_36 f_M_71 (hm 0 _ rfl) rfl (CL_fin _ _ (fun q hq => by cases hq; rfl)) rfl rfl ?_
        obtain ⟨μy5, hy5, hF⟩ := zh_let hF
        refine z_eqm hy5 ?_
        refine z_aload_n d_M_token_39 0 rfl rfl ?_
        obtain ⟨ty6, hty6, hF⟩ := zh_bind hF
        refine z_callV d_M_token_40 (c_M_here hm hty6) mv_M_here l_M_67 (fun _ _ h => h) (hm 0 _ rfl) rfl rfl ⟨Nat.le_of_ble_eq_true rfl, Nat.le_of_ble_eq_true rfl⟩ ⟨Nat.le_of_ble_eq_true rfl, Nat.le_of_ble_eq_true rfl⟩ rfl (Nat.le_of_ble_eq_true rfl) (fun r μ' ν' hq => ?_)
        obtain ⟨rfl, rfl, rfl⟩ := hq
        show Z _ _ _ _ _ _ _ _ _ _ _ 0 0 _ _ _ [.int ty6.1] _ _
        obtain ⟨y7, hy7, hF⟩ := zh_let hF
        refine z_eqi hy7 ?_
        refine z_istore_n d_M_token_43 rfl (by decide) (L2 := [(1, .int y7), (0, .ref (ad q))]) rfl ?_
        refine z_iload_n d_M_token_44 0 rfl rfl ?_
        refine z_iconst d_M_token_45 (v := (-1)) (by decide) ?_
        refine z_icmp_ne d_M_token_46 (tgt := 57) (by decide) (fun cy8 => ?_) (fun cy8 => ?_)
        · replace hF := zh_f cy8 hF
          refine z_iload_n d_M_token_57 0 rfl rfl ?_
          obtain ⟨ty9, hty9, hF⟩ := zh_bind hF
          refine z_callS d_M_token_58 (c_M_isSmall  hty9) ms_M_isSmall l_M_77 (fun _ _ h => h) rfl ⟨Nat.le_of_ble_eq_true rfl, Nat.le_of_ble_eq_true rfl⟩ ⟨Nat.le_of_ble_eq_true rfl, Nat.le_of_ble_eq_true rfl⟩ rfl (Nat.le_of_ble_eq_true rfl) (fun r μ' ν' hq => ?_)
          obtain ⟨rfl, rfl, rfl⟩ := hq
          show Z _ _ _ _ _ _ _ _ _ _ _ 0 0 _ _ _ [.int ty9.1] _ _
          refine z_if_eq d_M_token_61 (tgt := 115) (by decide) (fun cy10 => ?_) (fun cy10 => ?_)
          · replace hF := zh_t cy10 hF
            refine z_iload_n d_M_token_115 0 rfl rfl ?_
            obtain ⟨ty11, hty11, hF⟩ := zh_bind hF
            refine z_callS d_M_token_116 (c_M_isDigit  hty11) ms_M_isDigit l_M_87 (fun _ _ h => h) rfl ⟨Nat.le_of_ble_eq_true rfl, Nat.le_of_ble_eq_true rfl⟩ ⟨Nat.le_of_ble_eq_true rfl, Nat.le_of_ble_eq_true rfl⟩ rfl (Nat.le_of_ble_eq_true rfl) (fun r μ' ν' hq => ?_)
            obtain ⟨rfl, rfl, rfl⟩ := hq
            show Z _ _ _ _ _ _ _ _ _ _ _ 0 0 _ _ _ [.int ty11.1] _ _
            refine z_if_eq d_M_token_119 (tgt := 190) (by decide) (fun cy12 => ?_) (fun cy12 => ?_)
            · replace hF := zh_t cy12 hF
              refine z_aload_n d_M_token_190 1 rfl rfl ?_
              refine z_iload_n d_M_token_191 0 rfl rfl ?_
              refine z_bipush d_M_token_192 (v := 59) (by decide) ?_
              refine z_icmp_ne d_M_token_194 (tgt := 201) (by decide) (fun cy13 => ?_) (fun cy13 => ?_)
              · replace hF := zh_f cy13 hF
                refine z_iconst d_M_token_201 (v := 4) (by decide) ?_
                refine z_sub [1, 0] (L' := [(0, .ref (ad q)), (1, .int y7)]) rfl ?_
                exact z_M_token_202 hm  hF
              · replace hF := zh_t cy13 hF
                refine z_iconst d_M_token_197 (v := 2) (by decide) ?_
                refine z_goto d_M_token_198 (tgt := 202) (by decide) ?_
                refine z_sub [1, 0] (L' := [(0, .ref (ad q)), (1, .int y7)]) rfl ?_
                exact z_M_token_202 hm  hF
            · replace hF := zh_f cy12 hF
              refine z_aload_n d_M_token_122 1 rfl rfl ?_
              refine z_iconst d_M_token_123 (v := 1) (by decide) ?_
              refine z_put d_M_token_124 f_M_74 (hm 0 _ rfl) rfl (CL_fin _ _ (fun q hq => by cases hq; rfl)) rfl rfl ?_
              obtain ⟨μy14, hy14, hF⟩ := zh_let hF
              refine z_eqm hy14 ?_
              refine z_aload_n d_M_token_127 1 rfl rfl ?_
              refine z_iconst d_M_token_128 (v := 0) (by decide) ?_
              refine z_put d_M_token_129 f_M_84 (hm 0 _ rfl) rfl (CL_fin _ _ (fun q hq => by cases hq; rfl)) rfl rfl ?_
              obtain ⟨μy15, hy15, hF⟩ := zh_let hF
              refine z_eqm hy15 ?_
              refine z_sub [1, 0] (L' := [(0, .ref (ad q)), (1, .int y7)]) rfl ?_
              exact z_M_token_132 hm  zFuel _ _ _ hF
          · replace hF := zh_f cy10 hF
            refine z_sub [1, 0] (L' := [(0, .ref (ad q)), (1, .int y7)]) rfl ?_
            exact z_M_token_64 hm  zFuel _ _ _ hF
        · replace hF := zh_t cy8 hF
          refine z_aload_n d_M_token_49 1 rfl rfl ?_
          refine z_iconst d_M_token_50 (v := 3) (by decide) ?_
          refine z_put d_M_token_51 f_M_74 (hm 0 _ rfl) rfl (CL_fin _ _ (fun q hq => by cases hq; rfl)) rfl rfl ?_
          obtain ⟨μy16, hy16, hF⟩ := zh_let hF
          refine z_eqm hy16 ?_
          refine z_goto d_M_token_54 (tgt := 215) (by decide) ?_
          refine z_sub [1, 0] (L' := [(0, .ref (ad q)), (1, .int y7)]) rfl ?_
          exact z_M_token_215 hm  hF
      · replace hF := zh_t cy4 hF
        exact z_M_token_18 hm (fun a0 a1 => ih a0 a1) hF
def E_M_token (q : Nat)  (μ : zI) (ν : zJ) : Option (zI × zJ) := f_M_token_0 q zFuel μ ν
theorem c_M_token {l : Launch} {D : va_G} {dA : Nat → ClassId} {ad : Nat → Nat} {sh : List zSE} {μ : zI} {ν : zJ} {q : Nat} (hm : zMo sh q) {out : (zI × zJ)} (hE : E_M_token q μ ν = some out) : zC l D dA ad sh m_M_token 5 0 0 [.ref (ad q)] μ ν (zOv out) :=
  zC.of (by decide) (Nat.le_of_ble_eq_true rfl) (z_M_token_0 hm zFuel _ _ hE)
def e_M_goOn_11 (q : Nat)   (μ : zI) (ν : zJ) : Option (zI × zJ) := some (μ, ν)
theorem z_M_goOn_11 {l : Launch} {D : va_G} {dA : Nat → ClassId} {ad : Nat → Nat} {sh : List zSE}  {q : Nat} (hm : zMo sh q)   {μ : zI} {ν : zJ} {out : (zI × zJ)} (hF : e_M_goOn_11 q   μ ν = some out) : Z l D dA ad sh m_M_goOn (zR 6 0 0) (zS ad) (zOv out) 0 0 0 0 [] 11 [(0, .ref (ad q))] [] μ ν := by
  unfold e_M_goOn_11 at hF
  cases hF
  exact z_return d_M_goOn_11 rfl ⟨rfl, rfl, rfl⟩
def e_M_goOn_0 (q : Nat)   (μ : zI) (ν : zJ) : Option (zI × zJ) := (if (μ q 19) = 0 then Option.bind (E_M_token q μ ν) fun ty2 => e_M_goOn_11 q ty2.1 ty2.2 else e_M_goOn_11 q μ ν)
theorem z_M_goOn_0 {l : Launch} {D : va_G} {dA : Nat → ClassId} {ad : Nat → Nat} {sh : List zSE}  {q : Nat} (hm : zMo sh q)   {μ : zI} {ν : zJ} {out : (zI × zJ)} (hF : e_M_goOn_0 q   μ ν = some out) : Z l D dA ad sh m_M_goOn (zR 6 0 0) (zS ad) (zOv out) 0 0 0 0 [] 0 [(0, .ref (ad q))] [] μ ν := by
  unfold e_M_goOn_0 at hF
  refine z_aload_n d_M_goOn_0 0 rfl rfl ?_
  refine z_get d_M_goOn_1 f_M_102 (hm 0 _ rfl) rfl ?_
  refine z_if_ne d_M_goOn_4 (tgt := 11) (by decide) (fun cy1 => ?_) (fun cy1 => ?_)
  · replace hF := zh_f cy1 hF
    exact z_M_goOn_11 hm  hF
  · replace hF := zh_t cy1 hF
    refine z_aload_n d_M_goOn_7 0 rfl rfl ?_
    obtain ⟨ty2, hty2, hF⟩ := zh_bind hF
    refine z_callV d_M_goOn_8 (c_M_token hm hty2) mv_M_token l_M_108 (fun _ _ h => h) (hm 0 _ rfl) rfl rfl ⟨Nat.le_of_ble_eq_true rfl, Nat.le_of_ble_eq_true rfl⟩ ⟨Nat.le_of_ble_eq_true rfl, Nat.le_of_ble_eq_true rfl⟩ rfl (Nat.le_of_ble_eq_true rfl) (fun r μ' ν' hq => ?_)
    obtain ⟨rfl, rfl, rfl⟩ := hq
    show Z _ _ _ _ _ _ _ _ _ _ _ 0 0 _ _ _ [] _ _
    exact z_M_goOn_11 hm  hF
def E_M_goOn (q : Nat)  (μ : zI) (ν : zJ) : Option (zI × zJ) := e_M_goOn_0 q μ ν
theorem c_M_goOn {l : Launch} {D : va_G} {dA : Nat → ClassId} {ad : Nat → Nat} {sh : List zSE} {μ : zI} {ν : zJ} {q : Nat} (hm : zMo sh q) {out : (zI × zJ)} (hE : E_M_goOn q μ ν = some out) : zC l D dA ad sh m_M_goOn 6 0 0 [.ref (ad q)] μ ν (zOv out) :=
  zC.of (by decide) (Nat.le_of_ble_eq_true rfl) (z_M_goOn_0 hm hE)
def e_M_numeral_61 (q : Nat)  (x1 : Int32) (x2 : Int32) (s0 : Int32) (μ : zI) (ν : zJ) : Option (Int32 × zI × zJ) := Option.bind (E_M_goOn q μ ν) fun ty1 => some (s0, ty1.1, ty1.2)
theorem z_M_numeral_61 {l : Launch} {D : va_G} {dA : Nat → ClassId} {ad : Nat → Nat} {sh : List zSE}  {q : Nat} (hm : zMo sh q)  {x1 : Int32} {x2 : Int32} {s0 : Int32} {μ : zI} {ν : zJ} {out : (Int32 × zI × zJ)} (hF : e_M_numeral_61 q  x1 x2 s0 μ ν = some out) : Z l D dA ad sh m_M_numeral (zR 7 0 0) (zS ad) (zOi out) 0 0 0 0 [] 61 [(0, .ref (ad q)), (1, .int x1), (2, .int x2)] [.int s0] μ ν := by
  unfold e_M_numeral_61 at hF
  refine z_istore_n d_M_numeral_61 rfl (by decide) (L2 := [(3, .int s0), (0, .ref (ad q)), (1, .int x1), (2, .int x2)]) rfl ?_
  refine z_aload_n d_M_numeral_62 1 rfl rfl ?_
  obtain ⟨ty1, hty1, hF⟩ := zh_bind hF
  refine z_callV d_M_numeral_63 (c_M_goOn hm hty1) mv_M_goOn l_M_115 (fun _ _ h => h) (hm 0 _ rfl) rfl rfl ⟨Nat.le_of_ble_eq_true rfl, Nat.le_of_ble_eq_true rfl⟩ ⟨Nat.le_of_ble_eq_true rfl, Nat.le_of_ble_eq_true rfl⟩ rfl (Nat.le_of_ble_eq_true rfl) (fun r μ' ν' hq => ?_)
  obtain ⟨rfl, rfl, rfl⟩ := hq
  show Z _ _ _ _ _ _ _ _ _ _ _ 0 0 _ _ _ [] _ _
  refine z_iload_n d_M_numeral_66 0 rfl rfl ?_
  cases hF
  exact z_ireturn d_M_numeral_67 rfl rfl ⟨rfl, rfl, rfl⟩
def e_M_numeral_46 (q : Nat)  (x1 : Int32) (x2 : Int32) (μ : zI) (ν : zJ) : Option (Int32 × zI × zJ) := (if (μ q 19) = 0 then e_M_numeral_61 q x1 x2 (μ q 18) μ ν else e_M_numeral_61 q x1 x2 x1 μ ν)
theorem z_M_numeral_46 {l : Launch} {D : va_G} {dA : Nat → ClassId} {ad : Nat → Nat} {sh : List zSE}  {q : Nat} (hm : zMo sh q)  {x1 : Int32} {x2 : Int32} {μ : zI} {ν : zJ} {out : (Int32 × zI × zJ)} (hF : e_M_numeral_46 q  x1 x2 μ ν = some out) : Z l D dA ad sh m_M_numeral (zR 7 0 0) (zS ad) (zOi out) 0 0 0 0 [] 46 [(0, .ref (ad q)), (1, .int x1), (2, .int x2)] [] μ ν := by
  unfold e_M_numeral_46 at hF
  refine z_aload_n d_M_numeral_46 0 rfl rfl ?_
  refine z_get d_M_numeral_47 f_M_102 (hm 0 _ rfl) rfl ?_
  refine z_if_ne d_M_numeral_50 (tgt := 60) (by decide) (fun cy1 => ?_) (fun cy1 => ?_)
  · replace hF := zh_f cy1 hF
    refine z_iload_n d_M_numeral_60 1 rfl rfl ?_
    exact z_M_numeral_61 hm  hF
  · replace hF := zh_t cy1 hF
    refine z_aload_n d_M_numeral_53 0 rfl rfl ?_
    refine z_get d_M_numeral_54 f_M_84 (hm 0 _ rfl) rfl ?_
    refine z_goto d_M_numeral_57 (tgt := 61) (by decide) ?_
    exact z_M_numeral_61 hm  hF
def e_M_numeral_41 (q : Nat)  (x1 : Int32) (x2 : Int32) (μ : zI) (ν : zJ) : Option (Int32 × zI × zJ) := Option.bind (E_M_wrong q 2 μ ν) fun ty1 => e_M_numeral_46 q x1 x2 ty1.1 ty1.2
theorem z_M_numeral_41 {l : Launch} {D : va_G} {dA : Nat → ClassId} {ad : Nat → Nat} {sh : List zSE}  {q : Nat} (hm : zMo sh q)  {x1 : Int32} {x2 : Int32} {μ : zI} {ν : zJ} {out : (Int32 × zI × zJ)} (hF : e_M_numeral_41 q  x1 x2 μ ν = some out) : Z l D dA ad sh m_M_numeral (zR 7 0 0) (zS ad) (zOi out) 0 0 0 0 [] 41 [(0, .ref (ad q)), (1, .int x1), (2, .int x2)] [] μ ν := by
  unfold e_M_numeral_41 at hF
  refine z_aload_n d_M_numeral_41 0 rfl rfl ?_
  refine z_iconst d_M_numeral_42 (v := 2) (by decide) ?_
  obtain ⟨ty1, hty1, hF⟩ := zh_bind hF
  refine z_callV d_M_numeral_43 (c_M_wrong hm hty1) mv_M_wrong l_M_111 (fun _ _ h => h) (hm 0 _ rfl) rfl rfl ⟨Nat.le_of_ble_eq_true rfl, Nat.le_of_ble_eq_true rfl⟩ ⟨Nat.le_of_ble_eq_true rfl, Nat.le_of_ble_eq_true rfl⟩ rfl (Nat.le_of_ble_eq_true rfl) (fun r μ' ν' hq => ?_)
  obtain ⟨rfl, rfl, rfl⟩ := hq
  show Z _ _ _ _ _ _ _ _ _ _ _ 0 0 _ _ _ [] _ _
  exact z_M_numeral_46 hm  hF
def e_M_numeral_0 (q : Nat)  (x1 : Int32) (x2 : Int32) (μ : zI) (ν : zJ) : Option (Int32 × zI × zJ) := (if (μ q 19) = 0 then (if (μ q 17) = 1 then (if (μ q 18) < x1 then e_M_numeral_41 q x1 x2 μ ν else (if (μ q 18) ≤ x2 then e_M_numeral_46 q x1 x2 μ ν else e_M_numeral_41 q x1 x2 μ ν)) else Option.bind (E_M_wrong q 1 μ ν) fun ty5 => e_M_numeral_46 q x1 x2 ty5.1 ty5.2) else some (x1, μ, ν))
theorem z_M_numeral_0 {l : Launch} {D : va_G} {dA : Nat → ClassId} {ad : Nat → Nat} {sh : List zSE}  {q : Nat} (hm : zMo sh q)  {x1 : Int32} {x2 : Int32} {μ : zI} {ν : zJ} {out : (Int32 × zI × zJ)} (hF : e_M_numeral_0 q  x1 x2 μ ν = some out) : Z l D dA ad sh m_M_numeral (zR 7 0 0) (zS ad) (zOi out) 0 0 0 0 [] 0 [(0, .ref (ad q)), (1, .int x1), (2, .int x2)] [] μ ν := by
  unfold e_M_numeral_0 at hF
  refine z_aload_n d_M_numeral_0 0 rfl rfl ?_
  refine z_get d_M_numeral_1 f_M_102 (hm 0 _ rfl) rfl ?_
  refine z_if_eq d_M_numeral_4 (tgt := 9) (by decide) (fun cy1 => ?_) (fun cy1 => ?_)
  · replace hF := zh_t cy1 hF
    refine z_aload_n d_M_numeral_9 0 rfl rfl ?_
    refine z_get d_M_numeral_10 f_M_74 (hm 0 _ rfl) rfl ?_
    refine z_iconst d_M_numeral_13 (v := 1) (by decide) ?_
    refine z_icmp_eq d_M_numeral_14 (tgt := 25) (by decide) (fun cy2 => ?_) (fun cy2 => ?_)
    · replace hF := zh_t cy2 hF
      refine z_aload_n d_M_numeral_25 0 rfl rfl ?_
      refine z_get d_M_numeral_26 f_M_84 (hm 0 _ rfl) rfl ?_
      refine z_iload_n d_M_numeral_29 1 rfl rfl ?_
      refine z_icmp_lt d_M_numeral_30 (tgt := 41) (by decide) (fun cy3 => ?_) (fun cy3 => ?_)
      · replace hF := zh_t cy3 hF
        exact z_M_numeral_41 hm  hF
      · replace hF := zh_f cy3 hF
        refine z_aload_n d_M_numeral_33 0 rfl rfl ?_
        refine z_get d_M_numeral_34 f_M_84 (hm 0 _ rfl) rfl ?_
        refine z_iload_n d_M_numeral_37 2 rfl rfl ?_
        refine z_icmp_le d_M_numeral_38 (tgt := 46) (by decide) (fun cy4 => ?_) (fun cy4 => ?_)
        · replace hF := zh_t cy4 hF
          exact z_M_numeral_46 hm  hF
        · replace hF := zh_f cy4 hF
          exact z_M_numeral_41 hm  hF
    · replace hF := zh_f cy2 hF
      refine z_aload_n d_M_numeral_17 0 rfl rfl ?_
      refine z_iconst d_M_numeral_18 (v := 1) (by decide) ?_
      obtain ⟨ty5, hty5, hF⟩ := zh_bind hF
      refine z_callV d_M_numeral_19 (c_M_wrong hm hty5) mv_M_wrong l_M_111 (fun _ _ h => h) (hm 0 _ rfl) rfl rfl ⟨Nat.le_of_ble_eq_true rfl, Nat.le_of_ble_eq_true rfl⟩ ⟨Nat.le_of_ble_eq_true rfl, Nat.le_of_ble_eq_true rfl⟩ rfl (Nat.le_of_ble_eq_true rfl) (fun r μ' ν' hq => ?_)
      obtain ⟨rfl, rfl, rfl⟩ := hq
      show Z _ _ _ _ _ _ _ _ _ _ _ 0 0 _ _ _ [] _ _
      refine z_goto d_M_numeral_22 (tgt := 46) (by decide) ?_
      exact z_M_numeral_46 hm  hF
  · replace hF := zh_f cy1 hF
    refine z_iload_n d_M_numeral_7 1 rfl rfl ?_
    cases hF
    exact z_ireturn d_M_numeral_8 rfl rfl ⟨rfl, rfl, rfl⟩
def E_M_numeral (q : Nat) (x1 : Int32) (x2 : Int32) (μ : zI) (ν : zJ) : Option (Int32 × zI × zJ) := e_M_numeral_0 q x1 x2 μ ν
theorem c_M_numeral {l : Launch} {D : va_G} {dA : Nat → ClassId} {ad : Nat → Nat} {sh : List zSE} {μ : zI} {ν : zJ} {q : Nat} {x1 : Int32} {x2 : Int32} (hm : zMo sh q) {out : (Int32 × zI × zJ)} (hE : E_M_numeral q x1 x2 μ ν = some out) : zC l D dA ad sh m_M_numeral 7 0 0 [.ref (ad q), .int x1, .int x2] μ ν (zOi out) :=
  zC.of (by decide) (Nat.le_of_ble_eq_true rfl) (z_M_numeral_0 hm hE)
def f_M_tells_2 (q : Nat)  : Nat → Int32 → Int32 → Int32 → zI → zJ → Option (zI × zJ)
  | 0, _, _, _, _, _ => none
  | n + 1, x1, x2, x3, μ, ν => (if x2 < x3 then some (μ, ν) else Option.bind (E_M_leastOf x3 μ ν) fun ty2 => Option.bind (E_M_mostOf x3 ty2.2.1 ty2.2.2) fun ty3 => Option.bind (E_M_numeral q ty2.1 ty3.1 ty3.2.1 ty3.2.2) fun ty4 => (if zin x3 19 = true then zlet (zu ty4.2.1 (q + 2) (Int32.toNatClampNeg x3) ty4.1) fun μy6 => (f_M_tells_2 q n) x1 x2 (x3 + 1) μy6 ty4.2.2 else none))
theorem z_M_tells_2 {l : Launch} {D : va_G} {dA : Nat → ClassId} {ad : Nat → Nat} {sh : List zSE}  {q : Nat} (hm : zMo sh q)  {out : (zI × zJ)} : ∀ (n : Nat) (x1 : Int32) (x2 : Int32) (x3 : Int32) (μ : zI) (ν : zJ), f_M_tells_2 q  n x1 x2 x3 μ ν = some out → Z l D dA ad sh m_M_tells (zR 8 0 0) (zS ad) (zOv out) 0 0 0 0 [] 2 [(0, .ref (ad q)), (1, .int x1), (2, .int x2), (3, .int x3)] [] μ ν := by
  intro n
  induction n with
  | zero => intro x1 x2 x3 μ ν hF; cases hF
  | succ n ih =>
    intro x1 x2 x3 μ ν hF
    dsimp only [f_M_tells_2] at hF
    refine z_iload_n d_M_tells_2 3 rfl rfl ?_
    refine z_iload_n d_M_tells_3 2 rfl rfl ?_
    refine z_icmp_gt d_M_tells_4 (tgt := 31) (by decide) (fun cy1 => ?_) (fun cy1 => ?_)
    · replace hF := zh_t cy1 hF
      cases hF
      exact z_return d_M_tells_31 rfl ⟨rfl, rfl, rfl⟩
    · replace hF := zh_f cy1 hF
      refine z_aload_n d_M_tells_7 0 rfl rfl ?_
      refine z_getr d_M_tells_8 (q := (q + 2)) f_M_13 (hm 0 _ rfl) rfl ?_
      refine z_iload_n d_M_tells_11 3 rfl rfl ?_
      refine z_aload_n d_M_tells_12 0 rfl rfl ?_
      refine z_iload_n d_M_tells_13 3 rfl rfl ?_
      obtain ⟨ty2, hty2, hF⟩ := zh_bind hF
      refine z_callS d_M_tells_14 (c_M_leastOf  hty2) ms_M_leastOf l_M_118 (fun _ _ h => h) rfl ⟨Nat.le_of_ble_eq_true rfl, Nat.le_of_ble_eq_true rfl⟩ ⟨Nat.le_of_ble_eq_true rfl, Nat.le_of_ble_eq_true rfl⟩ rfl (Nat.le_of_ble_eq_true rfl) (fun r μ' ν' hq => ?_)
      obtain ⟨rfl, rfl, rfl⟩ := hq
      show Z _ _ _ _ _ _ _ _ _ _ _ 0 0 _ _ _ [.int ty2.1, .ref (ad q), .int x3, .ref (ad (q + 2))] _ _
      refine z_iload_n d_M_tells_17 3 rfl rfl ?_
      obtain ⟨ty3, hty3, hF⟩ := zh_bind hF
      refine z_callS d_M_tells_18 (c_M_mostOf  hty3) ms_M_mostOf l_M_122 (fun _ _ h => h) rfl ⟨Nat.le_of_ble_eq_true rfl, Nat.le_of_ble_eq_true rfl⟩ ⟨Nat.le_of_ble_eq_true rfl, Nat.le_of_ble_eq_true rfl⟩ rfl (Nat.le_of_ble_eq_true rfl) (fun r μ' ν' hq => ?_)
      obtain ⟨rfl, rfl, rfl⟩ := hq
      show Z _ _ _ _ _ _ _ _ _ _ _ 0 0 _ _ _ [.int ty3.1, .int ty2.1, .ref (ad q), .int x3, .ref (ad (q + 2))] _ _
      obtain ⟨ty4, hty4, hF⟩ := zh_bind hF
      refine z_callV d_M_tells_21 (c_M_numeral hm hty4) mv_M_numeral l_M_125 (fun _ _ h => h) (hm 0 _ rfl) rfl rfl ⟨Nat.le_of_ble_eq_true rfl, Nat.le_of_ble_eq_true rfl⟩ ⟨Nat.le_of_ble_eq_true rfl, Nat.le_of_ble_eq_true rfl⟩ rfl (Nat.le_of_ble_eq_true rfl) (fun r μ' ν' hq => ?_)
      obtain ⟨rfl, rfl, rfl⟩ := hq
      show Z _ _ _ _ _ _ _ _ _ _ _ 0 0 _ _ _ [.int ty4.1, .int x3, .ref (ad (q + 2))] _ _
      obtain ⟨hy5, hF⟩ := zh_if hF
      refine z_iast d_M_tells_24 (hm 2 _ rfl) (zin_vp hy5) ?_
      obtain ⟨μy6, hy6, hF⟩ := zh_let hF
      refine z_eqm hy6 ?_
      refine z_iinc d_M_tells_25 (k := 3) (v := (x3 + 1)) rfl rfl (by decide) (L2 := [(3, .int (x3 + 1)), (0, .ref (ad q)), (1, .int x1), (2, .int x2)]) rfl ?_
      refine z_goto d_M_tells_28 (tgt := 2) (by decide) ?_
      refine z_sub [1, 2, 3, 0] (L' := [(0, .ref (ad q)), (1, .int x1), (2, .int x2), (3, .int (x3 + 1))]) rfl ?_
      exact ih _ _ _ _ _ hF
def e_M_tells_0 (q : Nat)  (x1 : Int32) (x2 : Int32) (μ : zI) (ν : zJ) : Option (zI × zJ) := f_M_tells_2 q zFuel x1 x2 x1 μ ν
theorem z_M_tells_0 {l : Launch} {D : va_G} {dA : Nat → ClassId} {ad : Nat → Nat} {sh : List zSE}  {q : Nat} (hm : zMo sh q)  {x1 : Int32} {x2 : Int32} {μ : zI} {ν : zJ} {out : (zI × zJ)} (hF : e_M_tells_0 q  x1 x2 μ ν = some out) : Z l D dA ad sh m_M_tells (zR 8 0 0) (zS ad) (zOv out) 0 0 0 0 [] 0 [(0, .ref (ad q)), (1, .int x1), (2, .int x2)] [] μ ν := by
  unfold e_M_tells_0 at hF
  refine z_iload_n d_M_tells_0 1 rfl rfl ?_
  refine z_istore_n d_M_tells_1 rfl (by decide) (L2 := [(3, .int x1), (0, .ref (ad q)), (1, .int x1), (2, .int x2)]) rfl ?_
  refine z_sub [1, 2, 3, 0] (L' := [(0, .ref (ad q)), (1, .int x1), (2, .int x2), (3, .int x1)]) rfl ?_
  exact z_M_tells_2 hm  zFuel _ _ _ _ _ hF
def E_M_tells (q : Nat) (x1 : Int32) (x2 : Int32) (μ : zI) (ν : zJ) : Option (zI × zJ) := e_M_tells_0 q x1 x2 μ ν
theorem c_M_tells {l : Launch} {D : va_G} {dA : Nat → ClassId} {ad : Nat → Nat} {sh : List zSE} {μ : zI} {ν : zJ} {q : Nat} {x1 : Int32} {x2 : Int32} (hm : zMo sh q) {out : (zI × zJ)} (hE : E_M_tells q x1 x2 μ ν = some out) : zC l D dA ad sh m_M_tells 8 0 0 [.ref (ad q), .int x1, .int x2] μ ν (zOv out) :=
  zC.of (by decide) (Nat.le_of_ble_eq_true rfl) (z_M_tells_0 hm hE)
def e_M_readOther_183 (q : Nat)  (x1 : Int32) (μ : zI) (ν : zJ) : Option (zI × zJ) := some (μ, ν)
theorem z_M_readOther_183 {l : Launch} {D : va_G} {dA : Nat → ClassId} {ad : Nat → Nat} {sh : List zSE}  {q : Nat} (hm : zMo sh q)  {x1 : Int32} {μ : zI} {ν : zJ} {out : (zI × zJ)} (hF : e_M_readOther_183 q  x1 μ ν = some out) : Z l D dA ad sh m_M_readOther (zR 9 0 0) (zS ad) (zOv out) 0 0 0 0 [] 183 [(0, .ref (ad q)), (1, .int x1)] [] μ ν := by
  unfold e_M_readOther_183 at hF
  cases hF
  exact z_return d_M_readOther_183 rfl ⟨rfl, rfl, rfl⟩
def e_M_readOther_36 (q : Nat)  (x1 : Int32) (μ : zI) (ν : zJ) : Option (zI × zJ) := (if zin x1 5 = true then zlet (zu μ (q + 3) (Int32.toNatClampNeg x1) (vp_nar .boolean 1)) fun μy2 => zlet (zu μy2 q 6 ((μy2 q 6) + 1)) fun μy3 => Option.bind (E_M_goOn q μy3 ν) fun ty4 => (if x1 = 0 then Option.bind (E_M_leastOf 0 ty4.1 ty4.2) fun ty16 => Option.bind (E_M_mostOf 0 ty16.2.1 ty16.2.2) fun ty17 => Option.bind (E_M_numeral q ty16.1 ty17.1 ty17.2.1 ty17.2.2) fun ty18 => zlet (zu ty18.2.1 (q + 2) 0 ty18.1) fun μy19 => Option.bind (E_M_numeral q 0 (μy19 (q + 2) 0) μy19 ty18.2.2) fun ty20 => zlet (zu ty20.2.1 q 5 ty20.1) fun μy21 => Option.bind (E_M_tells q 1 1 μy21 ty20.2.2) fun ty22 => e_M_readOther_183 q x1 ty22.1 ty22.2 else (if x1 = 1 then Option.bind (E_M_tells q 2 2 ty4.1 ty4.2) fun ty12 => Option.bind (E_M_numeral q 1100 (ty12.1 (q + 2) 2) ty12.1 ty12.2) fun ty13 => zlet (zu ty13.2.1 (q + 2) 3 ty13.1) fun μy14 => Option.bind (E_M_tells q 4 6 μy14 ty13.2.2) fun ty15 => e_M_readOther_183 q x1 ty15.1 ty15.2 else (if x1 = 2 then Option.bind (E_M_tells q 7 11 ty4.1 ty4.2) fun ty11 => e_M_readOther_183 q x1 ty11.1 ty11.2 else (if x1 = 3 then Option.bind (E_M_tells q 12 16 ty4.1 ty4.2) fun ty10 => e_M_readOther_183 q x1 ty10.1 ty10.2 else Option.bind (E_M_tells q 17 18 ty4.1 ty4.2) fun ty9 => e_M_readOther_183 q x1 ty9.1 ty9.2)))) else none)
theorem z_M_readOther_36 {l : Launch} {D : va_G} {dA : Nat → ClassId} {ad : Nat → Nat} {sh : List zSE}  {q : Nat} (hm : zMo sh q)  {x1 : Int32} {μ : zI} {ν : zJ} {out : (zI × zJ)} (hF : e_M_readOther_36 q  x1 μ ν = some out) : Z l D dA ad sh m_M_readOther (zR 9 0 0) (zS ad) (zOv out) 0 0 0 0 [] 36 [(0, .ref (ad q)), (1, .int x1)] [] μ ν := by
  unfold e_M_readOther_36 at hF
  refine z_aload_n d_M_readOther_36 0 rfl rfl ?_
  refine z_getr d_M_readOther_37 (q := (q + 3)) f_M_16 (hm 0 _ rfl) rfl ?_
  refine z_iload_n d_M_readOther_40 1 rfl rfl ?_
  refine z_iconst d_M_readOther_41 (v := 1) (by decide) ?_
  obtain ⟨hy1, hF⟩ := zh_if hF
  refine z_zast d_M_readOther_42 (hm 3 _ rfl) (zin_vp hy1) ?_
  obtain ⟨μy2, hy2, hF⟩ := zh_let hF
  refine z_eqm hy2 ?_
  refine z_aload_n d_M_readOther_43 0 rfl rfl ?_
  refine z_dup d_M_readOther_44 rfl ?_
  refine z_get d_M_readOther_45 f_M_135 (hm 0 _ rfl) rfl ?_
  refine z_iconst d_M_readOther_48 (v := 1) (by decide) ?_
  refine z_iadd d_M_readOther_49 ?_
  refine z_put d_M_readOther_50 f_M_135 (hm 0 _ rfl) rfl (CL_fin _ _ (fun q hq => by cases hq; rfl)) rfl rfl ?_
  obtain ⟨μy3, hy3, hF⟩ := zh_let hF
  refine z_eqm hy3 ?_
  refine z_aload_n d_M_readOther_53 0 rfl rfl ?_
  obtain ⟨ty4, hty4, hF⟩ := zh_bind hF
  refine z_callV d_M_readOther_54 (c_M_goOn hm hty4) mv_M_goOn l_M_115 (fun _ _ h => h) (hm 0 _ rfl) rfl rfl ⟨Nat.le_of_ble_eq_true rfl, Nat.le_of_ble_eq_true rfl⟩ ⟨Nat.le_of_ble_eq_true rfl, Nat.le_of_ble_eq_true rfl⟩ rfl (Nat.le_of_ble_eq_true rfl) (fun r μ' ν' hq => ?_)
  obtain ⟨rfl, rfl, rfl⟩ := hq
  show Z _ _ _ _ _ _ _ _ _ _ _ 0 0 _ _ _ [] _ _
  refine z_iload_n d_M_readOther_57 1 rfl rfl ?_
  refine z_if_ne d_M_readOther_58 (tgt := 103) (by decide) (fun cy5 => ?_) (fun cy5 => ?_)
  · replace hF := zh_f cy5 hF
    refine z_iload_n d_M_readOther_103 1 rfl rfl ?_
    refine z_iconst d_M_readOther_104 (v := 1) (by decide) ?_
    refine z_icmp_ne d_M_readOther_105 (tgt := 143) (by decide) (fun cy6 => ?_) (fun cy6 => ?_)
    · replace hF := zh_f cy6 hF
      refine z_iload_n d_M_readOther_143 1 rfl rfl ?_
      refine z_iconst d_M_readOther_144 (v := 2) (by decide) ?_
      refine z_icmp_ne d_M_readOther_145 (tgt := 159) (by decide) (fun cy7 => ?_) (fun cy7 => ?_)
      · replace hF := zh_f cy7 hF
        refine z_iload_n d_M_readOther_159 1 rfl rfl ?_
        refine z_iconst d_M_readOther_160 (v := 3) (by decide) ?_
        refine z_icmp_ne d_M_readOther_161 (tgt := 175) (by decide) (fun cy8 => ?_) (fun cy8 => ?_)
        · replace hF := zh_f cy8 hF
          refine z_aload_n d_M_readOther_175 0 rfl rfl ?_
          refine z_bipush d_M_readOther_176 (v := 17) (by decide) ?_
          refine z_bipush d_M_readOther_178 (v := 18) (by decide) ?_
          obtain ⟨ty9, hty9, hF⟩ := zh_bind hF
          refine z_callV d_M_readOther_180 (c_M_tells hm hty9) mv_M_tells l_M_141 (fun _ _ h => h) (hm 0 _ rfl) rfl rfl ⟨Nat.le_of_ble_eq_true rfl, Nat.le_of_ble_eq_true rfl⟩ ⟨Nat.le_of_ble_eq_true rfl, Nat.le_of_ble_eq_true rfl⟩ rfl (Nat.le_of_ble_eq_true rfl) (fun r μ' ν' hq => ?_)
          obtain ⟨rfl, rfl, rfl⟩ := hq
          show Z _ _ _ _ _ _ _ _ _ _ _ 0 0 _ _ _ [] _ _
          exact z_M_readOther_183 hm  hF
        · replace hF := zh_t cy8 hF
          refine z_aload_n d_M_readOther_164 0 rfl rfl ?_
          refine z_bipush d_M_readOther_165 (v := 12) (by decide) ?_
          refine z_bipush d_M_readOther_167 (v := 16) (by decide) ?_
          obtain ⟨ty10, hty10, hF⟩ := zh_bind hF
          refine z_callV d_M_readOther_169 (c_M_tells hm hty10) mv_M_tells l_M_141 (fun _ _ h => h) (hm 0 _ rfl) rfl rfl ⟨Nat.le_of_ble_eq_true rfl, Nat.le_of_ble_eq_true rfl⟩ ⟨Nat.le_of_ble_eq_true rfl, Nat.le_of_ble_eq_true rfl⟩ rfl (Nat.le_of_ble_eq_true rfl) (fun r μ' ν' hq => ?_)
          obtain ⟨rfl, rfl, rfl⟩ := hq
          show Z _ _ _ _ _ _ _ _ _ _ _ 0 0 _ _ _ [] _ _
          refine z_goto d_M_readOther_172 (tgt := 183) (by decide) ?_
          exact z_M_readOther_183 hm  hF
      · replace hF := zh_t cy7 hF
        refine z_aload_n d_M_readOther_148 0 rfl rfl ?_
        refine z_bipush d_M_readOther_149 (v := 7) (by decide) ?_
        refine z_bipush d_M_readOther_151 (v := 11) (by decide) ?_
        obtain ⟨ty11, hty11, hF⟩ := zh_bind hF
        refine z_callV d_M_readOther_153 (c_M_tells hm hty11) mv_M_tells l_M_141 (fun _ _ h => h) (hm 0 _ rfl) rfl rfl ⟨Nat.le_of_ble_eq_true rfl, Nat.le_of_ble_eq_true rfl⟩ ⟨Nat.le_of_ble_eq_true rfl, Nat.le_of_ble_eq_true rfl⟩ rfl (Nat.le_of_ble_eq_true rfl) (fun r μ' ν' hq => ?_)
        obtain ⟨rfl, rfl, rfl⟩ := hq
        show Z _ _ _ _ _ _ _ _ _ _ _ 0 0 _ _ _ [] _ _
        refine z_goto d_M_readOther_156 (tgt := 183) (by decide) ?_
        exact z_M_readOther_183 hm  hF
    · replace hF := zh_t cy6 hF
      refine z_aload_n d_M_readOther_108 0 rfl rfl ?_
      refine z_iconst d_M_readOther_109 (v := 2) (by decide) ?_
      refine z_iconst d_M_readOther_110 (v := 2) (by decide) ?_
      obtain ⟨ty12, hty12, hF⟩ := zh_bind hF
      refine z_callV d_M_readOther_111 (c_M_tells hm hty12) mv_M_tells l_M_141 (fun _ _ h => h) (hm 0 _ rfl) rfl rfl ⟨Nat.le_of_ble_eq_true rfl, Nat.le_of_ble_eq_true rfl⟩ ⟨Nat.le_of_ble_eq_true rfl, Nat.le_of_ble_eq_true rfl⟩ rfl (Nat.le_of_ble_eq_true rfl) (fun r μ' ν' hq => ?_)
      obtain ⟨rfl, rfl, rfl⟩ := hq
      show Z _ _ _ _ _ _ _ _ _ _ _ 0 0 _ _ _ [] _ _
      refine z_aload_n d_M_readOther_114 0 rfl rfl ?_
      refine z_getr d_M_readOther_115 (q := (q + 2)) f_M_13 (hm 0 _ rfl) rfl ?_
      refine z_iconst d_M_readOther_118 (v := 3) (by decide) ?_
      refine z_aload_n d_M_readOther_119 0 rfl rfl ?_
      refine z_sipush d_M_readOther_120 (v := 1100) (by decide) ?_
      refine z_aload_n d_M_readOther_123 0 rfl rfl ?_
      refine z_getr d_M_readOther_124 (q := (q + 2)) f_M_13 (hm 0 _ rfl) rfl ?_
      refine z_iconst d_M_readOther_127 (v := 2) (by decide) ?_
      refine z_iald d_M_readOther_128 (hm 2 _ rfl) (zin_vp rfl) ?_
      show Z _ _ _ _ _ _ _ _ _ _ _ _ _ _ _ _ [.int (ty12.1 (q + 2) 2), .int 1100, .ref (ad q), .int 3, .ref (ad (q + 2))] _ _
      obtain ⟨ty13, hty13, hF⟩ := zh_bind hF
      refine z_callV d_M_readOther_129 (c_M_numeral hm hty13) mv_M_numeral l_M_125 (fun _ _ h => h) (hm 0 _ rfl) rfl rfl ⟨Nat.le_of_ble_eq_true rfl, Nat.le_of_ble_eq_true rfl⟩ ⟨Nat.le_of_ble_eq_true rfl, Nat.le_of_ble_eq_true rfl⟩ rfl (Nat.le_of_ble_eq_true rfl) (fun r μ' ν' hq => ?_)
      obtain ⟨rfl, rfl, rfl⟩ := hq
      show Z _ _ _ _ _ _ _ _ _ _ _ 0 0 _ _ _ [.int ty13.1, .int 3, .ref (ad (q + 2))] _ _
      refine z_iast d_M_readOther_132 (hm 2 _ rfl) (zin_vp rfl) ?_
      obtain ⟨μy14, hy14, hF⟩ := zh_let hF
      refine z_eqm hy14 ?_
      refine z_aload_n d_M_readOther_133 0 rfl rfl ?_
      refine z_iconst d_M_readOther_134 (v := 4) (by decide) ?_
      refine z_bipush d_M_readOther_135 (v := 6) (by decide) ?_
      obtain ⟨ty15, hty15, hF⟩ := zh_bind hF
      refine z_callV d_M_readOther_137 (c_M_tells hm hty15) mv_M_tells l_M_141 (fun _ _ h => h) (hm 0 _ rfl) rfl rfl ⟨Nat.le_of_ble_eq_true rfl, Nat.le_of_ble_eq_true rfl⟩ ⟨Nat.le_of_ble_eq_true rfl, Nat.le_of_ble_eq_true rfl⟩ rfl (Nat.le_of_ble_eq_true rfl) (fun r μ' ν' hq => ?_)
      obtain ⟨rfl, rfl, rfl⟩ := hq
      show Z _ _ _ _ _ _ _ _ _ _ _ 0 0 _ _ _ [] _ _
      refine z_goto d_M_readOther_140 (tgt := 183) (by decide) ?_
      exact z_M_readOther_183 hm  hF
  · replace hF := zh_t cy5 hF
    refine z_aload_n d_M_readOther_61 0 rfl rfl ?_
    refine z_getr d_M_readOther_62 (q := (q + 2)) f_M_13 (hm 0 _ rfl) rfl ?_
    refine z_iconst d_M_readOther_65 (v := 0) (by decide) ?_
    refine z_aload_n d_M_readOther_66 0 rfl rfl ?_
    refine z_iconst d_M_readOther_67 (v := 0) (by decide) ?_
    obtain ⟨ty16, hty16, hF⟩ := zh_bind hF
    refine z_callS d_M_readOther_68 (c_M_leastOf  hty16) ms_M_leastOf l_M_118 (fun _ _ h => h) rfl ⟨Nat.le_of_ble_eq_true rfl, Nat.le_of_ble_eq_true rfl⟩ ⟨Nat.le_of_ble_eq_true rfl, Nat.le_of_ble_eq_true rfl⟩ rfl (Nat.le_of_ble_eq_true rfl) (fun r μ' ν' hq => ?_)
    obtain ⟨rfl, rfl, rfl⟩ := hq
    show Z _ _ _ _ _ _ _ _ _ _ _ 0 0 _ _ _ [.int ty16.1, .ref (ad q), .int 0, .ref (ad (q + 2))] _ _
    refine z_iconst d_M_readOther_71 (v := 0) (by decide) ?_
    obtain ⟨ty17, hty17, hF⟩ := zh_bind hF
    refine z_callS d_M_readOther_72 (c_M_mostOf  hty17) ms_M_mostOf l_M_122 (fun _ _ h => h) rfl ⟨Nat.le_of_ble_eq_true rfl, Nat.le_of_ble_eq_true rfl⟩ ⟨Nat.le_of_ble_eq_true rfl, Nat.le_of_ble_eq_true rfl⟩ rfl (Nat.le_of_ble_eq_true rfl) (fun r μ' ν' hq => ?_)
    obtain ⟨rfl, rfl, rfl⟩ := hq
    show Z _ _ _ _ _ _ _ _ _ _ _ 0 0 _ _ _ [.int ty17.1, .int ty16.1, .ref (ad q), .int 0, .ref (ad (q + 2))] _ _
    obtain ⟨ty18, hty18, hF⟩ := zh_bind hF
    refine z_callV d_M_readOther_75 (c_M_numeral hm hty18) mv_M_numeral l_M_125 (fun _ _ h => h) (hm 0 _ rfl) rfl rfl ⟨Nat.le_of_ble_eq_true rfl, Nat.le_of_ble_eq_true rfl⟩ ⟨Nat.le_of_ble_eq_true rfl, Nat.le_of_ble_eq_true rfl⟩ rfl (Nat.le_of_ble_eq_true rfl) (fun r μ' ν' hq => ?_)
    obtain ⟨rfl, rfl, rfl⟩ := hq
    show Z _ _ _ _ _ _ _ _ _ _ _ 0 0 _ _ _ [.int ty18.1, .int 0, .ref (ad (q + 2))] _ _
    refine z_iast d_M_readOther_78 (hm 2 _ rfl) (zin_vp rfl) ?_
    obtain ⟨μy19, hy19, hF⟩ := zh_let hF
    refine z_eqm hy19 ?_
    refine z_aload_n d_M_readOther_79 0 rfl rfl ?_
    refine z_aload_n d_M_readOther_80 0 rfl rfl ?_
    refine z_iconst d_M_readOther_81 (v := 0) (by decide) ?_
    refine z_aload_n d_M_readOther_82 0 rfl rfl ?_
    refine z_getr d_M_readOther_83 (q := (q + 2)) f_M_13 (hm 0 _ rfl) rfl ?_
    refine z_iconst d_M_readOther_86 (v := 0) (by decide) ?_
    refine z_iald d_M_readOther_87 (hm 2 _ rfl) (zin_vp rfl) ?_
    show Z _ _ _ _ _ _ _ _ _ _ _ _ _ _ _ _ [.int (μy19 (q + 2) 0), .int 0, .ref (ad q), .ref (ad q)] _ _
    obtain ⟨ty20, hty20, hF⟩ := zh_bind hF
    refine z_callV d_M_readOther_88 (c_M_numeral hm hty20) mv_M_numeral l_M_125 (fun _ _ h => h) (hm 0 _ rfl) rfl rfl ⟨Nat.le_of_ble_eq_true rfl, Nat.le_of_ble_eq_true rfl⟩ ⟨Nat.le_of_ble_eq_true rfl, Nat.le_of_ble_eq_true rfl⟩ rfl (Nat.le_of_ble_eq_true rfl) (fun r μ' ν' hq => ?_)
    obtain ⟨rfl, rfl, rfl⟩ := hq
    show Z _ _ _ _ _ _ _ _ _ _ _ 0 0 _ _ _ [.int ty20.1, .ref (ad q)] _ _
    refine z_put d_M_readOther_91 f_M_138 (hm 0 _ rfl) rfl (CL_fin _ _ (fun q hq => by cases hq; rfl)) rfl rfl ?_
    obtain ⟨μy21, hy21, hF⟩ := zh_let hF
    refine z_eqm hy21 ?_
    refine z_aload_n d_M_readOther_94 0 rfl rfl ?_
    refine z_iconst d_M_readOther_95 (v := 1) (by decide) ?_
    refine z_iconst d_M_readOther_96 (v := 1) (by decide) ?_
    obtain ⟨ty22, hty22, hF⟩ := zh_bind hF
    refine z_callV d_M_readOther_97 (c_M_tells hm hty22) mv_M_tells l_M_141 (fun _ _ h => h) (hm 0 _ rfl) rfl rfl ⟨Nat.le_of_ble_eq_true rfl, Nat.le_of_ble_eq_true rfl⟩ ⟨Nat.le_of_ble_eq_true rfl, Nat.le_of_ble_eq_true rfl⟩ rfl (Nat.le_of_ble_eq_true rfl) (fun r μ' ν' hq => ?_)
    obtain ⟨rfl, rfl, rfl⟩ := hq
    show Z _ _ _ _ _ _ _ _ _ _ _ 0 0 _ _ _ [] _ _
    refine z_goto d_M_readOther_100 (tgt := 183) (by decide) ?_
    exact z_M_readOther_183 hm  hF
def e_M_readOther_14 (q : Nat)  (x1 : Int32) (μ : zI) (ν : zJ) : Option (zI × zJ) := Option.bind (E_M_wrong q 1 μ ν) fun ty1 => e_M_readOther_36 q x1 ty1.1 ty1.2
theorem z_M_readOther_14 {l : Launch} {D : va_G} {dA : Nat → ClassId} {ad : Nat → Nat} {sh : List zSE}  {q : Nat} (hm : zMo sh q)  {x1 : Int32} {μ : zI} {ν : zJ} {out : (zI × zJ)} (hF : e_M_readOther_14 q  x1 μ ν = some out) : Z l D dA ad sh m_M_readOther (zR 9 0 0) (zS ad) (zOv out) 0 0 0 0 [] 14 [(0, .ref (ad q)), (1, .int x1)] [] μ ν := by
  unfold e_M_readOther_14 at hF
  refine z_aload_n d_M_readOther_14 0 rfl rfl ?_
  refine z_iconst d_M_readOther_15 (v := 1) (by decide) ?_
  obtain ⟨ty1, hty1, hF⟩ := zh_bind hF
  refine z_callV d_M_readOther_16 (c_M_wrong hm hty1) mv_M_wrong l_M_111 (fun _ _ h => h) (hm 0 _ rfl) rfl rfl ⟨Nat.le_of_ble_eq_true rfl, Nat.le_of_ble_eq_true rfl⟩ ⟨Nat.le_of_ble_eq_true rfl, Nat.le_of_ble_eq_true rfl⟩ rfl (Nat.le_of_ble_eq_true rfl) (fun r μ' ν' hq => ?_)
  obtain ⟨rfl, rfl, rfl⟩ := hq
  show Z _ _ _ _ _ _ _ _ _ _ _ 0 0 _ _ _ [] _ _
  refine z_goto d_M_readOther_19 (tgt := 36) (by decide) ?_
  exact z_M_readOther_36 hm  hF
def e_M_readOther_0 (q : Nat)  (x1 : Int32) (μ : zI) (ν : zJ) : Option (zI × zJ) := (if (μ q 10) = 0 then e_M_readOther_14 q x1 μ ν else (if (μ q 12) ≤ 0 then (if zin x1 5 = true then (if (μ (q + 3) (Int32.toNatClampNeg x1)) = 0 then e_M_readOther_36 q x1 μ ν else Option.bind (E_M_wrong q 3 μ ν) fun ty5 => e_M_readOther_36 q x1 ty5.1 ty5.2) else none) else e_M_readOther_14 q x1 μ ν))
theorem z_M_readOther_0 {l : Launch} {D : va_G} {dA : Nat → ClassId} {ad : Nat → Nat} {sh : List zSE}  {q : Nat} (hm : zMo sh q)  {x1 : Int32} {μ : zI} {ν : zJ} {out : (zI × zJ)} (hF : e_M_readOther_0 q  x1 μ ν = some out) : Z l D dA ad sh m_M_readOther (zR 9 0 0) (zS ad) (zOv out) 0 0 0 0 [] 0 [(0, .ref (ad q)), (1, .int x1)] [] μ ν := by
  unfold e_M_readOther_0 at hF
  refine z_aload_n d_M_readOther_0 0 rfl rfl ?_
  refine z_get d_M_readOther_1 f_M_129 (hm 0 _ rfl) rfl ?_
  refine z_if_eq d_M_readOther_4 (tgt := 14) (by decide) (fun cy1 => ?_) (fun cy1 => ?_)
  · replace hF := zh_t cy1 hF
    exact z_M_readOther_14 hm  hF
  · replace hF := zh_f cy1 hF
    refine z_aload_n d_M_readOther_7 0 rfl rfl ?_
    refine z_get d_M_readOther_8 f_M_132 (hm 0 _ rfl) rfl ?_
    refine z_if_le d_M_readOther_11 (tgt := 22) (by decide) (fun cy2 => ?_) (fun cy2 => ?_)
    · replace hF := zh_t cy2 hF
      refine z_aload_n d_M_readOther_22 0 rfl rfl ?_
      refine z_getr d_M_readOther_23 (q := (q + 3)) f_M_16 (hm 0 _ rfl) rfl ?_
      refine z_iload_n d_M_readOther_26 1 rfl rfl ?_
      obtain ⟨hy3, hF⟩ := zh_if hF
      refine z_zald d_M_readOther_27 (hm 3 _ rfl) (zin_vp hy3) ?_
      refine z_if_eq d_M_readOther_28 (tgt := 36) (by decide) (fun cy4 => ?_) (fun cy4 => ?_)
      · replace hF := zh_t cy4 hF
        exact z_M_readOther_36 hm  hF
      · replace hF := zh_f cy4 hF
        refine z_aload_n d_M_readOther_31 0 rfl rfl ?_
        refine z_iconst d_M_readOther_32 (v := 3) (by decide) ?_
        obtain ⟨ty5, hty5, hF⟩ := zh_bind hF
        refine z_callV d_M_readOther_33 (c_M_wrong hm hty5) mv_M_wrong l_M_111 (fun _ _ h => h) (hm 0 _ rfl) rfl rfl ⟨Nat.le_of_ble_eq_true rfl, Nat.le_of_ble_eq_true rfl⟩ ⟨Nat.le_of_ble_eq_true rfl, Nat.le_of_ble_eq_true rfl⟩ rfl (Nat.le_of_ble_eq_true rfl) (fun r μ' ν' hq => ?_)
        obtain ⟨rfl, rfl, rfl⟩ := hq
        show Z _ _ _ _ _ _ _ _ _ _ _ 0 0 _ _ _ [] _ _
        exact z_M_readOther_36 hm  hF
    · replace hF := zh_f cy2 hF
      exact z_M_readOther_14 hm  hF
def E_M_readOther (q : Nat) (x1 : Int32) (μ : zI) (ν : zJ) : Option (zI × zJ) := e_M_readOther_0 q x1 μ ν
theorem c_M_readOther {l : Launch} {D : va_G} {dA : Nat → ClassId} {ad : Nat → Nat} {sh : List zSE} {μ : zI} {ν : zJ} {q : Nat} {x1 : Int32} (hm : zMo sh q) {out : (zI × zJ)} (hE : E_M_readOther q x1 μ ν = some out) : zC l D dA ad sh m_M_readOther 9 0 0 [.ref (ad q), .int x1] μ ν (zOv out) :=
  zC.of (by decide) (Nat.le_of_ble_eq_true rfl) (z_M_readOther_0 hm hE)
def e_M_readModule_36 (q : Nat)   (μ : zI) (ν : zJ) : Option (zI × zJ) := Option.bind (E_M_goOn q μ ν) fun ty1 => Option.bind (E_M_numeral q 1 999 ty1.1 ty1.2) fun ty2 => zlet (α := Int32) ty2.1 fun y3 => Option.bind (E_M_numeral q 1 999 ty2.2.1 ty2.2.2) fun ty4 => zlet (α := Int32) ty4.1 fun y5 => (if (ty4.2.1 q 19) = 0 then (if zin (6 + (ty4.2.1 q 10)) 12 = true then zlet (zu ty4.2.1 (q + 4) (Int32.toNatClampNeg (6 + (ty4.2.1 q 10))) y3) fun μy8 => (if zin (6 + (μy8 q 10)) 12 = true then zlet (zu μy8 (q + 5) (Int32.toNatClampNeg (6 + (μy8 q 10))) y5) fun μy10 => zlet (zu μy10 q 10 ((μy10 q 10) + 1)) fun μy11 => some (μy11, ty4.2.2) else none) else none) else some (ty4.2.1, ty4.2.2))
theorem z_M_readModule_36 {l : Launch} {D : va_G} {dA : Nat → ClassId} {ad : Nat → Nat} {sh : List zSE}  {q : Nat} (hm : zMo sh q)   {μ : zI} {ν : zJ} {out : (zI × zJ)} (hF : e_M_readModule_36 q   μ ν = some out) : Z l D dA ad sh m_M_readModule (zR 8 0 0) (zS ad) (zOv out) 0 0 0 0 [] 36 [(0, .ref (ad q))] [] μ ν := by
  unfold e_M_readModule_36 at hF
  refine z_aload_n d_M_readModule_36 0 rfl rfl ?_
  obtain ⟨ty1, hty1, hF⟩ := zh_bind hF
  refine z_callV d_M_readModule_37 (c_M_goOn hm hty1) mv_M_goOn l_M_115 (fun _ _ h => h) (hm 0 _ rfl) rfl rfl ⟨Nat.le_of_ble_eq_true rfl, Nat.le_of_ble_eq_true rfl⟩ ⟨Nat.le_of_ble_eq_true rfl, Nat.le_of_ble_eq_true rfl⟩ rfl (Nat.le_of_ble_eq_true rfl) (fun r μ' ν' hq => ?_)
  obtain ⟨rfl, rfl, rfl⟩ := hq
  show Z _ _ _ _ _ _ _ _ _ _ _ 0 0 _ _ _ [] _ _
  refine z_aload_n d_M_readModule_40 0 rfl rfl ?_
  refine z_iconst d_M_readModule_41 (v := 1) (by decide) ?_
  refine z_sipush d_M_readModule_42 (v := 999) (by decide) ?_
  obtain ⟨ty2, hty2, hF⟩ := zh_bind hF
  refine z_callV d_M_readModule_45 (c_M_numeral hm hty2) mv_M_numeral l_M_125 (fun _ _ h => h) (hm 0 _ rfl) rfl rfl ⟨Nat.le_of_ble_eq_true rfl, Nat.le_of_ble_eq_true rfl⟩ ⟨Nat.le_of_ble_eq_true rfl, Nat.le_of_ble_eq_true rfl⟩ rfl (Nat.le_of_ble_eq_true rfl) (fun r μ' ν' hq => ?_)
  obtain ⟨rfl, rfl, rfl⟩ := hq
  show Z _ _ _ _ _ _ _ _ _ _ _ 0 0 _ _ _ [.int ty2.1] _ _
  obtain ⟨y3, hy3, hF⟩ := zh_let hF
  refine z_eqi hy3 ?_
  refine z_istore_n d_M_readModule_48 rfl (by decide) (L2 := [(1, .int y3), (0, .ref (ad q))]) rfl ?_
  refine z_aload_n d_M_readModule_49 1 rfl rfl ?_
  refine z_iconst d_M_readModule_50 (v := 1) (by decide) ?_
  refine z_sipush d_M_readModule_51 (v := 999) (by decide) ?_
  obtain ⟨ty4, hty4, hF⟩ := zh_bind hF
  refine z_callV d_M_readModule_54 (c_M_numeral hm hty4) mv_M_numeral l_M_125 (fun _ _ h => h) (hm 0 _ rfl) rfl rfl ⟨Nat.le_of_ble_eq_true rfl, Nat.le_of_ble_eq_true rfl⟩ ⟨Nat.le_of_ble_eq_true rfl, Nat.le_of_ble_eq_true rfl⟩ rfl (Nat.le_of_ble_eq_true rfl) (fun r μ' ν' hq => ?_)
  obtain ⟨rfl, rfl, rfl⟩ := hq
  show Z _ _ _ _ _ _ _ _ _ _ _ 0 0 _ _ _ [.int ty4.1] _ _
  obtain ⟨y5, hy5, hF⟩ := zh_let hF
  refine z_eqi hy5 ?_
  refine z_istore_n d_M_readModule_57 rfl (by decide) (L2 := [(2, .int y5), (1, .int y3), (0, .ref (ad q))]) rfl ?_
  refine z_aload_n d_M_readModule_58 2 rfl rfl ?_
  refine z_get d_M_readModule_59 f_M_102 (hm 0 _ rfl) rfl ?_
  refine z_if_eq d_M_readModule_62 (tgt := 66) (by decide) (fun cy6 => ?_) (fun cy6 => ?_)
  · replace hF := zh_t cy6 hF
    refine z_aload_n d_M_readModule_66 2 rfl rfl ?_
    refine z_getr d_M_readModule_67 (q := (q + 4)) f_M_20 (hm 0 _ rfl) rfl ?_
    refine z_bipush d_M_readModule_70 (v := 6) (by decide) ?_
    refine z_aload_n d_M_readModule_72 2 rfl rfl ?_
    refine z_get d_M_readModule_73 f_M_129 (hm 0 _ rfl) rfl ?_
    refine z_iadd d_M_readModule_76 ?_
    refine z_iload_n d_M_readModule_77 1 rfl rfl ?_
    obtain ⟨hy7, hF⟩ := zh_if hF
    refine z_iast d_M_readModule_78 (hm 4 _ rfl) (zin_vp hy7) ?_
    obtain ⟨μy8, hy8, hF⟩ := zh_let hF
    refine z_eqm hy8 ?_
    refine z_aload_n d_M_readModule_79 2 rfl rfl ?_
    refine z_getr d_M_readModule_80 (q := (q + 5)) f_M_23 (hm 0 _ rfl) rfl ?_
    refine z_bipush d_M_readModule_83 (v := 6) (by decide) ?_
    refine z_aload_n d_M_readModule_85 2 rfl rfl ?_
    refine z_get d_M_readModule_86 f_M_129 (hm 0 _ rfl) rfl ?_
    refine z_iadd d_M_readModule_89 ?_
    refine z_iload_n d_M_readModule_90 0 rfl rfl ?_
    obtain ⟨hy9, hF⟩ := zh_if hF
    refine z_iast d_M_readModule_91 (hm 5 _ rfl) (zin_vp hy9) ?_
    obtain ⟨μy10, hy10, hF⟩ := zh_let hF
    refine z_eqm hy10 ?_
    refine z_aload_n d_M_readModule_92 2 rfl rfl ?_
    refine z_dup d_M_readModule_93 rfl ?_
    refine z_get d_M_readModule_94 f_M_129 (hm 0 _ rfl) rfl ?_
    refine z_iconst d_M_readModule_97 (v := 1) (by decide) ?_
    refine z_iadd d_M_readModule_98 ?_
    refine z_put d_M_readModule_99 f_M_129 (hm 0 _ rfl) rfl (CL_fin _ _ (fun q hq => by cases hq; rfl)) rfl rfl ?_
    obtain ⟨μy11, hy11, hF⟩ := zh_let hF
    refine z_eqm hy11 ?_
    cases hF
    exact z_return d_M_readModule_102 rfl ⟨rfl, rfl, rfl⟩
  · replace hF := zh_f cy6 hF
    cases hF
    exact z_return d_M_readModule_65 rfl ⟨rfl, rfl, rfl⟩
def e_M_readModule_14 (q : Nat)   (μ : zI) (ν : zJ) : Option (zI × zJ) := Option.bind (E_M_wrong q 1 μ ν) fun ty1 => e_M_readModule_36 q ty1.1 ty1.2
theorem z_M_readModule_14 {l : Launch} {D : va_G} {dA : Nat → ClassId} {ad : Nat → Nat} {sh : List zSE}  {q : Nat} (hm : zMo sh q)   {μ : zI} {ν : zJ} {out : (zI × zJ)} (hF : e_M_readModule_14 q   μ ν = some out) : Z l D dA ad sh m_M_readModule (zR 8 0 0) (zS ad) (zOv out) 0 0 0 0 [] 14 [(0, .ref (ad q))] [] μ ν := by
  unfold e_M_readModule_14 at hF
  refine z_aload_n d_M_readModule_14 0 rfl rfl ?_
  refine z_iconst d_M_readModule_15 (v := 1) (by decide) ?_
  obtain ⟨ty1, hty1, hF⟩ := zh_bind hF
  refine z_callV d_M_readModule_16 (c_M_wrong hm hty1) mv_M_wrong l_M_111 (fun _ _ h => h) (hm 0 _ rfl) rfl rfl ⟨Nat.le_of_ble_eq_true rfl, Nat.le_of_ble_eq_true rfl⟩ ⟨Nat.le_of_ble_eq_true rfl, Nat.le_of_ble_eq_true rfl⟩ rfl (Nat.le_of_ble_eq_true rfl) (fun r μ' ν' hq => ?_)
  obtain ⟨rfl, rfl, rfl⟩ := hq
  show Z _ _ _ _ _ _ _ _ _ _ _ 0 0 _ _ _ [] _ _
  refine z_goto d_M_readModule_19 (tgt := 36) (by decide) ?_
  exact z_M_readModule_36 hm  hF
def e_M_readModule_0 (q : Nat)   (μ : zI) (ν : zJ) : Option (zI × zJ) := (if 0 < (μ q 6) then e_M_readModule_14 q μ ν else (if (μ q 12) ≤ 0 then (if (μ q 10) = 6 then Option.bind (E_M_wrong q 2 μ ν) fun ty4 => e_M_readModule_36 q ty4.1 ty4.2 else e_M_readModule_36 q μ ν) else e_M_readModule_14 q μ ν))
theorem z_M_readModule_0 {l : Launch} {D : va_G} {dA : Nat → ClassId} {ad : Nat → Nat} {sh : List zSE}  {q : Nat} (hm : zMo sh q)   {μ : zI} {ν : zJ} {out : (zI × zJ)} (hF : e_M_readModule_0 q   μ ν = some out) : Z l D dA ad sh m_M_readModule (zR 8 0 0) (zS ad) (zOv out) 0 0 0 0 [] 0 [(0, .ref (ad q))] [] μ ν := by
  unfold e_M_readModule_0 at hF
  refine z_aload_n d_M_readModule_0 0 rfl rfl ?_
  refine z_get d_M_readModule_1 f_M_135 (hm 0 _ rfl) rfl ?_
  refine z_if_gt d_M_readModule_4 (tgt := 14) (by decide) (fun cy1 => ?_) (fun cy1 => ?_)
  · replace hF := zh_t cy1 hF
    exact z_M_readModule_14 hm  hF
  · replace hF := zh_f cy1 hF
    refine z_aload_n d_M_readModule_7 0 rfl rfl ?_
    refine z_get d_M_readModule_8 f_M_132 (hm 0 _ rfl) rfl ?_
    refine z_if_le d_M_readModule_11 (tgt := 22) (by decide) (fun cy2 => ?_) (fun cy2 => ?_)
    · replace hF := zh_t cy2 hF
      refine z_aload_n d_M_readModule_22 0 rfl rfl ?_
      refine z_get d_M_readModule_23 f_M_129 (hm 0 _ rfl) rfl ?_
      refine z_bipush d_M_readModule_26 (v := 6) (by decide) ?_
      refine z_icmp_ne d_M_readModule_28 (tgt := 36) (by decide) (fun cy3 => ?_) (fun cy3 => ?_)
      · replace hF := zh_f cy3 hF
        exact z_M_readModule_36 hm  hF
      · replace hF := zh_t cy3 hF
        refine z_aload_n d_M_readModule_31 0 rfl rfl ?_
        refine z_iconst d_M_readModule_32 (v := 2) (by decide) ?_
        obtain ⟨ty4, hty4, hF⟩ := zh_bind hF
        refine z_callV d_M_readModule_33 (c_M_wrong hm hty4) mv_M_wrong l_M_111 (fun _ _ h => h) (hm 0 _ rfl) rfl rfl ⟨Nat.le_of_ble_eq_true rfl, Nat.le_of_ble_eq_true rfl⟩ ⟨Nat.le_of_ble_eq_true rfl, Nat.le_of_ble_eq_true rfl⟩ rfl (Nat.le_of_ble_eq_true rfl) (fun r μ' ν' hq => ?_)
        obtain ⟨rfl, rfl, rfl⟩ := hq
        show Z _ _ _ _ _ _ _ _ _ _ _ 0 0 _ _ _ [] _ _
        exact z_M_readModule_36 hm  hF
    · replace hF := zh_f cy2 hF
      exact z_M_readModule_14 hm  hF
def E_M_readModule (q : Nat)  (μ : zI) (ν : zJ) : Option (zI × zJ) := e_M_readModule_0 q μ ν
theorem c_M_readModule {l : Launch} {D : va_G} {dA : Nat → ClassId} {ad : Nat → Nat} {sh : List zSE} {μ : zI} {ν : zJ} {q : Nat} (hm : zMo sh q) {out : (zI × zJ)} (hE : E_M_readModule q μ ν = some out) : zC l D dA ad sh m_M_readModule 8 0 0 [.ref (ad q)] μ ν (zOv out) :=
  zC.of (by decide) (Nat.le_of_ble_eq_true rfl) (z_M_readModule_0 hm hE)
def e_M_readAt_143 (q : Nat)  (x1 : Int32) (x2 : Int32) (x3 : Int32) (s0 : Int32) (μ : zI) (ν : zJ) : Option (zI × zJ) := (if (μ q 19) = 0 then zlet (α := Int32) (4 * (μ q 12)) fun y2 => (if zin y2 96 = true then zlet (zu μ (q + 6) (Int32.toNatClampNeg y2) x1) fun μy4 => (if zin (y2 + 1) 96 = true then zlet (zu μy4 (q + 6) (Int32.toNatClampNeg (y2 + 1)) (x2 - 7)) fun μy6 => (if zin (y2 + 2) 96 = true then zlet (zu μy6 (q + 6) (Int32.toNatClampNeg (y2 + 2)) x3) fun μy8 => (if zin (y2 + 3) 96 = true then zlet (zu μy8 (q + 6) (Int32.toNatClampNeg (y2 + 3)) s0) fun μy10 => zlet (zu μy10 q 12 ((μy10 q 12) + 1)) fun μy11 => some (μy11, ν) else none) else none) else none) else none) else some (μ, ν))
theorem z_M_readAt_143 {l : Launch} {D : va_G} {dA : Nat → ClassId} {ad : Nat → Nat} {sh : List zSE}  {q : Nat} (hm : zMo sh q)  {x1 : Int32} {x2 : Int32} {x3 : Int32} {s0 : Int32} {μ : zI} {ν : zJ} {out : (zI × zJ)} (hF : e_M_readAt_143 q  x1 x2 x3 s0 μ ν = some out) : Z l D dA ad sh m_M_readAt (zR 8 0 0) (zS ad) (zOv out) 0 0 0 0 [] 143 [(0, .ref (ad q)), (1, .int x1), (2, .int x2), (3, .int x3)] [.int s0] μ ν := by
  unfold e_M_readAt_143 at hF
  refine z_istore d_M_readAt_143 (by decide) (L2 := [(4, .int s0), (0, .ref (ad q)), (1, .int x1), (2, .int x2), (3, .int x3)]) rfl ?_
  refine z_aload_n d_M_readAt_145 1 rfl rfl ?_
  refine z_get d_M_readAt_146 f_M_102 (hm 0 _ rfl) rfl ?_
  refine z_if_eq d_M_readAt_149 (tgt := 153) (by decide) (fun cy1 => ?_) (fun cy1 => ?_)
  · replace hF := zh_t cy1 hF
    refine z_iconst d_M_readAt_153 (v := 4) (by decide) ?_
    refine z_aload_n d_M_readAt_154 1 rfl rfl ?_
    refine z_get d_M_readAt_155 f_M_132 (hm 0 _ rfl) rfl ?_
    refine z_imul d_M_readAt_158 ?_
    obtain ⟨y2, hy2, hF⟩ := zh_let hF
    refine z_eqi hy2 ?_
    refine z_istore d_M_readAt_159 (by decide) (L2 := [(5, .int y2), (4, .int s0), (0, .ref (ad q)), (1, .int x1), (2, .int x2), (3, .int x3)]) rfl ?_
    refine z_aload_n d_M_readAt_161 2 rfl rfl ?_
    refine z_getr d_M_readAt_162 (q := (q + 6)) f_M_26 (hm 0 _ rfl) rfl ?_
    refine z_iload d_M_readAt_165 0 rfl ?_
    refine z_iload_n d_M_readAt_167 3 rfl rfl ?_
    obtain ⟨hy3, hF⟩ := zh_if hF
    refine z_iast d_M_readAt_168 (hm 6 _ rfl) (zin_vp hy3) ?_
    obtain ⟨μy4, hy4, hF⟩ := zh_let hF
    refine z_eqm hy4 ?_
    refine z_aload_n d_M_readAt_169 2 rfl rfl ?_
    refine z_getr d_M_readAt_170 (q := (q + 6)) f_M_26 (hm 0 _ rfl) rfl ?_
    refine z_iload d_M_readAt_173 0 rfl ?_
    refine z_iconst d_M_readAt_175 (v := 1) (by decide) ?_
    refine z_iadd d_M_readAt_176 ?_
    refine z_iload_n d_M_readAt_177 4 rfl rfl ?_
    refine z_bipush d_M_readAt_178 (v := 7) (by decide) ?_
    refine z_isub d_M_readAt_180 ?_
    obtain ⟨hy5, hF⟩ := zh_if hF
    refine z_iast d_M_readAt_181 (hm 6 _ rfl) (zin_vp hy5) ?_
    obtain ⟨μy6, hy6, hF⟩ := zh_let hF
    refine z_eqm hy6 ?_
    refine z_aload_n d_M_readAt_182 2 rfl rfl ?_
    refine z_getr d_M_readAt_183 (q := (q + 6)) f_M_26 (hm 0 _ rfl) rfl ?_
    refine z_iload d_M_readAt_186 0 rfl ?_
    refine z_iconst d_M_readAt_188 (v := 2) (by decide) ?_
    refine z_iadd d_M_readAt_189 ?_
    refine z_iload_n d_M_readAt_190 5 rfl rfl ?_
    obtain ⟨hy7, hF⟩ := zh_if hF
    refine z_iast d_M_readAt_191 (hm 6 _ rfl) (zin_vp hy7) ?_
    obtain ⟨μy8, hy8, hF⟩ := zh_let hF
    refine z_eqm hy8 ?_
    refine z_aload_n d_M_readAt_192 2 rfl rfl ?_
    refine z_getr d_M_readAt_193 (q := (q + 6)) f_M_26 (hm 0 _ rfl) rfl ?_
    refine z_iload d_M_readAt_196 0 rfl ?_
    refine z_iconst d_M_readAt_198 (v := 3) (by decide) ?_
    refine z_iadd d_M_readAt_199 ?_
    refine z_iload d_M_readAt_200 1 rfl ?_
    obtain ⟨hy9, hF⟩ := zh_if hF
    refine z_iast d_M_readAt_202 (hm 6 _ rfl) (zin_vp hy9) ?_
    obtain ⟨μy10, hy10, hF⟩ := zh_let hF
    refine z_eqm hy10 ?_
    refine z_aload_n d_M_readAt_203 2 rfl rfl ?_
    refine z_dup d_M_readAt_204 rfl ?_
    refine z_get d_M_readAt_205 f_M_132 (hm 0 _ rfl) rfl ?_
    refine z_iconst d_M_readAt_208 (v := 1) (by decide) ?_
    refine z_iadd d_M_readAt_209 ?_
    refine z_put d_M_readAt_210 f_M_132 (hm 0 _ rfl) rfl (CL_fin _ _ (fun q hq => by cases hq; rfl)) rfl rfl ?_
    obtain ⟨μy11, hy11, hF⟩ := zh_let hF
    refine z_eqm hy11 ?_
    cases hF
    exact z_return d_M_readAt_213 rfl ⟨rfl, rfl, rfl⟩
  · replace hF := zh_f cy1 hF
    cases hF
    exact z_return d_M_readAt_152 rfl ⟨rfl, rfl, rfl⟩
def e_M_readAt_103 (q : Nat)  (x1 : Int32) (x2 : Int32) (s0 : Int32) (μ : zI) (ν : zJ) : Option (zI × zJ) := (if x2 = 7 then Option.bind (E_M_numeral q 0 100 μ ν) fun ty5 => e_M_readAt_143 q x1 x2 s0 ty5.1 ty5.2.1 ty5.2.2 else (if x2 = 8 then Option.bind (E_M_numeral q 0 1 μ ν) fun ty4 => e_M_readAt_143 q x1 x2 s0 ty4.1 ty4.2.1 ty4.2.2 else Option.bind (E_M_numeral q 45000 55000 μ ν) fun ty3 => e_M_readAt_143 q x1 x2 s0 ty3.1 ty3.2.1 ty3.2.2))
theorem z_M_readAt_103 {l : Launch} {D : va_G} {dA : Nat → ClassId} {ad : Nat → Nat} {sh : List zSE}  {q : Nat} (hm : zMo sh q)  {x1 : Int32} {x2 : Int32} {s0 : Int32} {μ : zI} {ν : zJ} {out : (zI × zJ)} (hF : e_M_readAt_103 q  x1 x2 s0 μ ν = some out) : Z l D dA ad sh m_M_readAt (zR 8 0 0) (zS ad) (zOv out) 0 0 0 0 [] 103 [(0, .ref (ad q)), (1, .int x1), (2, .int x2)] [.int s0] μ ν := by
  unfold e_M_readAt_103 at hF
  refine z_istore_n d_M_readAt_103 rfl (by decide) (L2 := [(3, .int s0), (0, .ref (ad q)), (1, .int x1), (2, .int x2)]) rfl ?_
  refine z_iload_n d_M_readAt_104 3 rfl rfl ?_
  refine z_bipush d_M_readAt_105 (v := 7) (by decide) ?_
  refine z_icmp_ne d_M_readAt_107 (tgt := 120) (by decide) (fun cy1 => ?_) (fun cy1 => ?_)
  · replace hF := zh_f cy1 hF
    refine z_iload_n d_M_readAt_120 3 rfl rfl ?_
    refine z_bipush d_M_readAt_121 (v := 8) (by decide) ?_
    refine z_icmp_ne d_M_readAt_123 (tgt := 135) (by decide) (fun cy2 => ?_) (fun cy2 => ?_)
    · replace hF := zh_f cy2 hF
      refine z_aload_n d_M_readAt_135 1 rfl rfl ?_
      refine z_ldc d_M_readAt_136 k_M_145 ?_
      refine z_ldc d_M_readAt_138 k_M_146 ?_
      obtain ⟨ty3, hty3, hF⟩ := zh_bind hF
      refine z_callV d_M_readAt_140 (c_M_numeral hm hty3) mv_M_numeral l_M_125 (fun _ _ h => h) (hm 0 _ rfl) rfl rfl ⟨Nat.le_of_ble_eq_true rfl, Nat.le_of_ble_eq_true rfl⟩ ⟨Nat.le_of_ble_eq_true rfl, Nat.le_of_ble_eq_true rfl⟩ rfl (Nat.le_of_ble_eq_true rfl) (fun r μ' ν' hq => ?_)
      obtain ⟨rfl, rfl, rfl⟩ := hq
      show Z _ _ _ _ _ _ _ _ _ _ _ 0 0 _ _ _ [.int ty3.1] _ _
      refine z_sub [1, 2, 3, 0] (L' := [(0, .ref (ad q)), (1, .int x1), (2, .int x2), (3, .int s0)]) rfl ?_
      exact z_M_readAt_143 hm  hF
    · replace hF := zh_t cy2 hF
      refine z_aload_n d_M_readAt_126 1 rfl rfl ?_
      refine z_iconst d_M_readAt_127 (v := 0) (by decide) ?_
      refine z_iconst d_M_readAt_128 (v := 1) (by decide) ?_
      obtain ⟨ty4, hty4, hF⟩ := zh_bind hF
      refine z_callV d_M_readAt_129 (c_M_numeral hm hty4) mv_M_numeral l_M_125 (fun _ _ h => h) (hm 0 _ rfl) rfl rfl ⟨Nat.le_of_ble_eq_true rfl, Nat.le_of_ble_eq_true rfl⟩ ⟨Nat.le_of_ble_eq_true rfl, Nat.le_of_ble_eq_true rfl⟩ rfl (Nat.le_of_ble_eq_true rfl) (fun r μ' ν' hq => ?_)
      obtain ⟨rfl, rfl, rfl⟩ := hq
      show Z _ _ _ _ _ _ _ _ _ _ _ 0 0 _ _ _ [.int ty4.1] _ _
      refine z_goto d_M_readAt_132 (tgt := 143) (by decide) ?_
      refine z_sub [1, 2, 3, 0] (L' := [(0, .ref (ad q)), (1, .int x1), (2, .int x2), (3, .int s0)]) rfl ?_
      exact z_M_readAt_143 hm  hF
  · replace hF := zh_t cy1 hF
    refine z_aload_n d_M_readAt_110 1 rfl rfl ?_
    refine z_iconst d_M_readAt_111 (v := 0) (by decide) ?_
    refine z_bipush d_M_readAt_112 (v := 100) (by decide) ?_
    obtain ⟨ty5, hty5, hF⟩ := zh_bind hF
    refine z_callV d_M_readAt_114 (c_M_numeral hm hty5) mv_M_numeral l_M_125 (fun _ _ h => h) (hm 0 _ rfl) rfl rfl ⟨Nat.le_of_ble_eq_true rfl, Nat.le_of_ble_eq_true rfl⟩ ⟨Nat.le_of_ble_eq_true rfl, Nat.le_of_ble_eq_true rfl⟩ rfl (Nat.le_of_ble_eq_true rfl) (fun r μ' ν' hq => ?_)
    obtain ⟨rfl, rfl, rfl⟩ := hq
    show Z _ _ _ _ _ _ _ _ _ _ _ 0 0 _ _ _ [.int ty5.1] _ _
    refine z_goto d_M_readAt_117 (tgt := 143) (by decide) ?_
    refine z_sub [1, 2, 3, 0] (L' := [(0, .ref (ad q)), (1, .int x1), (2, .int x2), (3, .int s0)]) rfl ?_
    exact z_M_readAt_143 hm  hF
def e_M_readAt_77 (q : Nat)  (x1 : Int32) (x2 : Int32) (μ : zI) (ν : zJ) : Option (zI × zJ) := Option.bind (E_M_goOn q μ ν) fun ty1 => (if x2 = 7 then Option.bind (E_M_numeral q 0 ((ty1.1 q 10) - 1) ty1.1 ty1.2) fun ty3 => e_M_readAt_103 q x1 x2 ty3.1 ty3.2.1 ty3.2.2 else e_M_readAt_103 q x1 x2 (-2) ty1.1 ty1.2)
theorem z_M_readAt_77 {l : Launch} {D : va_G} {dA : Nat → ClassId} {ad : Nat → Nat} {sh : List zSE}  {q : Nat} (hm : zMo sh q)  {x1 : Int32} {x2 : Int32} {μ : zI} {ν : zJ} {out : (zI × zJ)} (hF : e_M_readAt_77 q  x1 x2 μ ν = some out) : Z l D dA ad sh m_M_readAt (zR 8 0 0) (zS ad) (zOv out) 0 0 0 0 [] 77 [(0, .ref (ad q)), (1, .int x1), (2, .int x2)] [] μ ν := by
  unfold e_M_readAt_77 at hF
  refine z_aload_n d_M_readAt_77 0 rfl rfl ?_
  obtain ⟨ty1, hty1, hF⟩ := zh_bind hF
  refine z_callV d_M_readAt_78 (c_M_goOn hm hty1) mv_M_goOn l_M_115 (fun _ _ h => h) (hm 0 _ rfl) rfl rfl ⟨Nat.le_of_ble_eq_true rfl, Nat.le_of_ble_eq_true rfl⟩ ⟨Nat.le_of_ble_eq_true rfl, Nat.le_of_ble_eq_true rfl⟩ rfl (Nat.le_of_ble_eq_true rfl) (fun r μ' ν' hq => ?_)
  obtain ⟨rfl, rfl, rfl⟩ := hq
  show Z _ _ _ _ _ _ _ _ _ _ _ 0 0 _ _ _ [] _ _
  refine z_iload_n d_M_readAt_81 2 rfl rfl ?_
  refine z_bipush d_M_readAt_82 (v := 7) (by decide) ?_
  refine z_icmp_ne d_M_readAt_84 (tgt := 101) (by decide) (fun cy2 => ?_) (fun cy2 => ?_)
  · replace hF := zh_f cy2 hF
    refine z_bipush d_M_readAt_101 (v := (-2)) (by decide) ?_
    exact z_M_readAt_103 hm  hF
  · replace hF := zh_t cy2 hF
    refine z_aload_n d_M_readAt_87 0 rfl rfl ?_
    refine z_iconst d_M_readAt_88 (v := 0) (by decide) ?_
    refine z_aload_n d_M_readAt_89 0 rfl rfl ?_
    refine z_get d_M_readAt_90 f_M_129 (hm 0 _ rfl) rfl ?_
    refine z_iconst d_M_readAt_93 (v := 1) (by decide) ?_
    refine z_isub d_M_readAt_94 ?_
    obtain ⟨ty3, hty3, hF⟩ := zh_bind hF
    refine z_callV d_M_readAt_95 (c_M_numeral hm hty3) mv_M_numeral l_M_125 (fun _ _ h => h) (hm 0 _ rfl) rfl rfl ⟨Nat.le_of_ble_eq_true rfl, Nat.le_of_ble_eq_true rfl⟩ ⟨Nat.le_of_ble_eq_true rfl, Nat.le_of_ble_eq_true rfl⟩ rfl (Nat.le_of_ble_eq_true rfl) (fun r μ' ν' hq => ?_)
    obtain ⟨rfl, rfl, rfl⟩ := hq
    show Z _ _ _ _ _ _ _ _ _ _ _ 0 0 _ _ _ [.int ty3.1] _ _
    refine z_goto d_M_readAt_98 (tgt := 103) (by decide) ?_
    exact z_M_readAt_103 hm  hF
def e_M_readAt_65 (q : Nat)  (x1 : Int32) (s0 : Int32) (μ : zI) (ν : zJ) : Option (zI × zJ) := (if 7 ≤ s0 then e_M_readAt_77 q x1 s0 μ ν else Option.bind (E_M_wrong q 1 μ ν) fun ty2 => e_M_readAt_77 q x1 s0 ty2.1 ty2.2)
theorem z_M_readAt_65 {l : Launch} {D : va_G} {dA : Nat → ClassId} {ad : Nat → Nat} {sh : List zSE}  {q : Nat} (hm : zMo sh q)  {x1 : Int32} {s0 : Int32} {μ : zI} {ν : zJ} {out : (zI × zJ)} (hF : e_M_readAt_65 q  x1 s0 μ ν = some out) : Z l D dA ad sh m_M_readAt (zR 8 0 0) (zS ad) (zOv out) 0 0 0 0 [] 65 [(0, .ref (ad q)), (1, .int x1)] [.int s0] μ ν := by
  unfold e_M_readAt_65 at hF
  refine z_istore_n d_M_readAt_65 rfl (by decide) (L2 := [(2, .int s0), (0, .ref (ad q)), (1, .int x1)]) rfl ?_
  refine z_iload_n d_M_readAt_66 0 rfl rfl ?_
  refine z_bipush d_M_readAt_67 (v := 7) (by decide) ?_
  refine z_icmp_ge d_M_readAt_69 (tgt := 77) (by decide) (fun cy1 => ?_) (fun cy1 => ?_)
  · replace hF := zh_t cy1 hF
    refine z_sub [1, 2, 0] (L' := [(0, .ref (ad q)), (1, .int x1), (2, .int s0)]) rfl ?_
    exact z_M_readAt_77 hm  hF
  · replace hF := zh_f cy1 hF
    refine z_aload_n d_M_readAt_72 1 rfl rfl ?_
    refine z_iconst d_M_readAt_73 (v := 1) (by decide) ?_
    obtain ⟨ty2, hty2, hF⟩ := zh_bind hF
    refine z_callV d_M_readAt_74 (c_M_wrong hm hty2) mv_M_wrong l_M_111 (fun _ _ h => h) (hm 0 _ rfl) rfl rfl ⟨Nat.le_of_ble_eq_true rfl, Nat.le_of_ble_eq_true rfl⟩ ⟨Nat.le_of_ble_eq_true rfl, Nat.le_of_ble_eq_true rfl⟩ rfl (Nat.le_of_ble_eq_true rfl) (fun r μ' ν' hq => ?_)
    obtain ⟨rfl, rfl, rfl⟩ := hq
    show Z _ _ _ _ _ _ _ _ _ _ _ 0 0 _ _ _ [] _ _
    refine z_sub [1, 2, 0] (L' := [(0, .ref (ad q)), (1, .int x1), (2, .int s0)]) rfl ?_
    exact z_M_readAt_77 hm  hF
def e_M_readAt_29 (q : Nat)   (μ : zI) (ν : zJ) : Option (zI × zJ) := Option.bind (E_M_goOn q μ ν) fun ty1 => Option.bind (E_M_numeral q 1 9999 ty1.1 ty1.2) fun ty2 => zlet (α := Int32) ty2.1 fun y3 => (if (ty2.2.1 q 19) = 0 then (if (ty2.2.1 q 17) = 0 then e_M_readAt_65 q y3 (ty2.2.1 q 18) ty2.2.1 ty2.2.2 else e_M_readAt_65 q y3 (-1) ty2.2.1 ty2.2.2) else some (ty2.2.1, ty2.2.2))
theorem z_M_readAt_29 {l : Launch} {D : va_G} {dA : Nat → ClassId} {ad : Nat → Nat} {sh : List zSE}  {q : Nat} (hm : zMo sh q)   {μ : zI} {ν : zJ} {out : (zI × zJ)} (hF : e_M_readAt_29 q   μ ν = some out) : Z l D dA ad sh m_M_readAt (zR 8 0 0) (zS ad) (zOv out) 0 0 0 0 [] 29 [(0, .ref (ad q))] [] μ ν := by
  unfold e_M_readAt_29 at hF
  refine z_aload_n d_M_readAt_29 0 rfl rfl ?_
  obtain ⟨ty1, hty1, hF⟩ := zh_bind hF
  refine z_callV d_M_readAt_30 (c_M_goOn hm hty1) mv_M_goOn l_M_115 (fun _ _ h => h) (hm 0 _ rfl) rfl rfl ⟨Nat.le_of_ble_eq_true rfl, Nat.le_of_ble_eq_true rfl⟩ ⟨Nat.le_of_ble_eq_true rfl, Nat.le_of_ble_eq_true rfl⟩ rfl (Nat.le_of_ble_eq_true rfl) (fun r μ' ν' hq => ?_)
  obtain ⟨rfl, rfl, rfl⟩ := hq
  show Z _ _ _ _ _ _ _ _ _ _ _ 0 0 _ _ _ [] _ _
  refine z_aload_n d_M_readAt_33 0 rfl rfl ?_
  refine z_iconst d_M_readAt_34 (v := 1) (by decide) ?_
  refine z_sipush d_M_readAt_35 (v := 9999) (by decide) ?_
  obtain ⟨ty2, hty2, hF⟩ := zh_bind hF
  refine z_callV d_M_readAt_38 (c_M_numeral hm hty2) mv_M_numeral l_M_125 (fun _ _ h => h) (hm 0 _ rfl) rfl rfl ⟨Nat.le_of_ble_eq_true rfl, Nat.le_of_ble_eq_true rfl⟩ ⟨Nat.le_of_ble_eq_true rfl, Nat.le_of_ble_eq_true rfl⟩ rfl (Nat.le_of_ble_eq_true rfl) (fun r μ' ν' hq => ?_)
  obtain ⟨rfl, rfl, rfl⟩ := hq
  show Z _ _ _ _ _ _ _ _ _ _ _ 0 0 _ _ _ [.int ty2.1] _ _
  obtain ⟨y3, hy3, hF⟩ := zh_let hF
  refine z_eqi hy3 ?_
  refine z_istore_n d_M_readAt_41 rfl (by decide) (L2 := [(1, .int y3), (0, .ref (ad q))]) rfl ?_
  refine z_aload_n d_M_readAt_42 1 rfl rfl ?_
  refine z_get d_M_readAt_43 f_M_102 (hm 0 _ rfl) rfl ?_
  refine z_if_eq d_M_readAt_46 (tgt := 50) (by decide) (fun cy4 => ?_) (fun cy4 => ?_)
  · replace hF := zh_t cy4 hF
    refine z_aload_n d_M_readAt_50 1 rfl rfl ?_
    refine z_get d_M_readAt_51 f_M_74 (hm 0 _ rfl) rfl ?_
    refine z_if_ne d_M_readAt_54 (tgt := 64) (by decide) (fun cy5 => ?_) (fun cy5 => ?_)
    · replace hF := zh_f cy5 hF
      refine z_iconst d_M_readAt_64 (v := (-1)) (by decide) ?_
      refine z_sub [1, 0] (L' := [(0, .ref (ad q)), (1, .int y3)]) rfl ?_
      exact z_M_readAt_65 hm  hF
    · replace hF := zh_t cy5 hF
      refine z_aload_n d_M_readAt_57 1 rfl rfl ?_
      refine z_get d_M_readAt_58 f_M_84 (hm 0 _ rfl) rfl ?_
      refine z_goto d_M_readAt_61 (tgt := 65) (by decide) ?_
      refine z_sub [1, 0] (L' := [(0, .ref (ad q)), (1, .int y3)]) rfl ?_
      exact z_M_readAt_65 hm  hF
  · replace hF := zh_f cy4 hF
    cases hF
    exact z_return d_M_readAt_49 rfl ⟨rfl, rfl, rfl⟩
def e_M_readAt_0 (q : Nat)   (μ : zI) (ν : zJ) : Option (zI × zJ) := (if (μ q 10) = 0 then Option.bind (E_M_wrong q 1 μ ν) fun ty4 => e_M_readAt_29 q ty4.1 ty4.2 else (if (μ q 12) = 24 then Option.bind (E_M_wrong q 2 μ ν) fun ty3 => e_M_readAt_29 q ty3.1 ty3.2 else e_M_readAt_29 q μ ν))
theorem z_M_readAt_0 {l : Launch} {D : va_G} {dA : Nat → ClassId} {ad : Nat → Nat} {sh : List zSE}  {q : Nat} (hm : zMo sh q)   {μ : zI} {ν : zJ} {out : (zI × zJ)} (hF : e_M_readAt_0 q   μ ν = some out) : Z l D dA ad sh m_M_readAt (zR 8 0 0) (zS ad) (zOv out) 0 0 0 0 [] 0 [(0, .ref (ad q))] [] μ ν := by
  unfold e_M_readAt_0 at hF
  refine z_aload_n d_M_readAt_0 0 rfl rfl ?_
  refine z_get d_M_readAt_1 f_M_129 (hm 0 _ rfl) rfl ?_
  refine z_if_ne d_M_readAt_4 (tgt := 15) (by decide) (fun cy1 => ?_) (fun cy1 => ?_)
  · replace hF := zh_f cy1 hF
    refine z_aload_n d_M_readAt_15 0 rfl rfl ?_
    refine z_get d_M_readAt_16 f_M_132 (hm 0 _ rfl) rfl ?_
    refine z_bipush d_M_readAt_19 (v := 24) (by decide) ?_
    refine z_icmp_ne d_M_readAt_21 (tgt := 29) (by decide) (fun cy2 => ?_) (fun cy2 => ?_)
    · replace hF := zh_f cy2 hF
      exact z_M_readAt_29 hm  hF
    · replace hF := zh_t cy2 hF
      refine z_aload_n d_M_readAt_24 0 rfl rfl ?_
      refine z_iconst d_M_readAt_25 (v := 2) (by decide) ?_
      obtain ⟨ty3, hty3, hF⟩ := zh_bind hF
      refine z_callV d_M_readAt_26 (c_M_wrong hm hty3) mv_M_wrong l_M_111 (fun _ _ h => h) (hm 0 _ rfl) rfl rfl ⟨Nat.le_of_ble_eq_true rfl, Nat.le_of_ble_eq_true rfl⟩ ⟨Nat.le_of_ble_eq_true rfl, Nat.le_of_ble_eq_true rfl⟩ rfl (Nat.le_of_ble_eq_true rfl) (fun r μ' ν' hq => ?_)
      obtain ⟨rfl, rfl, rfl⟩ := hq
      show Z _ _ _ _ _ _ _ _ _ _ _ 0 0 _ _ _ [] _ _
      exact z_M_readAt_29 hm  hF
  · replace hF := zh_t cy1 hF
    refine z_aload_n d_M_readAt_7 0 rfl rfl ?_
    refine z_iconst d_M_readAt_8 (v := 1) (by decide) ?_
    obtain ⟨ty4, hty4, hF⟩ := zh_bind hF
    refine z_callV d_M_readAt_9 (c_M_wrong hm hty4) mv_M_wrong l_M_111 (fun _ _ h => h) (hm 0 _ rfl) rfl rfl ⟨Nat.le_of_ble_eq_true rfl, Nat.le_of_ble_eq_true rfl⟩ ⟨Nat.le_of_ble_eq_true rfl, Nat.le_of_ble_eq_true rfl⟩ rfl (Nat.le_of_ble_eq_true rfl) (fun r μ' ν' hq => ?_)
    obtain ⟨rfl, rfl, rfl⟩ := hq
    show Z _ _ _ _ _ _ _ _ _ _ _ 0 0 _ _ _ [] _ _
    refine z_goto d_M_readAt_12 (tgt := 29) (by decide) ?_
    exact z_M_readAt_29 hm  hF
def E_M_readAt (q : Nat)  (μ : zI) (ν : zJ) : Option (zI × zJ) := e_M_readAt_0 q μ ν
theorem c_M_readAt {l : Launch} {D : va_G} {dA : Nat → ClassId} {ad : Nat → Nat} {sh : List zSE} {μ : zI} {ν : zJ} {q : Nat} (hm : zMo sh q) {out : (zI × zJ)} (hE : E_M_readAt q μ ν = some out) : zC l D dA ad sh m_M_readAt 8 0 0 [.ref (ad q)] μ ν (zOv out) :=
  zC.of (by decide) (Nat.le_of_ble_eq_true rfl) (z_M_readAt_0 hm hE)
def e_M_readLine_90 (q : Nat)   (μ : zI) (ν : zJ) : Option (zI × zJ) := Option.bind (E_M_goOn q μ ν) fun ty1 => zlet (zu ty1.1 q 13 ((ty1.1 q 13) + 1)) fun μy2 => some (μy2, ty1.2)
theorem z_M_readLine_90 {l : Launch} {D : va_G} {dA : Nat → ClassId} {ad : Nat → Nat} {sh : List zSE}  {q : Nat} (hm : zMo sh q)   {μ : zI} {ν : zJ} {out : (zI × zJ)} (hF : e_M_readLine_90 q   μ ν = some out) : Z l D dA ad sh m_M_readLine (zR 10 0 0) (zS ad) (zOv out) 0 0 0 0 [] 90 [(0, .ref (ad q))] [] μ ν := by
  unfold e_M_readLine_90 at hF
  refine z_aload_n d_M_readLine_90 0 rfl rfl ?_
  obtain ⟨ty1, hty1, hF⟩ := zh_bind hF
  refine z_callV d_M_readLine_91 (c_M_goOn hm hty1) mv_M_goOn l_M_115 (fun _ _ h => h) (hm 0 _ rfl) rfl rfl ⟨Nat.le_of_ble_eq_true rfl, Nat.le_of_ble_eq_true rfl⟩ ⟨Nat.le_of_ble_eq_true rfl, Nat.le_of_ble_eq_true rfl⟩ rfl (Nat.le_of_ble_eq_true rfl) (fun r μ' ν' hq => ?_)
  obtain ⟨rfl, rfl, rfl⟩ := hq
  show Z _ _ _ _ _ _ _ _ _ _ _ 0 0 _ _ _ [] _ _
  refine z_aload_n d_M_readLine_94 0 rfl rfl ?_
  refine z_dup d_M_readLine_95 rfl ?_
  refine z_get d_M_readLine_96 f_M_156 (hm 0 _ rfl) rfl ?_
  refine z_iconst d_M_readLine_99 (v := 1) (by decide) ?_
  refine z_iadd d_M_readLine_100 ?_
  refine z_put d_M_readLine_101 f_M_156 (hm 0 _ rfl) rfl (CL_fin _ _ (fun q hq => by cases hq; rfl)) rfl rfl ?_
  obtain ⟨μy2, hy2, hF⟩ := zh_let hF
  refine z_eqm hy2 ?_
  cases hF
  exact z_return d_M_readLine_104 rfl ⟨rfl, rfl, rfl⟩
def e_M_readLine_70 (q : Nat)   (μ : zI) (ν : zJ) : Option (zI × zJ) := (if (μ q 19) = 0 then (if (μ q 17) = 2 then e_M_readLine_90 q μ ν else Option.bind (E_M_wrong q 1 μ ν) fun ty3 => e_M_readLine_90 q ty3.1 ty3.2) else e_M_readLine_90 q μ ν)
theorem z_M_readLine_70 {l : Launch} {D : va_G} {dA : Nat → ClassId} {ad : Nat → Nat} {sh : List zSE}  {q : Nat} (hm : zMo sh q)   {μ : zI} {ν : zJ} {out : (zI × zJ)} (hF : e_M_readLine_70 q   μ ν = some out) : Z l D dA ad sh m_M_readLine (zR 10 0 0) (zS ad) (zOv out) 0 0 0 0 [] 70 [(0, .ref (ad q))] [] μ ν := by
  unfold e_M_readLine_70 at hF
  refine z_aload_n d_M_readLine_70 0 rfl rfl ?_
  refine z_get d_M_readLine_71 f_M_102 (hm 0 _ rfl) rfl ?_
  refine z_if_ne d_M_readLine_74 (tgt := 90) (by decide) (fun cy1 => ?_) (fun cy1 => ?_)
  · replace hF := zh_f cy1 hF
    exact z_M_readLine_90 hm  hF
  · replace hF := zh_t cy1 hF
    refine z_aload_n d_M_readLine_77 0 rfl rfl ?_
    refine z_get d_M_readLine_78 f_M_74 (hm 0 _ rfl) rfl ?_
    refine z_iconst d_M_readLine_81 (v := 2) (by decide) ?_
    refine z_icmp_eq d_M_readLine_82 (tgt := 90) (by decide) (fun cy2 => ?_) (fun cy2 => ?_)
    · replace hF := zh_t cy2 hF
      exact z_M_readLine_90 hm  hF
    · replace hF := zh_f cy2 hF
      refine z_aload_n d_M_readLine_85 0 rfl rfl ?_
      refine z_iconst d_M_readLine_86 (v := 1) (by decide) ?_
      obtain ⟨ty3, hty3, hF⟩ := zh_bind hF
      refine z_callV d_M_readLine_87 (c_M_wrong hm hty3) mv_M_wrong l_M_111 (fun _ _ h => h) (hm 0 _ rfl) rfl rfl ⟨Nat.le_of_ble_eq_true rfl, Nat.le_of_ble_eq_true rfl⟩ ⟨Nat.le_of_ble_eq_true rfl, Nat.le_of_ble_eq_true rfl⟩ rfl (Nat.le_of_ble_eq_true rfl) (fun r μ' ν' hq => ?_)
      obtain ⟨rfl, rfl, rfl⟩ := hq
      show Z _ _ _ _ _ _ _ _ _ _ _ 0 0 _ _ _ [] _ _
      exact z_M_readLine_90 hm  hF
def e_M_readLine_0 (q : Nat)   (μ : zI) (ν : zJ) : Option (zI × zJ) := (if (μ q 17) = 0 then (if (μ q 18) = 5 then Option.bind (E_M_readModule q μ ν) fun ty8 => e_M_readLine_70 q ty8.1 ty8.2 else (if (μ q 18) = 6 then Option.bind (E_M_readAt q μ ν) fun ty7 => e_M_readLine_70 q ty7.1 ty7.2 else (if 4 < (μ q 18) then Option.bind (E_M_wrong q 1 μ ν) fun ty5 => e_M_readLine_70 q ty5.1 ty5.2 else Option.bind (E_M_readOther q (μ q 18) μ ν) fun ty6 => e_M_readLine_70 q ty6.1 ty6.2))) else Option.bind (E_M_wrong q 1 μ ν) fun ty9 => e_M_readLine_70 q ty9.1 ty9.2)
theorem z_M_readLine_0 {l : Launch} {D : va_G} {dA : Nat → ClassId} {ad : Nat → Nat} {sh : List zSE}  {q : Nat} (hm : zMo sh q)   {μ : zI} {ν : zJ} {out : (zI × zJ)} (hF : e_M_readLine_0 q   μ ν = some out) : Z l D dA ad sh m_M_readLine (zR 10 0 0) (zS ad) (zOv out) 0 0 0 0 [] 0 [(0, .ref (ad q))] [] μ ν := by
  unfold e_M_readLine_0 at hF
  refine z_aload_n d_M_readLine_0 0 rfl rfl ?_
  refine z_get d_M_readLine_1 f_M_74 (hm 0 _ rfl) rfl ?_
  refine z_if_eq d_M_readLine_4 (tgt := 15) (by decide) (fun cy1 => ?_) (fun cy1 => ?_)
  · replace hF := zh_t cy1 hF
    refine z_aload_n d_M_readLine_15 0 rfl rfl ?_
    refine z_get d_M_readLine_16 f_M_84 (hm 0 _ rfl) rfl ?_
    refine z_iconst d_M_readLine_19 (v := 5) (by decide) ?_
    refine z_icmp_ne d_M_readLine_20 (tgt := 30) (by decide) (fun cy2 => ?_) (fun cy2 => ?_)
    · replace hF := zh_f cy2 hF
      refine z_aload_n d_M_readLine_30 0 rfl rfl ?_
      refine z_get d_M_readLine_31 f_M_84 (hm 0 _ rfl) rfl ?_
      refine z_bipush d_M_readLine_34 (v := 6) (by decide) ?_
      refine z_icmp_ne d_M_readLine_36 (tgt := 46) (by decide) (fun cy3 => ?_) (fun cy3 => ?_)
      · replace hF := zh_f cy3 hF
        refine z_aload_n d_M_readLine_46 0 rfl rfl ?_
        refine z_get d_M_readLine_47 f_M_84 (hm 0 _ rfl) rfl ?_
        refine z_iconst d_M_readLine_50 (v := 4) (by decide) ?_
        refine z_icmp_gt d_M_readLine_51 (tgt := 65) (by decide) (fun cy4 => ?_) (fun cy4 => ?_)
        · replace hF := zh_t cy4 hF
          refine z_aload_n d_M_readLine_65 0 rfl rfl ?_
          refine z_iconst d_M_readLine_66 (v := 1) (by decide) ?_
          obtain ⟨ty5, hty5, hF⟩ := zh_bind hF
          refine z_callV d_M_readLine_67 (c_M_wrong hm hty5) mv_M_wrong l_M_111 (fun _ _ h => h) (hm 0 _ rfl) rfl rfl ⟨Nat.le_of_ble_eq_true rfl, Nat.le_of_ble_eq_true rfl⟩ ⟨Nat.le_of_ble_eq_true rfl, Nat.le_of_ble_eq_true rfl⟩ rfl (Nat.le_of_ble_eq_true rfl) (fun r μ' ν' hq => ?_)
          obtain ⟨rfl, rfl, rfl⟩ := hq
          show Z _ _ _ _ _ _ _ _ _ _ _ 0 0 _ _ _ [] _ _
          exact z_M_readLine_70 hm  hF
        · replace hF := zh_f cy4 hF
          refine z_aload_n d_M_readLine_54 0 rfl rfl ?_
          refine z_aload_n d_M_readLine_55 0 rfl rfl ?_
          refine z_get d_M_readLine_56 f_M_84 (hm 0 _ rfl) rfl ?_
          obtain ⟨ty6, hty6, hF⟩ := zh_bind hF
          refine z_callV d_M_readLine_59 (c_M_readOther hm hty6) mv_M_readOther l_M_153 (fun _ _ h => h) (hm 0 _ rfl) rfl rfl ⟨Nat.le_of_ble_eq_true rfl, Nat.le_of_ble_eq_true rfl⟩ ⟨Nat.le_of_ble_eq_true rfl, Nat.le_of_ble_eq_true rfl⟩ rfl (Nat.le_of_ble_eq_true rfl) (fun r μ' ν' hq => ?_)
          obtain ⟨rfl, rfl, rfl⟩ := hq
          show Z _ _ _ _ _ _ _ _ _ _ _ 0 0 _ _ _ [] _ _
          refine z_goto d_M_readLine_62 (tgt := 70) (by decide) ?_
          exact z_M_readLine_70 hm  hF
      · replace hF := zh_t cy3 hF
        refine z_aload_n d_M_readLine_39 0 rfl rfl ?_
        obtain ⟨ty7, hty7, hF⟩ := zh_bind hF
        refine z_callV d_M_readLine_40 (c_M_readAt hm hty7) mv_M_readAt l_M_150 (fun _ _ h => h) (hm 0 _ rfl) rfl rfl ⟨Nat.le_of_ble_eq_true rfl, Nat.le_of_ble_eq_true rfl⟩ ⟨Nat.le_of_ble_eq_true rfl, Nat.le_of_ble_eq_true rfl⟩ rfl (Nat.le_of_ble_eq_true rfl) (fun r μ' ν' hq => ?_)
        obtain ⟨rfl, rfl, rfl⟩ := hq
        show Z _ _ _ _ _ _ _ _ _ _ _ 0 0 _ _ _ [] _ _
        refine z_goto d_M_readLine_43 (tgt := 70) (by decide) ?_
        exact z_M_readLine_70 hm  hF
    · replace hF := zh_t cy2 hF
      refine z_aload_n d_M_readLine_23 0 rfl rfl ?_
      obtain ⟨ty8, hty8, hF⟩ := zh_bind hF
      refine z_callV d_M_readLine_24 (c_M_readModule hm hty8) mv_M_readModule l_M_147 (fun _ _ h => h) (hm 0 _ rfl) rfl rfl ⟨Nat.le_of_ble_eq_true rfl, Nat.le_of_ble_eq_true rfl⟩ ⟨Nat.le_of_ble_eq_true rfl, Nat.le_of_ble_eq_true rfl⟩ rfl (Nat.le_of_ble_eq_true rfl) (fun r μ' ν' hq => ?_)
      obtain ⟨rfl, rfl, rfl⟩ := hq
      show Z _ _ _ _ _ _ _ _ _ _ _ 0 0 _ _ _ [] _ _
      refine z_goto d_M_readLine_27 (tgt := 70) (by decide) ?_
      exact z_M_readLine_70 hm  hF
  · replace hF := zh_f cy1 hF
    refine z_aload_n d_M_readLine_7 0 rfl rfl ?_
    refine z_iconst d_M_readLine_8 (v := 1) (by decide) ?_
    obtain ⟨ty9, hty9, hF⟩ := zh_bind hF
    refine z_callV d_M_readLine_9 (c_M_wrong hm hty9) mv_M_wrong l_M_111 (fun _ _ h => h) (hm 0 _ rfl) rfl rfl ⟨Nat.le_of_ble_eq_true rfl, Nat.le_of_ble_eq_true rfl⟩ ⟨Nat.le_of_ble_eq_true rfl, Nat.le_of_ble_eq_true rfl⟩ rfl (Nat.le_of_ble_eq_true rfl) (fun r μ' ν' hq => ?_)
    obtain ⟨rfl, rfl, rfl⟩ := hq
    show Z _ _ _ _ _ _ _ _ _ _ _ 0 0 _ _ _ [] _ _
    refine z_goto d_M_readLine_12 (tgt := 70) (by decide) ?_
    exact z_M_readLine_70 hm  hF
def E_M_readLine (q : Nat)  (μ : zI) (ν : zJ) : Option (zI × zJ) := e_M_readLine_0 q μ ν
theorem c_M_readLine {l : Launch} {D : va_G} {dA : Nat → ClassId} {ad : Nat → Nat} {sh : List zSE} {μ : zI} {ν : zJ} {q : Nat} (hm : zMo sh q) {out : (zI × zJ)} (hE : E_M_readLine q μ ν = some out) : zC l D dA ad sh m_M_readLine 10 0 0 [.ref (ad q)] μ ν (zOv out) :=
  zC.of (by decide) (Nat.le_of_ble_eq_true rfl) (z_M_readLine_0 hm hE)
def e_M_readText_50 (q : Nat)  (x1 : Int32) (μ : zI) (ν : zJ) : Option (zI × zJ) := some (μ, ν)
theorem z_M_readText_50 {l : Launch} {D : va_G} {dA : Nat → ClassId} {ad : Nat → Nat} {sh : List zSE}  {q : Nat} (hm : zMo sh q)  {x1 : Int32} {μ : zI} {ν : zJ} {out : (zI × zJ)} (hF : e_M_readText_50 q  x1 μ ν = some out) : Z l D dA ad sh m_M_readText (zR 11 1 19) (zS ad) (zOv out) 1 19 1 19 [] 50 [(0, .ref (ad q)), (1, .int x1)] [] μ ν := by
  unfold e_M_readText_50 at hF
  cases hF
  exact z_return d_M_readText_50 rfl ⟨rfl, rfl, rfl⟩
def f_M_readText_28 (q : Nat)  : Nat → Int32 → zI → zJ → Option (zI × zJ)
  | 0, _, _, _ => none
  | n + 1, x1, μ, ν => (if (μ q 19) = 0 then (if (μ q 17) = 3 then e_M_readText_50 q x1 μ ν else Option.bind (E_M_readLine q μ ν) fun ty3 => (f_M_readText_28 q n) x1 ty3.1 ty3.2) else e_M_readText_50 q x1 μ ν)
theorem z_M_readText_28 {l : Launch} {D : va_G} {dA : Nat → ClassId} {ad : Nat → Nat} {sh : List zSE}  {q : Nat} (hm : zMo sh q)  {out : (zI × zJ)} : ∀ (n : Nat) (x1 : Int32) (μ : zI) (ν : zJ), f_M_readText_28 q  n x1 μ ν = some out → Z l D dA ad sh m_M_readText (zR 11 1 19) (zS ad) (zOv out) 1 19 1 19 [] 28 [(0, .ref (ad q)), (1, .int x1)] [] μ ν := by
  intro n
  induction n with
  | zero => intro x1 μ ν hF; cases hF
  | succ n ih =>
    intro x1 μ ν hF
    dsimp only [f_M_readText_28] at hF
    refine z_aload_n d_M_readText_28 0 rfl rfl ?_
    refine z_get d_M_readText_29 f_M_102 (hm 0 _ rfl) rfl ?_
    refine z_if_ne d_M_readText_32 (tgt := 50) (by decide) (fun cy1 => ?_) (fun cy1 => ?_)
    · replace hF := zh_f cy1 hF
      exact z_M_readText_50 hm  hF
    · replace hF := zh_t cy1 hF
      refine z_aload_n d_M_readText_35 0 rfl rfl ?_
      refine z_get d_M_readText_36 f_M_74 (hm 0 _ rfl) rfl ?_
      refine z_iconst d_M_readText_39 (v := 3) (by decide) ?_
      refine z_icmp_eq d_M_readText_40 (tgt := 50) (by decide) (fun cy2 => ?_) (fun cy2 => ?_)
      · replace hF := zh_t cy2 hF
        exact z_M_readText_50 hm  hF
      · replace hF := zh_f cy2 hF
        refine z_aload_n d_M_readText_43 0 rfl rfl ?_
        obtain ⟨ty3, hty3, hF⟩ := zh_bind hF
        refine z_callV d_M_readText_44 (c_M_readLine hm hty3) mv_M_readLine l_M_159 (fun _ _ h => h) (hm 0 _ rfl) rfl rfl ⟨Nat.le_of_ble_eq_true rfl, Nat.le_of_ble_eq_true rfl⟩ ⟨Nat.le_of_ble_eq_true rfl, Nat.le_of_ble_eq_true rfl⟩ rfl (Nat.le_of_ble_eq_true rfl) (fun r μ' ν' hq => ?_)
        obtain ⟨rfl, rfl, rfl⟩ := hq
        show Z _ _ _ _ _ _ _ _ _ _ _ 1 19 _ _ _ [] _ _
        refine z_goto d_M_readText_47 (tgt := 28) (by decide) ?_
        exact ih _ _ _ hF
def e_M_readText_0 (q : Nat)  (x1 : Int32) (μ : zI) (ν : zJ) : Option (zI × zJ) := zlet (zu μ q 14 x1) fun μy1 => zlet (zu μy1 q 15 0) fun μy2 => zlet (zu μy2 q 19 0) fun μy3 => zlet (zu μy3 q 13 0) fun μy4 => Option.bind (E_M_freshText q μy4 ν) fun ty5 => Option.bind (E_M_token q ty5.1 ty5.2) fun ty6 => f_M_readText_28 q zFuel x1 ty6.1 ty6.2
theorem z_M_readText_0 {l : Launch} {D : va_G} {dA : Nat → ClassId} {ad : Nat → Nat} {sh : List zSE}  {q : Nat} (hm : zMo sh q)  {x1 : Int32} {μ : zI} {ν : zJ} {out : (zI × zJ)} (hF : e_M_readText_0 q  x1 μ ν = some out) : Z l D dA ad sh m_M_readText (zR 11 1 19) (zS ad) (zOv out) 1 19 0 0 [] 0 [(0, .ref (ad q)), (1, .int x1)] [] μ ν := by
  unfold e_M_readText_0 at hF
  refine z_aload_n d_M_readText_0 0 rfl rfl ?_
  refine z_iload_n d_M_readText_1 1 rfl rfl ?_
  refine z_put d_M_readText_2 f_M_64 (hm 0 _ rfl) rfl (CL_fin _ _ (fun q hq => by cases hq; rfl)) rfl rfl ?_
  obtain ⟨μy1, hy1, hF⟩ := zh_let hF
  refine z_eqm hy1 ?_
  refine z_aload_n d_M_readText_5 0 rfl rfl ?_
  refine z_iconst d_M_readText_6 (v := 0) (by decide) ?_
  refine z_put d_M_readText_7 f_M_61 (hm 0 _ rfl) rfl (CL_fin _ _ (fun q hq => by cases hq; rfl)) rfl rfl ?_
  obtain ⟨μy2, hy2, hF⟩ := zh_let hF
  refine z_eqm hy2 ?_
  refine z_aload_n d_M_readText_10 0 rfl rfl ?_
  refine z_iconst d_M_readText_11 (v := 0) (by decide) ?_
  refine z_put d_M_readText_12 f_M_102 (hm 0 _ rfl) rfl (CL_fin _ _ (fun q hq => by cases hq; rfl)) rfl rfl ?_
  obtain ⟨μy3, hy3, hF⟩ := zh_let hF
  refine z_eqm hy3 ?_
  refine z_aload_n d_M_readText_15 0 rfl rfl ?_
  refine z_iconst d_M_readText_16 (v := 0) (by decide) ?_
  refine z_put d_M_readText_17 f_M_156 (hm 0 _ rfl) rfl (CL_fin _ _ (fun q hq => by cases hq; rfl)) rfl rfl ?_
  obtain ⟨μy4, hy4, hF⟩ := zh_let hF
  refine z_eqm hy4 ?_
  refine z_aload_n d_M_readText_20 0 rfl rfl ?_
  obtain ⟨ty5, hty5, hF⟩ := zh_bind hF
  refine z_callV d_M_readText_21 (c_M_freshText hm hty5) mv_M_freshText l_M_49 (fun _ _ h => h) (hm 0 _ rfl) rfl rfl ⟨Nat.le_of_ble_eq_true rfl, Nat.le_of_ble_eq_true rfl⟩ ⟨Nat.le_of_ble_eq_true rfl, Nat.le_of_ble_eq_true rfl⟩ rfl (Nat.le_of_ble_eq_true rfl) (fun r μ' ν' hq => ?_)
  obtain ⟨rfl, rfl, rfl⟩ := hq
  show Z _ _ _ _ _ _ _ _ _ _ _ 1 19 _ _ _ [] _ _
  refine z_aload_n d_M_readText_24 0 rfl rfl ?_
  obtain ⟨ty6, hty6, hF⟩ := zh_bind hF
  refine z_callV d_M_readText_25 (c_M_token hm hty6) mv_M_token l_M_108 (fun _ _ h => h) (hm 0 _ rfl) rfl rfl ⟨Nat.le_of_ble_eq_true rfl, Nat.le_of_ble_eq_true rfl⟩ ⟨Nat.le_of_ble_eq_true rfl, Nat.le_of_ble_eq_true rfl⟩ rfl (Nat.le_of_ble_eq_true rfl) (fun r μ' ν' hq => ?_)
  obtain ⟨rfl, rfl, rfl⟩ := hq
  show Z _ _ _ _ _ _ _ _ _ _ _ 1 19 _ _ _ [] _ _
  exact z_M_readText_28 hm  zFuel _ _ _ hF
def E_M_readText (q : Nat) (x1 : Int32) (μ : zI) (ν : zJ) : Option (zI × zJ) := e_M_readText_0 q x1 μ ν
theorem c_M_readText {l : Launch} {D : va_G} {dA : Nat → ClassId} {ad : Nat → Nat} {sh : List zSE} {μ : zI} {ν : zJ} {q : Nat} {x1 : Int32} (hm : zMo sh q) {out : (zI × zJ)} (hE : E_M_readText q x1 μ ν = some out) : zC l D dA ad sh m_M_readText 11 1 19 [.ref (ad q), .int x1] μ ν (zOv out) :=
  zC.of (by decide) (Nat.le_of_ble_eq_true rfl) (z_M_readText_0 hm hE)
def e_M_text_17 (q : Nat)  (x1 : Int32) (μ : zI) (ν : zJ) : Option (Int32 × zI × zJ) := some ((-2), μ, ν)
theorem z_M_text_17 {l : Launch} {D : va_G} {dA : Nat → ClassId} {ad : Nat → Nat} {sh : List zSE}  {q : Nat} (hm : zMo sh q)  {x1 : Int32} {μ : zI} {ν : zJ} {out : (Int32 × zI × zJ)} (hF : e_M_text_17 q  x1 μ ν = some out) : Z l D dA ad sh m_M_text (zR 12 1 19) (zS ad) (zOi out) 1 19 0 0 [] 17 [(0, .ref (ad q)), (1, .int x1)] [] μ ν := by
  unfold e_M_text_17 at hF
  refine z_bipush d_M_text_17 (v := (-2)) (by decide) ?_
  refine z_wide (k := 1) (n := 19) (by omega) (by omega) ?_
  cases hF
  exact z_ireturn d_M_text_19 rfl rfl ⟨rfl, rfl, rfl⟩
def e_M_text_54 (q : Nat)  (x1 : Int32) (s1 : Int32) (μ : zI) (ν : zJ) : Option (Int32 × zI × zJ) := zlet (zu μ q 22 s1) fun μy1 => (if (μy1 q 19) = 0 then Option.bind (E_M_begins q μy1 ν) fun ty3 => some ((ty3.1 q 13), ty3.1, ty3.2) else some ((-1), μy1, ν))
theorem z_M_text_54 {l : Launch} {D : va_G} {dA : Nat → ClassId} {ad : Nat → Nat} {sh : List zSE}  {q : Nat} (hm : zMo sh q)  {x1 : Int32} {s1 : Int32} {μ : zI} {ν : zJ} {out : (Int32 × zI × zJ)} (hF : e_M_text_54 q  x1 s1 μ ν = some out) : Z l D dA ad sh m_M_text (zR 12 1 19) (zS ad) (zOi out) 1 19 1 19 [] 54 [(0, .ref (ad q)), (1, .int x1)] [.int s1, .ref (ad q)] μ ν := by
  unfold e_M_text_54 at hF
  refine z_put d_M_text_54 f_M_29 (hm 0 _ rfl) rfl (CL_fin _ _ (fun q hq => by cases hq; rfl)) rfl rfl ?_
  obtain ⟨μy1, hy1, hF⟩ := zh_let hF
  refine z_eqm hy1 ?_
  refine z_aload_n d_M_text_57 0 rfl rfl ?_
  refine z_get d_M_text_58 f_M_102 (hm 0 _ rfl) rfl ?_
  refine z_if_eq d_M_text_61 (tgt := 66) (by decide) (fun cy2 => ?_) (fun cy2 => ?_)
  · replace hF := zh_t cy2 hF
    refine z_aload_n d_M_text_66 0 rfl rfl ?_
    obtain ⟨ty3, hty3, hF⟩ := zh_bind hF
    refine z_callV d_M_text_67 (c_M_begins hm hty3) mv_M_begins l_M_52 (fun _ _ h => h) (hm 0 _ rfl) rfl rfl ⟨Nat.le_of_ble_eq_true rfl, Nat.le_of_ble_eq_true rfl⟩ ⟨Nat.le_of_ble_eq_true rfl, Nat.le_of_ble_eq_true rfl⟩ rfl (Nat.le_of_ble_eq_true rfl) (fun r μ' ν' hq => ?_)
    obtain ⟨rfl, rfl, rfl⟩ := hq
    show Z _ _ _ _ _ _ _ _ _ _ _ 1 19 _ _ _ [] _ _
    refine z_aload_n d_M_text_70 0 rfl rfl ?_
    refine z_get d_M_text_71 f_M_156 (hm 0 _ rfl) rfl ?_
    cases hF
    exact z_ireturn d_M_text_74 rfl rfl ⟨rfl, rfl, rfl⟩
  · replace hF := zh_f cy2 hF
    refine z_iconst d_M_text_64 (v := (-1)) (by decide) ?_
    cases hF
    exact z_ireturn d_M_text_65 rfl rfl ⟨rfl, rfl, rfl⟩
def e_M_text_0 (q : Nat)  (x1 : Int32) (μ : zI) (ν : zJ) : Option (Int32 × zI × zJ) := zlet (zu μ q 0 0) fun μy1 => (if x1 < 0 then e_M_text_17 q x1 μy1 ν else (if x1 ≤ (μy1 q 2) then Option.bind (E_M_readText q x1 μy1 ν) fun ty4 => zlet (zu ty4.1 q 2 0) fun μy5 => zlet (zu μy5 q 21 (μy5 q 19)) fun μy6 => (if (μy6 q 19) = 0 then e_M_text_54 q x1 (-1) μy6 ty4.2 else e_M_text_54 q x1 (μy6 q 20) μy6 ty4.2) else e_M_text_17 q x1 μy1 ν))
theorem z_M_text_0 {l : Launch} {D : va_G} {dA : Nat → ClassId} {ad : Nat → Nat} {sh : List zSE}  {q : Nat} (hm : zMo sh q)  {x1 : Int32} {μ : zI} {ν : zJ} {out : (Int32 × zI × zJ)} (hF : e_M_text_0 q  x1 μ ν = some out) : Z l D dA ad sh m_M_text (zR 12 1 19) (zS ad) (zOi out) 1 19 0 0 [] 0 [(0, .ref (ad q)), (1, .int x1)] [] μ ν := by
  unfold e_M_text_0 at hF
  refine z_aload_n d_M_text_0 0 rfl rfl ?_
  refine z_iconst d_M_text_1 (v := 0) (by decide) ?_
  refine z_put d_M_text_2 f_M_55 (hm 0 _ rfl) rfl (CL_fin _ _ (fun q hq => by cases hq; rfl)) rfl rfl ?_
  obtain ⟨μy1, hy1, hF⟩ := zh_let hF
  refine z_eqm hy1 ?_
  refine z_iload_n d_M_text_5 1 rfl rfl ?_
  refine z_if_lt d_M_text_6 (tgt := 17) (by decide) (fun cy2 => ?_) (fun cy2 => ?_)
  · replace hF := zh_t cy2 hF
    exact z_M_text_17 hm  hF
  · replace hF := zh_f cy2 hF
    refine z_iload_n d_M_text_9 1 rfl rfl ?_
    refine z_aload_n d_M_text_10 0 rfl rfl ?_
    refine z_get d_M_text_11 f_M_58 (hm 0 _ rfl) rfl ?_
    refine z_icmp_le d_M_text_14 (tgt := 20) (by decide) (fun cy3 => ?_) (fun cy3 => ?_)
    · replace hF := zh_t cy3 hF
      refine z_aload_n d_M_text_20 0 rfl rfl ?_
      refine z_iload_n d_M_text_21 1 rfl rfl ?_
      obtain ⟨ty4, hty4, hF⟩ := zh_bind hF
      refine z_callV d_M_text_22 (c_M_readText hm hty4) mv_M_readText l_M_162 (fun _ _ h => h) (hm 0 _ rfl) rfl rfl ⟨Nat.le_of_ble_eq_true rfl, Nat.le_of_ble_eq_true rfl⟩ ⟨Nat.le_of_ble_eq_true rfl, Nat.le_of_ble_eq_true rfl⟩ rfl (Nat.le_of_ble_eq_true rfl) (fun r μ' ν' hq => ?_)
      obtain ⟨rfl, rfl, rfl⟩ := hq
      show Z _ _ _ _ _ _ _ _ _ _ _ 1 19 _ _ _ [] _ _
      refine z_aload_n d_M_text_25 0 rfl rfl ?_
      refine z_iconst d_M_text_26 (v := 0) (by decide) ?_
      refine z_put d_M_text_27 f_M_58 (hm 0 _ rfl) rfl (CL_fin _ _ (fun q hq => by cases hq; rfl)) rfl rfl ?_
      obtain ⟨μy5, hy5, hF⟩ := zh_let hF
      refine z_eqm hy5 ?_
      refine z_aload_n d_M_text_30 0 rfl rfl ?_
      refine z_aload_n d_M_text_31 0 rfl rfl ?_
      refine z_get d_M_text_32 f_M_102 (hm 0 _ rfl) rfl ?_
      refine z_put d_M_text_35 f_M_165 (hm 0 _ rfl) rfl (CL_fin _ _ (fun q hq => by cases hq; rfl)) rfl rfl ?_
      obtain ⟨μy6, hy6, hF⟩ := zh_let hF
      refine z_eqm hy6 ?_
      refine z_aload_n d_M_text_38 0 rfl rfl ?_
      refine z_aload_n d_M_text_39 0 rfl rfl ?_
      refine z_get d_M_text_40 f_M_102 (hm 0 _ rfl) rfl ?_
      refine z_if_ne d_M_text_43 (tgt := 50) (by decide) (fun cy7 => ?_) (fun cy7 => ?_)
      · replace hF := zh_f cy7 hF
        refine z_aload_n d_M_text_50 0 rfl rfl ?_
        refine z_get d_M_text_51 f_M_105 (hm 0 _ rfl) rfl ?_
        exact z_M_text_54 hm  hF
      · replace hF := zh_t cy7 hF
        refine z_iconst d_M_text_46 (v := (-1)) (by decide) ?_
        refine z_goto d_M_text_47 (tgt := 54) (by decide) ?_
        exact z_M_text_54 hm  hF
    · replace hF := zh_f cy3 hF
      exact z_M_text_17 hm  hF
def E_M_text (q : Nat) (x1 : Int32) (μ : zI) (ν : zJ) : Option (Int32 × zI × zJ) := e_M_text_0 q x1 μ ν
theorem c_M_text {l : Launch} {D : va_G} {dA : Nat → ClassId} {ad : Nat → Nat} {sh : List zSE} {μ : zI} {ν : zJ} {q : Nat} {x1 : Int32} (hm : zMo sh q) {out : (Int32 × zI × zJ)} (hE : E_M_text q x1 μ ν = some out) : zC l D dA ad sh m_M_text 12 1 19 [.ref (ad q), .int x1] μ ν (zOi out) :=
  zC.of (by decide) (Nat.le_of_ble_eq_true rfl) (z_M_text_0 hm hE)
