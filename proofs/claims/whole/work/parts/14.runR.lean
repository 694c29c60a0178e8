def f_Reader_isSpelt_20   : Nat → Nat → Int32 → zI → zJ → Option (Int32 × zI × zJ)
  | 0, _, _, _, _ => none
  | n + 1, u1, x2, μ, ν => (if decide (u1 < 14) = true then (if (nI (zSl u1)) ≤ x2 then some (1, μ, ν) else (if decide (u1 < 14) = true then (if zin x2 (zSl u1) = true then Option.bind (E_Reader_signAt ((μ 3 5) + x2) μ ν) fun ty5 => (if (zSc u1 x2) = ty5.1 then (f_Reader_isSpelt_20  n) u1 (x2 + 1) ty5.2.1 ty5.2.2 else some (0, ty5.2.1, ty5.2.2)) else none) else none)) else none)
theorem z_Reader_isSpelt_20 {l : Launch} {D : va_G} {dA : Nat → ClassId} {ad : Nat → Nat} {sh : List zSE}  (hr : zRo sh)  {out : (Int32 × zI × zJ)} : ∀ (n : Nat) (u1 : Nat) (x2 : Int32) (μ : zI) (ν : zJ), f_Reader_isSpelt_20   n u1 x2 μ ν = some out → Z l D dA ad sh m_Reader_isSpelt (zR 4 0 0) (zS ad) (zOi out) 0 0 0 0 [] 20 [(0, .ref (ad 3)), (1, .ref (ad (1000200 + u1))), (2, .int x2)] [] μ ν := by
  intro n
  induction n with
  | zero => intro u1 x2 μ ν hF; cases hF
  | succ n ih =>
    intro u1 x2 μ ν hF
    dsimp only [f_Reader_isSpelt_20] at hF
    refine z_iload_n d_Reader_isSpelt_20 2 rfl rfl ?_
    refine z_aload_n d_Reader_isSpelt_21 1 rfl rfl ?_
    obtain ⟨hy1, hF⟩ := zh_if hF
    refine z_callVr d_Reader_isSpelt_22 (c_J_length (of_decide_eq_true hy1)) mv_J_length l_Reader_172 (fun _ _ h => h) (zrec_s (of_decide_eq_true hy1)) rfl ⟨Nat.le_of_ble_eq_true rfl, Nat.le_of_ble_eq_true rfl⟩ ⟨Nat.le_of_ble_eq_true rfl, Nat.le_of_ble_eq_true rfl⟩ rfl (Nat.le_of_ble_eq_true rfl) (fun r μ' ν' hq => ?_)
    rw [hq.1, hq.2.1, hq.2.2]
    show Z _ _ _ _ _ _ _ _ _ _ _ 0 0 _ _ _ [.int (nI (zSl u1)), .int x2] _ _
    refine z_icmp_ge d_Reader_isSpelt_25 (tgt := 54) (by decide) (fun cy2 => ?_) (fun cy2 => ?_)
    · replace hF := zh_t cy2 hF
      refine z_iconst d_Reader_isSpelt_54 (v := 1) (by decide) ?_
      cases hF
      exact z_ireturn d_Reader_isSpelt_55 rfl (by decide) ⟨rfl, rfl, rfl⟩
    · replace hF := zh_f cy2 hF
      refine z_aload_n d_Reader_isSpelt_28 1 rfl rfl ?_
      refine z_iload_n d_Reader_isSpelt_29 2 rfl rfl ?_
      obtain ⟨hy3, hF⟩ := zh_if hF
      obtain ⟨hy4, hF⟩ := zh_if hF
      refine z_callVr d_Reader_isSpelt_30 (c_J_charAt (of_decide_eq_true hy3) (zin_vp hy4)) mv_J_charAt l_Reader_176 (fun _ _ h => h) (zrec_s (of_decide_eq_true hy3)) rfl ⟨Nat.le_of_ble_eq_true rfl, Nat.le_of_ble_eq_true rfl⟩ ⟨Nat.le_of_ble_eq_true rfl, Nat.le_of_ble_eq_true rfl⟩ rfl (Nat.le_of_ble_eq_true rfl) (fun r μ' ν' hq => ?_)
      rw [hq.1, hq.2.1, hq.2.2]
      show Z _ _ _ _ _ _ _ _ _ _ _ 0 0 _ _ _ [.int (zSc u1 x2)] _ _
      refine z_aload_n d_Reader_isSpelt_33 0 rfl rfl ?_
      refine z_aload_n d_Reader_isSpelt_34 0 rfl rfl ?_
      refine z_get d_Reader_isSpelt_35 f_Reader_149 (hr 3 _ rfl) rfl ?_
      refine z_iload_n d_Reader_isSpelt_38 2 rfl rfl ?_
      refine z_iadd d_Reader_isSpelt_39 ?_
      obtain ⟨ty5, hty5, hF⟩ := zh_bind hF
      refine z_callV d_Reader_isSpelt_40 (c_Reader_signAt hr hty5) mv_Reader_signAt l_Reader_153 (fun _ _ h => h) (hr 3 _ rfl) rfl rfl ⟨Nat.le_of_ble_eq_true rfl, Nat.le_of_ble_eq_true rfl⟩ ⟨Nat.le_of_ble_eq_true rfl, Nat.le_of_ble_eq_true rfl⟩ rfl (Nat.le_of_ble_eq_true rfl) (fun r μ' ν' hq => ?_)
      obtain ⟨rfl, rfl, rfl⟩ := hq
      show Z _ _ _ _ _ _ _ _ _ _ _ 0 0 _ _ _ [.int ty5.1, .int (zSc u1 x2)] _ _
      refine z_icmp_eq d_Reader_isSpelt_43 (tgt := 48) (by decide) (fun cy6 => ?_) (fun cy6 => ?_)
      · replace hF := zh_t cy6 hF
        refine z_iinc d_Reader_isSpelt_48 (k := 2) (v := (x2 + 1)) rfl rfl (by decide) (L2 := [(2, .int (x2 + 1)), (0, .ref (ad 3)), (1, .ref (ad (1000200 + u1)))]) rfl ?_
        refine z_goto d_Reader_isSpelt_51 (tgt := 20) (by decide) ?_
        refine z_sub [1, 2, 0] (L' := [(0, .ref (ad 3)), (1, .ref (ad (1000200 + u1))), (2, .int (x2 + 1))]) rfl ?_
        exact ih _ _ _ _ hF
      · replace hF := zh_f cy6 hF
        refine z_iconst d_Reader_isSpelt_46 (v := 0) (by decide) ?_
        cases hF
        exact z_ireturn d_Reader_isSpelt_47 rfl (by decide) ⟨rfl, rfl, rfl⟩
def e_Reader_isSpelt_0   (u1 : Nat) (μ : zI) (ν : zJ) : Option (Int32 × zI × zJ) := (if decide (u1 < 14) = true then (if (nI (zSl u1)) = ((μ 3 6) - (μ 3 5)) then f_Reader_isSpelt_20 zFuel u1 0 μ ν else some (0, μ, ν)) else none)
theorem z_Reader_isSpelt_0 {l : Launch} {D : va_G} {dA : Nat → ClassId} {ad : Nat → Nat} {sh : List zSE}  (hr : zRo sh)  {u1 : Nat} {μ : zI} {ν : zJ} {out : (Int32 × zI × zJ)} (hF : e_Reader_isSpelt_0   u1 μ ν = some out) : Z l D dA ad sh m_Reader_isSpelt (zR 4 0 0) (zS ad) (zOi out) 0 0 0 0 [] 0 [(0, .ref (ad 3)), (1, .ref (ad (1000200 + u1)))] [] μ ν := by
  unfold e_Reader_isSpelt_0 at hF
  refine z_aload_n d_Reader_isSpelt_0 1 rfl rfl ?_
  obtain ⟨hy1, hF⟩ := zh_if hF
  refine z_callVr d_Reader_isSpelt_1 (c_J_length (of_decide_eq_true hy1)) mv_J_length l_Reader_172 (fun _ _ h => h) (zrec_s (of_decide_eq_true hy1)) rfl ⟨Nat.le_of_ble_eq_true rfl, Nat.le_of_ble_eq_true rfl⟩ ⟨Nat.le_of_ble_eq_true rfl, Nat.le_of_ble_eq_true rfl⟩ rfl (Nat.le_of_ble_eq_true rfl) (fun r μ' ν' hq => ?_)
  rw [hq.1, hq.2.1, hq.2.2]
  show Z _ _ _ _ _ _ _ _ _ _ _ 0 0 _ _ _ [.int (nI (zSl u1))] _ _
  refine z_aload_n d_Reader_isSpelt_4 0 rfl rfl ?_
  refine z_get d_Reader_isSpelt_5 f_Reader_25 (hr 3 _ rfl) rfl ?_
  refine z_aload_n d_Reader_isSpelt_8 0 rfl rfl ?_
  refine z_get d_Reader_isSpelt_9 f_Reader_149 (hr 3 _ rfl) rfl ?_
  refine z_isub d_Reader_isSpelt_12 ?_
  refine z_icmp_eq d_Reader_isSpelt_13 (tgt := 18) (by decide) (fun cy2 => ?_) (fun cy2 => ?_)
  · replace hF := zh_t cy2 hF
    refine z_iconst d_Reader_isSpelt_18 (v := 0) (by decide) ?_
    refine z_istore_n d_Reader_isSpelt_19 rfl (by decide) (L2 := [(2, .int 0), (0, .ref (ad 3)), (1, .ref (ad (1000200 + u1)))]) rfl ?_
    refine z_sub [1, 2, 0] (L' := [(0, .ref (ad 3)), (1, .ref (ad (1000200 + u1))), (2, .int 0)]) rfl ?_
    exact z_Reader_isSpelt_20 hr  zFuel _ _ _ _ hF
  · replace hF := zh_f cy2 hF
    refine z_iconst d_Reader_isSpelt_16 (v := 0) (by decide) ?_
    cases hF
    exact z_ireturn d_Reader_isSpelt_17 rfl (by decide) ⟨rfl, rfl, rfl⟩
def E_Reader_isSpelt  (u1 : Nat) (μ : zI) (ν : zJ) : Option (Int32 × zI × zJ) := e_Reader_isSpelt_0 u1 μ ν
theorem c_Reader_isSpelt {l : Launch} {D : va_G} {dA : Nat → ClassId} {ad : Nat → Nat} {sh : List zSE} {μ : zI} {ν : zJ} {u1 : Nat} (hr : zRo sh) {out : (Int32 × zI × zJ)} (hE : E_Reader_isSpelt u1 μ ν = some out) : zC l D dA ad sh m_Reader_isSpelt 4 0 0 [.ref (ad 3), .ref (ad (1000200 + u1))] μ ν (zOi out) :=
  zC.of (by decide) (Nat.le_of_ble_eq_true rfl) (z_Reader_isSpelt_0 hr hE)
def e_Reader_wordHere_39  (r2 : Int32 → zI → zJ → Option (Nat × zI × zJ)) (x1 : Int32) (μ : zI) (ν : zJ) : Option (Nat × zI × zJ) := r2 (x1 + 1) μ ν
theorem z_Reader_wordHere_39 {l : Launch} {D : va_G} {dA : Nat → ClassId} {ad : Nat → Nat} {sh : List zSE}  (hr : zRo sh) {r2 : Int32 → zI → zJ → Option (Nat × zI × zJ)} {x1 : Int32} {μ : zI} {ν : zJ} {out : (Nat × zI × zJ)} (hr2 : ∀ (x1 : Int32) (μ : zI) (ν : zJ), r2 x1 μ ν = some out → Z l D dA ad sh m_Reader_wordHere (zR 5 0 0) (zS ad) (zOe out ad) 0 0 0 0 [] 2 [(0, .ref (ad 3)), (1, .int x1)] [] μ ν) (hF : e_Reader_wordHere_39  r2 x1 μ ν = some out) : Z l D dA ad sh m_Reader_wordHere (zR 5 0 0) (zS ad) (zOe out ad) 0 0 0 0 [] 39 [(0, .ref (ad 3)), (1, .int x1)] [] μ ν := by
  unfold e_Reader_wordHere_39 at hF
  refine z_iinc d_Reader_wordHere_39 (k := 1) (v := (x1 + 1)) rfl rfl (by decide) (L2 := [(1, .int (x1 + 1)), (0, .ref (ad 3))]) rfl ?_
  refine z_goto d_Reader_wordHere_42 (tgt := 2) (by decide) ?_
  refine z_sub [1, 0] (L' := [(0, .ref (ad 3)), (1, .int (x1 + 1))]) rfl ?_
  exact hr2 _ _ _ hF
def f_Reader_wordHere_2   : Nat → Int32 → zI → zJ → Option (Nat × zI × zJ)
  | 0, _, _, _ => none
  | n + 1, x1, μ, ν => (if 11 ≤ x1 then some (10, μ, ν) else (if (μ 3 4) = 2 then (if zin x1 11 = true then (if decide ((Int32.toNatClampNeg x1) < 11) = true then Option.bind (E_Reader_isSpelt (Int32.toNatClampNeg x1) μ ν) fun ty5 => (if ty5.1 = 0 then e_Reader_wordHere_39 (f_Reader_wordHere_2  n) x1 ty5.2.1 ty5.2.2 else (if zin x1 11 = true then some ((Int32.toNatClampNeg x1), ty5.2.1, ty5.2.2) else none)) else none) else none) else e_Reader_wordHere_39 (f_Reader_wordHere_2  n) x1 μ ν))
theorem z_Reader_wordHere_2 {l : Launch} {D : va_G} {dA : Nat → ClassId} {ad : Nat → Nat} {sh : List zSE}  (hr : zRo sh)  {out : (Nat × zI × zJ)} : ∀ (n : Nat) (x1 : Int32) (μ : zI) (ν : zJ), f_Reader_wordHere_2   n x1 μ ν = some out → Z l D dA ad sh m_Reader_wordHere (zR 5 0 0) (zS ad) (zOe out ad) 0 0 0 0 [] 2 [(0, .ref (ad 3)), (1, .int x1)] [] μ ν := by
  intro n
  induction n with
  | zero => intro x1 μ ν hF; cases hF
  | succ n ih =>
    intro x1 μ ν hF
    dsimp only [f_Reader_wordHere_2] at hF
    refine z_iload_n d_Reader_wordHere_2 1 rfl rfl ?_
    refine z_getsW d_Reader_wordHere_3 (fun _ _ h => h) s_Reader_156 ?_
    refine z_walen d_Reader_wordHere_6 (fun _ _ h => h) ?_
    refine z_icmp_ge d_Reader_wordHere_7 (tgt := 45) (by decide) (fun cy1 => ?_) (fun cy1 => ?_)
    · replace hF := zh_t cy1 hF
      refine z_getsE (k := 10) d_Reader_wordHere_45 (fun _ _ h => h) (by decide) rfl s_Reader_168 ?_
      cases hF
      exact z_areturn d_Reader_wordHere_48 rfl (Or.inl ⟨_, rfl⟩) ⟨rfl, rfl, rfl⟩
    · replace hF := zh_f cy1 hF
      refine z_aload_n d_Reader_wordHere_10 0 rfl rfl ?_
      refine z_get d_Reader_wordHere_11 f_Reader_39 (hr 3 _ rfl) rfl ?_
      refine z_iconst d_Reader_wordHere_14 (v := 2) (by decide) ?_
      refine z_icmp_ne d_Reader_wordHere_15 (tgt := 39) (by decide) (fun cy2 => ?_) (fun cy2 => ?_)
      · replace hF := zh_f cy2 hF
        exact z_Reader_wordHere_39 hr (fun a0 a1 a2 => ih a0 a1 a2) hF
      · replace hF := zh_t cy2 hF
        refine z_aload_n d_Reader_wordHere_18 0 rfl rfl ?_
        refine z_getsW d_Reader_wordHere_19 (fun _ _ h => h) s_Reader_156 ?_
        refine z_iload_n d_Reader_wordHere_22 1 rfl rfl ?_
        obtain ⟨hy3, hF⟩ := zh_if hF
        refine z_waald d_Reader_wordHere_23 (fun _ _ h => h) (zin_vp hy3) ?_
        obtain ⟨hy4, hF⟩ := zh_if hF
        refine z_elet d_Reader_wordHere_24 (fun _ _ h => h) (of_decide_eq_true hy4) fe_letters ?_
        obtain ⟨ty5, hty5, hF⟩ := zh_bind hF
        refine z_callV d_Reader_wordHere_27 (c_Reader_isSpelt hr hty5) mv_Reader_isSpelt l_Reader_164 (fun _ _ h => h) (hr 3 _ rfl) rfl rfl ⟨Nat.le_of_ble_eq_true rfl, Nat.le_of_ble_eq_true rfl⟩ ⟨Nat.le_of_ble_eq_true rfl, Nat.le_of_ble_eq_true rfl⟩ rfl (Nat.le_of_ble_eq_true rfl) (fun r μ' ν' hq => ?_)
        obtain ⟨rfl, rfl, rfl⟩ := hq
        show Z _ _ _ _ _ _ _ _ _ _ _ 0 0 _ _ _ [.int ty5.1] _ _
        refine z_if_eq d_Reader_wordHere_30 (tgt := 39) (by decide) (fun cy6 => ?_) (fun cy6 => ?_)
        · replace hF := zh_t cy6 hF
          exact z_Reader_wordHere_39 hr (fun a0 a1 a2 => ih a0 a1 a2) hF
        · replace hF := zh_f cy6 hF
          refine z_getsW d_Reader_wordHere_33 (fun _ _ h => h) s_Reader_156 ?_
          refine z_iload_n d_Reader_wordHere_36 1 rfl rfl ?_
          obtain ⟨hy7, hF⟩ := zh_if hF
          refine z_waald d_Reader_wordHere_37 (fun _ _ h => h) (zin_vp hy7) ?_
          cases hF
          exact z_areturn d_Reader_wordHere_38 rfl (Or.inl ⟨_, rfl⟩) ⟨rfl, rfl, rfl⟩
def e_Reader_wordHere_0    (μ : zI) (ν : zJ) : Option (Nat × zI × zJ) := f_Reader_wordHere_2 zFuel 0 μ ν
theorem z_Reader_wordHere_0 {l : Launch} {D : va_G} {dA : Nat → ClassId} {ad : Nat → Nat} {sh : List zSE}  (hr : zRo sh)   {μ : zI} {ν : zJ} {out : (Nat × zI × zJ)} (hF : e_Reader_wordHere_0    μ ν = some out) : Z l D dA ad sh m_Reader_wordHere (zR 5 0 0) (zS ad) (zOe out ad) 0 0 0 0 [] 0 [(0, .ref (ad 3))] [] μ ν := by
  unfold e_Reader_wordHere_0 at hF
  refine z_iconst d_Reader_wordHere_0 (v := 0) (by decide) ?_
  refine z_istore_n d_Reader_wordHere_1 rfl (by decide) (L2 := [(1, .int 0), (0, .ref (ad 3))]) rfl ?_
  refine z_sub [1, 0] (L' := [(0, .ref (ad 3)), (1, .int 0)]) rfl ?_
  exact z_Reader_wordHere_2 hr  zFuel _ _ _ hF
def E_Reader_wordHere   (μ : zI) (ν : zJ) : Option (Nat × zI × zJ) := e_Reader_wordHere_0 μ ν
theorem c_Reader_wordHere {l : Launch} {D : va_G} {dA : Nat → ClassId} {ad : Nat → Nat} {sh : List zSE} {μ : zI} {ν : zJ} (hr : zRo sh) {out : (Nat × zI × zJ)} (hE : E_Reader_wordHere  μ ν = some out) : zC l D dA ad sh m_Reader_wordHere 5 0 0 [.ref (ad 3)] μ ν (zOe out ad) :=
  zC.of (by decide) (Nat.le_of_ble_eq_true rfl) (z_Reader_wordHere_0 hr hE)
def e_Reader_readSettings_130  (r66 : Nat → Int32 → Int32 → zI → zJ → Option (zI × zJ)) (n2 : Nat) (x3 : Int32) (x4 : Int32) (s0 : Int32) (μ : zI) (ν : zJ) : Option (zI × zJ) := Option.bind (E_Told_leastOf x4 μ ν) fun ty1 => Option.bind (E_Reader_readNumber ty1.1 s0 ty1.2.1 ty1.2.2) fun ty2 => Option.bind (E_Told_put 19 x4 ty2.1 ty2.2.1 ty2.2.2) fun ty3 => r66 n2 x3 (x4 + 1) ty3.1 ty3.2
theorem z_Reader_readSettings_130 {l : Launch} {D : va_G} {dA : Nat → ClassId} {ad : Nat → Nat} {sh : List zSE}  (hr : zRo sh) {r66 : Nat → Int32 → Int32 → zI → zJ → Option (zI × zJ)} {n2 : Nat} {x3 : Int32} {x4 : Int32} {s0 : Int32} {μ : zI} {ν : zJ} {out : (zI × zJ)} (hr66 : ∀ (n2 : Nat) (x3 : Int32) (x4 : Int32) (μ : zI) (ν : zJ), r66 n2 x3 x4 μ ν = some out → Z l D dA ad sh m_Reader_readSettings (zR 3 0 0) (zS ad) (zOv out) 0 0 0 0 [] 66 [(0, .ref (ad 3)), (1, .ref (ad 19)), (2, .ref (ad (1000100 + n2))), (3, .int x3), (4, .int x4)] [] μ ν) (hF : e_Reader_readSettings_130  r66 n2 x3 x4 s0 μ ν = some out) : Z l D dA ad sh m_Reader_readSettings (zR 3 0 0) (zS ad) (zOv out) 0 0 0 0 [] 130 [(0, .ref (ad 3)), (1, .ref (ad 19)), (2, .ref (ad (1000100 + n2))), (3, .int x3), (4, .int x4)] [.int s0] μ ν := by
  unfold e_Reader_readSettings_130 at hF
  refine z_istore d_Reader_readSettings_130 (by decide) (L2 := [(5, .int s0), (0, .ref (ad 3)), (1, .ref (ad 19)), (2, .ref (ad (1000100 + n2))), (3, .int x3), (4, .int x4)]) rfl ?_
  refine z_aload_n d_Reader_readSettings_132 2 rfl rfl ?_
  refine z_getr d_Reader_readSettings_133 (q := (19 + 1)) f_Reader_115 ((zRo_19 hr) 0 _ rfl) rfl ?_
  refine z_iload d_Reader_readSettings_136 5 rfl ?_
  refine z_aload_n d_Reader_readSettings_138 1 rfl rfl ?_
  refine z_iload d_Reader_readSettings_139 5 rfl ?_
  obtain ⟨ty1, hty1, hF⟩ := zh_bind hF
  refine z_callS d_Reader_readSettings_141 (c_Told_leastOf  hty1) ms_Told_leastOf l_Reader_131 (fun _ _ h => h) rfl ⟨Nat.le_of_ble_eq_true rfl, Nat.le_of_ble_eq_true rfl⟩ ⟨Nat.le_of_ble_eq_true rfl, Nat.le_of_ble_eq_true rfl⟩ rfl (Nat.le_of_ble_eq_true rfl) (fun r μ' ν' hq => ?_)
  obtain ⟨rfl, rfl, rfl⟩ := hq
  show Z _ _ _ _ _ _ _ _ _ _ _ 0 0 _ _ _ [.int ty1.1, .ref (ad 3), .int x4, .ref (ad (19 + 1))] _ _
  refine z_iload d_Reader_readSettings_144 0 rfl ?_
  obtain ⟨ty2, hty2, hF⟩ := zh_bind hF
  refine z_callV d_Reader_readSettings_146 (c_Reader_readNumber hr hty2) mv_Reader_readNumber l_Reader_95 (fun _ _ h => h) (hr 3 _ rfl) rfl rfl ⟨Nat.le_of_ble_eq_true rfl, Nat.le_of_ble_eq_true rfl⟩ ⟨Nat.le_of_ble_eq_true rfl, Nat.le_of_ble_eq_true rfl⟩ rfl (Nat.le_of_ble_eq_true rfl) (fun r μ' ν' hq => ?_)
  obtain ⟨rfl, rfl, rfl⟩ := hq
  show Z _ _ _ _ _ _ _ _ _ _ _ 0 0 _ _ _ [.int ty2.1, .int x4, .ref (ad (19 + 1))] _ _
  obtain ⟨ty3, hty3, hF⟩ := zh_bind hF
  refine z_callV d_Reader_readSettings_149 (c_Told_put (zRo_19 hr) hty3) mv_Told_put l_Reader_134 (fun _ _ h => h) ((zRo_19 hr) 1 _ rfl) rfl rfl ⟨Nat.le_of_ble_eq_true rfl, Nat.le_of_ble_eq_true rfl⟩ ⟨Nat.le_of_ble_eq_true rfl, Nat.le_of_ble_eq_true rfl⟩ rfl (Nat.le_of_ble_eq_true rfl) (fun r μ' ν' hq => ?_)
  obtain ⟨rfl, rfl, rfl⟩ := hq
  show Z _ _ _ _ _ _ _ _ _ _ _ 0 0 _ _ _ [] _ _
  refine z_iinc d_Reader_readSettings_152 (k := 5) (v := (x4 + 1)) rfl rfl (by decide) (L2 := [(4, .int (x4 + 1)), (5, .int s0), (0, .ref (ad 3)), (1, .ref (ad 19)), (2, .ref (ad (1000100 + n2))), (3, .int x3)]) rfl ?_
  refine z_goto d_Reader_readSettings_155 (tgt := 66) (by decide) ?_
  refine z_sub [2, 3, 4, 5, 0] (L' := [(0, .ref (ad 3)), (1, .ref (ad 19)), (2, .ref (ad (1000100 + n2))), (3, .int x3), (4, .int (x4 + 1))]) rfl ?_
  exact hr66 _ _ _ _ _ hF
def e_Reader_readSettings_108  (r66 : Nat → Int32 → Int32 → zI → zJ → Option (zI × zJ)) (n2 : Nat) (x3 : Int32) (x4 : Int32) (μ : zI) (ν : zJ) : Option (zI × zJ) := (if x4 = 3 then Option.bind (E_Told_get 19 2 μ ν) fun ty3 => e_Reader_readSettings_130 r66 n2 x3 x4 ty3.1 ty3.2.1 ty3.2.2 else Option.bind (E_Told_mostOf x4 μ ν) fun ty2 => e_Reader_readSettings_130 r66 n2 x3 x4 ty2.1 ty2.2.1 ty2.2.2)
theorem z_Reader_readSettings_108 {l : Launch} {D : va_G} {dA : Nat → ClassId} {ad : Nat → Nat} {sh : List zSE}  (hr : zRo sh) {r66 : Nat → Int32 → Int32 → zI → zJ → Option (zI × zJ)} {n2 : Nat} {x3 : Int32} {x4 : Int32} {μ : zI} {ν : zJ} {out : (zI × zJ)} (hr66 : ∀ (n2 : Nat) (x3 : Int32) (x4 : Int32) (μ : zI) (ν : zJ), r66 n2 x3 x4 μ ν = some out → Z l D dA ad sh m_Reader_readSettings (zR 3 0 0) (zS ad) (zOv out) 0 0 0 0 [] 66 [(0, .ref (ad 3)), (1, .ref (ad 19)), (2, .ref (ad (1000100 + n2))), (3, .int x3), (4, .int x4)] [] μ ν) (hF : e_Reader_readSettings_108  r66 n2 x3 x4 μ ν = some out) : Z l D dA ad sh m_Reader_readSettings (zR 3 0 0) (zS ad) (zOv out) 0 0 0 0 [] 108 [(0, .ref (ad 3)), (1, .ref (ad 19)), (2, .ref (ad (1000100 + n2))), (3, .int x3), (4, .int x4)] [] μ ν := by
  unfold e_Reader_readSettings_108 at hF
  refine z_iload d_Reader_readSettings_108 4 rfl ?_
  refine z_iconst d_Reader_readSettings_110 (v := 3) (by decide) ?_
  refine z_icmp_ne d_Reader_readSettings_111 (tgt := 125) (by decide) (fun cy1 => ?_) (fun cy1 => ?_)
  · replace hF := zh_f cy1 hF
    refine z_iload d_Reader_readSettings_125 4 rfl ?_
    obtain ⟨ty2, hty2, hF⟩ := zh_bind hF
    refine z_callS d_Reader_readSettings_127 (c_Told_mostOf  hty2) ms_Told_mostOf l_Reader_128 (fun _ _ h => h) rfl ⟨Nat.le_of_ble_eq_true rfl, Nat.le_of_ble_eq_true rfl⟩ ⟨Nat.le_of_ble_eq_true rfl, Nat.le_of_ble_eq_true rfl⟩ rfl (Nat.le_of_ble_eq_true rfl) (fun r μ' ν' hq => ?_)
    obtain ⟨rfl, rfl, rfl⟩ := hq
    show Z _ _ _ _ _ _ _ _ _ _ _ 0 0 _ _ _ [.int ty2.1] _ _
    exact z_Reader_readSettings_130 hr hr66 hF
  · replace hF := zh_t cy1 hF
    refine z_aload_n d_Reader_readSettings_114 1 rfl rfl ?_
    refine z_getr d_Reader_readSettings_115 (q := (19 + 1)) f_Reader_115 ((zRo_19 hr) 0 _ rfl) rfl ?_
    refine z_iconst d_Reader_readSettings_118 (v := 2) (by decide) ?_
    obtain ⟨ty3, hty3, hF⟩ := zh_bind hF
    refine z_callV d_Reader_readSettings_119 (c_Told_get (zRo_19 hr) hty3) mv_Told_get l_Reader_119 (fun _ _ h => h) ((zRo_19 hr) 1 _ rfl) rfl rfl ⟨Nat.le_of_ble_eq_true rfl, Nat.le_of_ble_eq_true rfl⟩ ⟨Nat.le_of_ble_eq_true rfl, Nat.le_of_ble_eq_true rfl⟩ rfl (Nat.le_of_ble_eq_true rfl) (fun r μ' ν' hq => ?_)
    obtain ⟨rfl, rfl, rfl⟩ := hq
    show Z _ _ _ _ _ _ _ _ _ _ _ 0 0 _ _ _ [.int ty3.1] _ _
    refine z_goto d_Reader_readSettings_122 (tgt := 130) (by decide) ?_
    exact z_Reader_readSettings_130 hr hr66 hF
def e_Reader_readSettings_158   (n2 : Nat) (x3 : Int32) (x4 : Int32) (μ : zI) (ν : zJ) : Option (zI × zJ) := some (μ, ν)
theorem z_Reader_readSettings_158 {l : Launch} {D : va_G} {dA : Nat → ClassId} {ad : Nat → Nat} {sh : List zSE}  (hr : zRo sh)  {n2 : Nat} {x3 : Int32} {x4 : Int32} {μ : zI} {ν : zJ} {out : (zI × zJ)} (hF : e_Reader_readSettings_158   n2 x3 x4 μ ν = some out) : Z l D dA ad sh m_Reader_readSettings (zR 3 0 0) (zS ad) (zOv out) 0 0 0 0 [] 158 [(0, .ref (ad 3)), (1, .ref (ad 19)), (2, .ref (ad (1000100 + n2))), (3, .int x3), (4, .int x4)] [] μ ν := by
  unfold e_Reader_readSettings_158 at hF
  cases hF
  exact z_return d_Reader_readSettings_158 rfl ⟨rfl, rfl, rfl⟩
def f_Reader_readSettings_66   : Nat → Nat → Int32 → Int32 → zI → zJ → Option (zI × zJ)
  | 0, _, _, _, _, _ => none
  | n + 1, n2, x3, x4, μ, ν => (if decide (n2 < 11) = true then (if (((zWf.getD 2 ("", "", "", [])).2.2.2).getD n2 0) < x4 then e_Reader_readSettings_158 n2 x3 x4 μ ν else (if (μ 3 0) = 0 then (if x4 = 1 then Option.bind (E_Told_get 19 0 μ ν) fun ty5 => Option.bind (E_Reader_readNumber 0 ty5.1 ty5.2.1 ty5.2.2) fun ty6 => zlet (zu ty6.2.1 (19 + 12) 0 ty6.1) fun μy7 => e_Reader_readSettings_108 (f_Reader_readSettings_66  n) n2 x3 x4 μy7 ty6.2.2 else e_Reader_readSettings_108 (f_Reader_readSettings_66  n) n2 x3 x4 μ ν) else e_Reader_readSettings_158 n2 x3 x4 μ ν)) else none)
theorem z_Reader_readSettings_66 {l : Launch} {D : va_G} {dA : Nat → ClassId} {ad : Nat → Nat} {sh : List zSE}  (hr : zRo sh)  {out : (zI × zJ)} : ∀ (n : Nat) (n2 : Nat) (x3 : Int32) (x4 : Int32) (μ : zI) (ν : zJ), f_Reader_readSettings_66   n n2 x3 x4 μ ν = some out → Z l D dA ad sh m_Reader_readSettings (zR 3 0 0) (zS ad) (zOv out) 0 0 0 0 [] 66 [(0, .ref (ad 3)), (1, .ref (ad 19)), (2, .ref (ad (1000100 + n2))), (3, .int x3), (4, .int x4)] [] μ ν := by
  intro n
  induction n with
  | zero => intro n2 x3 x4 μ ν hF; cases hF
  | succ n ih =>
    intro n2 x3 x4 μ ν hF
    dsimp only [f_Reader_readSettings_66] at hF
    refine z_iload d_Reader_readSettings_66 4 rfl ?_
    refine z_aload_n d_Reader_readSettings_68 2 rfl rfl ?_
    obtain ⟨hy1, hF⟩ := zh_if hF
    refine z_eint (q := zWf.getD 2 ("", "", "", [])) d_Reader_readSettings_69 (fun _ _ h => h) (of_decide_eq_true hy1) (by decide) fe_last ?_
    refine z_icmp_gt d_Reader_readSettings_72 (tgt := 158) (by decide) (fun cy2 => ?_) (fun cy2 => ?_)
    · replace hF := zh_t cy2 hF
      exact z_Reader_readSettings_158 hr  hF
    · replace hF := zh_f cy2 hF
      refine z_aload_n d_Reader_readSettings_75 0 rfl rfl ?_
      refine z_get d_Reader_readSettings_76 f_Reader_19 (hr 3 _ rfl) rfl ?_
      refine z_if_ne d_Reader_readSettings_79 (tgt := 158) (by decide) (fun cy3 => ?_) (fun cy3 => ?_)
      · replace hF := zh_f cy3 hF
        exact z_Reader_readSettings_158 hr  hF
      · replace hF := zh_t cy3 hF
        refine z_iload d_Reader_readSettings_82 4 rfl ?_
        refine z_iconst d_Reader_readSettings_84 (v := 1) (by decide) ?_
        refine z_icmp_ne d_Reader_readSettings_85 (tgt := 108) (by decide) (fun cy4 => ?_) (fun cy4 => ?_)
        · replace hF := zh_f cy4 hF
          exact z_Reader_readSettings_108 hr (fun a0 a1 a2 a3 a4 => ih a0 a1 a2 a3 a4) hF
        · replace hF := zh_t cy4 hF
          refine z_aload_n d_Reader_readSettings_88 1 rfl rfl ?_
          refine z_getr d_Reader_readSettings_89 (q := (19 + 12)) f_Reader_111 ((zRo_19 hr) 0 _ rfl) rfl ?_
          refine z_aload_n d_Reader_readSettings_92 0 rfl rfl ?_
          refine z_iconst d_Reader_readSettings_93 (v := 0) (by decide) ?_
          refine z_aload_n d_Reader_readSettings_94 1 rfl rfl ?_
          refine z_getr d_Reader_readSettings_95 (q := (19 + 1)) f_Reader_115 ((zRo_19 hr) 0 _ rfl) rfl ?_
          refine z_iconst d_Reader_readSettings_98 (v := 0) (by decide) ?_
          obtain ⟨ty5, hty5, hF⟩ := zh_bind hF
          refine z_callV d_Reader_readSettings_99 (c_Told_get (zRo_19 hr) hty5) mv_Told_get l_Reader_119 (fun _ _ h => h) ((zRo_19 hr) 1 _ rfl) rfl rfl ⟨Nat.le_of_ble_eq_true rfl, Nat.le_of_ble_eq_true rfl⟩ ⟨Nat.le_of_ble_eq_true rfl, Nat.le_of_ble_eq_true rfl⟩ rfl (Nat.le_of_ble_eq_true rfl) (fun r μ' ν' hq => ?_)
          obtain ⟨rfl, rfl, rfl⟩ := hq
          show Z _ _ _ _ _ _ _ _ _ _ _ 0 0 _ _ _ [.int ty5.1, .int 0, .ref (ad 3), .ref (ad (19 + 12))] _ _
          obtain ⟨ty6, hty6, hF⟩ := zh_bind hF
          refine z_callV d_Reader_readSettings_102 (c_Reader_readNumber hr hty6) mv_Reader_readNumber l_Reader_95 (fun _ _ h => h) (hr 3 _ rfl) rfl rfl ⟨Nat.le_of_ble_eq_true rfl, Nat.le_of_ble_eq_true rfl⟩ ⟨Nat.le_of_ble_eq_true rfl, Nat.le_of_ble_eq_true rfl⟩ rfl (Nat.le_of_ble_eq_true rfl) (fun r μ' ν' hq => ?_)
          obtain ⟨rfl, rfl, rfl⟩ := hq
          show Z _ _ _ _ _ _ _ _ _ _ _ 0 0 _ _ _ [.int ty6.1, .ref (ad (19 + 12))] _ _
          refine z_put d_Reader_readSettings_105 f_Reader_123 ((zRo_19 hr) 12 _ rfl) rfl (CL_fin _ _ (fun q hq => by cases hq; rfl)) rfl rfl ?_
          obtain ⟨μy7, hy7, hF⟩ := zh_let hF
          refine z_eqm hy7 ?_
          exact z_Reader_readSettings_108 hr (fun a0 a1 a2 a3 a4 => ih a0 a1 a2 a3 a4) hF
def e_Reader_readSettings_46   (n2 : Nat) (x3 : Int32) (μ : zI) (ν : zJ) : Option (zI × zJ) := zlet (zu μ 3 7 ((μ 3 7) ||| x3)) fun μy1 => Option.bind (E_Reader_nextToken μy1 ν) fun ty2 => (if decide (n2 < 11) = true then zlet (α := Int32) (((zWf.getD 1 ("", "", "", [])).2.2.2).getD n2 0) fun y4 => f_Reader_readSettings_66 zFuel n2 x3 y4 ty2.1 ty2.2 else none)
theorem z_Reader_readSettings_46 {l : Launch} {D : va_G} {dA : Nat → ClassId} {ad : Nat → Nat} {sh : List zSE}  (hr : zRo sh)  {n2 : Nat} {x3 : Int32} {μ : zI} {ν : zJ} {out : (zI × zJ)} (hF : e_Reader_readSettings_46   n2 x3 μ ν = some out) : Z l D dA ad sh m_Reader_readSettings (zR 3 0 0) (zS ad) (zOv out) 0 0 0 0 [] 46 [(0, .ref (ad 3)), (1, .ref (ad 19)), (2, .ref (ad (1000100 + n2))), (3, .int x3)] [] μ ν := by
  unfold e_Reader_readSettings_46 at hF
  refine z_aload_n d_Reader_readSettings_46 0 rfl rfl ?_
  refine z_dup d_Reader_readSettings_47 rfl ?_
  refine z_get d_Reader_readSettings_48 f_Reader_28 (hr 3 _ rfl) rfl ?_
  refine z_iload_n d_Reader_readSettings_51 3 rfl rfl ?_
  refine z_ior d_Reader_readSettings_52 ?_
  refine z_put d_Reader_readSettings_53 f_Reader_28 (hr 3 _ rfl) rfl (CL_fin _ _ (fun q hq => by cases hq; rfl)) rfl rfl ?_
  obtain ⟨μy1, hy1, hF⟩ := zh_let hF
  refine z_eqm hy1 ?_
  refine z_aload_n d_Reader_readSettings_56 0 rfl rfl ?_
  obtain ⟨ty2, hty2, hF⟩ := zh_bind hF
  refine z_callV d_Reader_readSettings_57 (c_Reader_nextToken hr hty2) mv_Reader_nextToken l_Reader_36 (fun _ _ h => h) (hr 3 _ rfl) rfl rfl ⟨Nat.le_of_ble_eq_true rfl, Nat.le_of_ble_eq_true rfl⟩ ⟨Nat.le_of_ble_eq_true rfl, Nat.le_of_ble_eq_true rfl⟩ rfl (Nat.le_of_ble_eq_true rfl) (fun r μ' ν' hq => ?_)
  obtain ⟨rfl, rfl, rfl⟩ := hq
  show Z _ _ _ _ _ _ _ _ _ _ _ 0 0 _ _ _ [] _ _
  refine z_aload_n d_Reader_readSettings_60 2 rfl rfl ?_
  obtain ⟨hy3, hF⟩ := zh_if hF
  refine z_eint (q := zWf.getD 1 ("", "", "", [])) d_Reader_readSettings_61 (fun _ _ h => h) (of_decide_eq_true hy3) (by decide) fe_first ?_
  obtain ⟨y4, hy4, hF⟩ := zh_let hF
  refine z_eqi hy4 ?_
  refine z_istore d_Reader_readSettings_64 (by decide) (L2 := [(4, .int y4), (0, .ref (ad 3)), (1, .ref (ad 19)), (2, .ref (ad (1000100 + n2))), (3, .int x3)]) rfl ?_
  refine z_sub [1, 2, 3, 4, 0] (L' := [(0, .ref (ad 3)), (1, .ref (ad 19)), (2, .ref (ad (1000100 + n2))), (3, .int x3), (4, .int y4)]) rfl ?_
  exact z_Reader_readSettings_66 hr  zFuel _ _ _ _ _ hF
def e_Reader_readSettings_32   (n2 : Nat) (x3 : Int32) (μ : zI) (ν : zJ) : Option (zI × zJ) := (if ((μ 3 7) &&& x3) = 0 then e_Reader_readSettings_46 n2 x3 μ ν else Option.bind (E_Reader_refuse 3 μ ν) fun ty2 => e_Reader_readSettings_46 n2 x3 ty2.1 ty2.2)
theorem z_Reader_readSettings_32 {l : Launch} {D : va_G} {dA : Nat → ClassId} {ad : Nat → Nat} {sh : List zSE}  (hr : zRo sh)  {n2 : Nat} {x3 : Int32} {μ : zI} {ν : zJ} {out : (zI × zJ)} (hF : e_Reader_readSettings_32   n2 x3 μ ν = some out) : Z l D dA ad sh m_Reader_readSettings (zR 3 0 0) (zS ad) (zOv out) 0 0 0 0 [] 32 [(0, .ref (ad 3)), (1, .ref (ad 19)), (2, .ref (ad (1000100 + n2))), (3, .int x3)] [] μ ν := by
  unfold e_Reader_readSettings_32 at hF
  refine z_aload_n d_Reader_readSettings_32 0 rfl rfl ?_
  refine z_get d_Reader_readSettings_33 f_Reader_28 (hr 3 _ rfl) rfl ?_
  refine z_iload_n d_Reader_readSettings_36 3 rfl rfl ?_
  refine z_iand d_Reader_readSettings_37 ?_
  refine z_if_eq d_Reader_readSettings_38 (tgt := 46) (by decide) (fun cy1 => ?_) (fun cy1 => ?_)
  · replace hF := zh_t cy1 hF
    exact z_Reader_readSettings_46 hr  hF
  · replace hF := zh_f cy1 hF
    refine z_aload_n d_Reader_readSettings_41 0 rfl rfl ?_
    refine z_iconst d_Reader_readSettings_42 (v := 3) (by decide) ?_
    obtain ⟨ty2, hty2, hF⟩ := zh_bind hF
    refine z_callV d_Reader_readSettings_43 (c_Reader_refuse hr hty2) mv_Reader_refuse l_Reader_75 (fun _ _ h => h) (hr 3 _ rfl) rfl rfl ⟨Nat.le_of_ble_eq_true rfl, Nat.le_of_ble_eq_true rfl⟩ ⟨Nat.le_of_ble_eq_true rfl, Nat.le_of_ble_eq_true rfl⟩ rfl (Nat.le_of_ble_eq_true rfl) (fun r μ' ν' hq => ?_)
    obtain ⟨rfl, rfl, rfl⟩ := hq
    show Z _ _ _ _ _ _ _ _ _ _ _ 0 0 _ _ _ [] _ _
    exact z_Reader_readSettings_46 hr  hF
def e_Reader_readSettings_27   (n2 : Nat) (x3 : Int32) (μ : zI) (ν : zJ) : Option (zI × zJ) := Option.bind (E_Reader_refuse 1 μ ν) fun ty1 => e_Reader_readSettings_32 n2 x3 ty1.1 ty1.2
theorem z_Reader_readSettings_27 {l : Launch} {D : va_G} {dA : Nat → ClassId} {ad : Nat → Nat} {sh : List zSE}  (hr : zRo sh)  {n2 : Nat} {x3 : Int32} {μ : zI} {ν : zJ} {out : (zI × zJ)} (hF : e_Reader_readSettings_27   n2 x3 μ ν = some out) : Z l D dA ad sh m_Reader_readSettings (zR 3 0 0) (zS ad) (zOv out) 0 0 0 0 [] 27 [(0, .ref (ad 3)), (1, .ref (ad 19)), (2, .ref (ad (1000100 + n2))), (3, .int x3)] [] μ ν := by
  unfold e_Reader_readSettings_27 at hF
  refine z_aload_n d_Reader_readSettings_27 0 rfl rfl ?_
  refine z_iconst d_Reader_readSettings_28 (v := 1) (by decide) ?_
  obtain ⟨ty1, hty1, hF⟩ := zh_bind hF
  refine z_callV d_Reader_readSettings_29 (c_Reader_refuse hr hty1) mv_Reader_refuse l_Reader_75 (fun _ _ h => h) (hr 3 _ rfl) rfl rfl ⟨Nat.le_of_ble_eq_true rfl, Nat.le_of_ble_eq_true rfl⟩ ⟨Nat.le_of_ble_eq_true rfl, Nat.le_of_ble_eq_true rfl⟩ rfl (Nat.le_of_ble_eq_true rfl) (fun r μ' ν' hq => ?_)
  obtain ⟨rfl, rfl, rfl⟩ := hq
  show Z _ _ _ _ _ _ _ _ _ _ _ 0 0 _ _ _ [] _ _
  exact z_Reader_readSettings_32 hr  hF
def e_Reader_readSettings_0   (n2 : Nat) (μ : zI) (ν : zJ) : Option (zI × zJ) := (if decide (n2 < 11) = true then zlet (α := Int32) (1 <<< ((((zWf.getD 1 ("", "", "", [])).2.2.2).getD n2 0) &&& 31)) fun y2 => (if (μ (19 + 3) 0) = 0 then e_Reader_readSettings_27 n2 y2 μ ν else (if (μ (19 + 9) 0) ≤ 0 then e_Reader_readSettings_32 n2 y2 μ ν else e_Reader_readSettings_27 n2 y2 μ ν)) else none)
theorem z_Reader_readSettings_0 {l : Launch} {D : va_G} {dA : Nat → ClassId} {ad : Nat → Nat} {sh : List zSE}  (hr : zRo sh)  {n2 : Nat} {μ : zI} {ν : zJ} {out : (zI × zJ)} (hF : e_Reader_readSettings_0   n2 μ ν = some out) : Z l D dA ad sh m_Reader_readSettings (zR 3 0 0) (zS ad) (zOv out) 0 0 0 0 [] 0 [(0, .ref (ad 3)), (1, .ref (ad 19)), (2, .ref (ad (1000100 + n2)))] [] μ ν := by
  unfold e_Reader_readSettings_0 at hF
  refine z_iconst d_Reader_readSettings_0 (v := 1) (by decide) ?_
  refine z_aload_n d_Reader_readSettings_1 2 rfl rfl ?_
  obtain ⟨hy1, hF⟩ := zh_if hF
  refine z_eint (q := zWf.getD 1 ("", "", "", [])) d_Reader_readSettings_2 (fun _ _ h => h) (of_decide_eq_true hy1) (by decide) fe_first ?_
  refine z_ishl d_Reader_readSettings_5 ?_
  obtain ⟨y2, hy2, hF⟩ := zh_let hF
  refine z_eqi hy2 ?_
  refine z_istore_n d_Reader_readSettings_6 rfl (by decide) (L2 := [(3, .int y2), (0, .ref (ad 3)), (1, .ref (ad 19)), (2, .ref (ad (1000100 + n2)))]) rfl ?_
  refine z_aload_n d_Reader_readSettings_7 2 rfl rfl ?_
  refine z_getr d_Reader_readSettings_8 (q := (19 + 3)) f_Reader_88 ((zRo_19 hr) 0 _ rfl) rfl ?_
  refine z_get d_Reader_readSettings_11 f_Reader_92 ((zRo_19 hr) 3 _ rfl) rfl ?_
  refine z_if_eq d_Reader_readSettings_14 (tgt := 27) (by decide) (fun cy3 => ?_) (fun cy3 => ?_)
  · replace hF := zh_t cy3 hF
    refine z_sub [1, 2, 3, 0] (L' := [(0, .ref (ad 3)), (1, .ref (ad 19)), (2, .ref (ad (1000100 + n2))), (3, .int y2)]) rfl ?_
    exact z_Reader_readSettings_27 hr  hF
  · replace hF := zh_f cy3 hF
    refine z_aload_n d_Reader_readSettings_17 2 rfl rfl ?_
    refine z_getr d_Reader_readSettings_18 (q := (19 + 9)) f_Reader_79 ((zRo_19 hr) 0 _ rfl) rfl ?_
    refine z_get d_Reader_readSettings_21 f_Reader_83 ((zRo_19 hr) 9 _ rfl) rfl ?_
    refine z_if_le d_Reader_readSettings_24 (tgt := 32) (by decide) (fun cy4 => ?_) (fun cy4 => ?_)
    · replace hF := zh_t cy4 hF
      refine z_sub [1, 2, 3, 0] (L' := [(0, .ref (ad 3)), (1, .ref (ad 19)), (2, .ref (ad (1000100 + n2))), (3, .int y2)]) rfl ?_
      exact z_Reader_readSettings_32 hr  hF
    · replace hF := zh_f cy4 hF
      refine z_sub [1, 2, 3, 0] (L' := [(0, .ref (ad 3)), (1, .ref (ad 19)), (2, .ref (ad (1000100 + n2))), (3, .int y2)]) rfl ?_
      exact z_Reader_readSettings_27 hr  hF
def E_Reader_readSettings  (n2 : Nat) (μ : zI) (ν : zJ) : Option (zI × zJ) := e_Reader_readSettings_0 n2 μ ν
theorem c_Reader_readSettings {l : Launch} {D : va_G} {dA : Nat → ClassId} {ad : Nat → Nat} {sh : List zSE} {μ : zI} {ν : zJ} {n2 : Nat} (hr : zRo sh) {out : (zI × zJ)} (hE : E_Reader_readSettings n2 μ ν = some out) : zC l D dA ad sh m_Reader_readSettings 3 0 0 [.ref (ad 3), .ref (ad 19), .ref (ad (1000100 + n2))] μ ν (zOv out) :=
  zC.of (by decide) (Nat.le_of_ble_eq_true rfl) (z_Reader_readSettings_0 hr hE)
def e_Reader_readAt_176   (x2 : Int32) (μ : zI) (ν : zJ) : Option (zI × zJ) := some (μ, ν)
theorem z_Reader_readAt_176 {l : Launch} {D : va_G} {dA : Nat → ClassId} {ad : Nat → Nat} {sh : List zSE}  (hr : zRo sh)  {x2 : Int32} {μ : zI} {ν : zJ} {out : (zI × zJ)} (hF : e_Reader_readAt_176   x2 μ ν = some out) : Z l D dA ad sh m_Reader_readAt (zR 6 0 0) (zS ad) (zOv out) 0 0 0 0 [] 176 [(0, .ref (ad 3)), (1, .ref (ad 19)), (2, .int x2)] [] μ ν := by
  unfold e_Reader_readAt_176 at hF
  cases hF
  exact z_return d_Reader_readAt_176 rfl ⟨rfl, rfl, rfl⟩
def e_Reader_readAt_32    (μ : zI) (ν : zJ) : Option (zI × zJ) := Option.bind (E_Reader_nextToken μ ν) fun ty1 => Option.bind (E_Reader_readNumber 1 9999 ty1.1 ty1.2) fun ty2 => zlet (α := Int32) ty2.1 fun y3 => Option.bind (E_Reader_wordHere ty2.2.1 ty2.2.2) fun ty4 => (if decide (ty4.1 < 11) = true then (if zin (nI ty4.1) 11 = true then (if (((zTabs.getD 3 ("", "", [])).2.2).getD (Int32.toNatClampNeg (nI ty4.1)) 0) = 8 then Option.bind (E_Reader_nextToken ty4.2.1 ty4.2.2) fun ty10 => Option.bind (E_Reader_readNumber 0 ((ty10.1 (19 + 3) 0) - 1) ty10.1 ty10.2) fun ty11 => zlet (α := Int32) ty11.1 fun y12 => Option.bind (E_Reader_readNumber 0 100 ty11.2.1 ty11.2.2) fun ty13 => Option.bind (E_Reader_addComing y3 0 y12 ty13.1 ty13.2.1 ty13.2.2) fun ty14 => e_Reader_readAt_176 y3 ty14.1 ty14.2 else (if (((zTabs.getD 3 ("", "", [])).2.2).getD (Int32.toNatClampNeg (nI ty4.1)) 0) = 9 then Option.bind (E_Reader_nextToken ty4.2.1 ty4.2.2) fun ty15 => Option.bind (E_Reader_readNumber 0 1 ty15.1 ty15.2) fun ty16 => Option.bind (E_Reader_addComing y3 1 (-2) ty16.1 ty16.2.1 ty16.2.2) fun ty17 => e_Reader_readAt_176 y3 ty17.1 ty17.2 else (if (((zTabs.getD 3 ("", "", [])).2.2).getD (Int32.toNatClampNeg (nI ty4.1)) 0) = 10 then Option.bind (E_Reader_nextToken ty4.2.1 ty4.2.2) fun ty18 => Option.bind (E_Reader_readNumber 45000 55000 ty18.1 ty18.2) fun ty19 => zlet (α := Int32) ty19.1 fun y20 => Option.bind (E_Reader_addComing y3 2 (-2) y20 ty19.2.1 ty19.2.2) fun ty21 => e_Reader_readAt_176 y3 ty21.1 ty21.2 else Option.bind (E_Reader_refuse 1 ty4.2.1 ty4.2.2) fun ty22 => e_Reader_readAt_176 y3 ty22.1 ty22.2))) else none) else none)
theorem z_Reader_readAt_32 {l : Launch} {D : va_G} {dA : Nat → ClassId} {ad : Nat → Nat} {sh : List zSE}  (hr : zRo sh)   {μ : zI} {ν : zJ} {out : (zI × zJ)} (hF : e_Reader_readAt_32    μ ν = some out) : Z l D dA ad sh m_Reader_readAt (zR 6 0 0) (zS ad) (zOv out) 0 0 0 0 [] 32 [(0, .ref (ad 3)), (1, .ref (ad 19))] [] μ ν := by
  unfold e_Reader_readAt_32 at hF
  refine z_aload_n d_Reader_readAt_32 0 rfl rfl ?_
  obtain ⟨ty1, hty1, hF⟩ := zh_bind hF
  refine z_callV d_Reader_readAt_33 (c_Reader_nextToken hr hty1) mv_Reader_nextToken l_Reader_36 (fun _ _ h => h) (hr 3 _ rfl) rfl rfl ⟨Nat.le_of_ble_eq_true rfl, Nat.le_of_ble_eq_true rfl⟩ ⟨Nat.le_of_ble_eq_true rfl, Nat.le_of_ble_eq_true rfl⟩ rfl (Nat.le_of_ble_eq_true rfl) (fun r μ' ν' hq => ?_)
  obtain ⟨rfl, rfl, rfl⟩ := hq
  show Z _ _ _ _ _ _ _ _ _ _ _ 0 0 _ _ _ [] _ _
  refine z_aload_n d_Reader_readAt_36 0 rfl rfl ?_
  refine z_iconst d_Reader_readAt_37 (v := 1) (by decide) ?_
  refine z_sipush d_Reader_readAt_38 (v := 9999) (by decide) ?_
  obtain ⟨ty2, hty2, hF⟩ := zh_bind hF
  refine z_callV d_Reader_readAt_41 (c_Reader_readNumber hr hty2) mv_Reader_readNumber l_Reader_95 (fun _ _ h => h) (hr 3 _ rfl) rfl rfl ⟨Nat.le_of_ble_eq_true rfl, Nat.le_of_ble_eq_true rfl⟩ ⟨Nat.le_of_ble_eq_true rfl, Nat.le_of_ble_eq_true rfl⟩ rfl (Nat.le_of_ble_eq_true rfl) (fun r μ' ν' hq => ?_)
  obtain ⟨rfl, rfl, rfl⟩ := hq
  show Z _ _ _ _ _ _ _ _ _ _ _ 0 0 _ _ _ [.int ty2.1] _ _
  obtain ⟨y3, hy3, hF⟩ := zh_let hF
  refine z_eqi hy3 ?_
  refine z_istore_n d_Reader_readAt_44 rfl (by decide) (L2 := [(2, .int y3), (0, .ref (ad 3)), (1, .ref (ad 19))]) rfl ?_
  refine z_gets d_Reader_readAt_45 (fun _ _ h => h) (k := 3) rfl s_Reader_53 ?_
  refine z_aload_n d_Reader_readAt_48 1 rfl rfl ?_
  obtain ⟨ty4, hty4, hF⟩ := zh_bind hF
  refine z_callV d_Reader_readAt_49 (c_Reader_wordHere hr hty4) mv_Reader_wordHere l_Reader_49 (fun _ _ h => h) (hr 3 _ rfl) rfl rfl ⟨Nat.le_of_ble_eq_true rfl, Nat.le_of_ble_eq_true rfl⟩ ⟨Nat.le_of_ble_eq_true rfl, Nat.le_of_ble_eq_true rfl⟩ rfl (Nat.le_of_ble_eq_true rfl) (fun r μ' ν' hq => ?_)
  obtain ⟨rfl, rfl, rfl⟩ := hq
  show Z _ _ _ _ _ _ _ _ _ _ _ 0 0 _ _ _ [.ref (ad (1000100 + ty4.1)), .ref (ad (1000000 + 3))] _ _
  obtain ⟨hy5, hF⟩ := zh_if hF
  refine z_callOrd d_Reader_readAt_52 (c_J_ordinal (of_decide_eq_true hy5)) l_Reader_59 (fun _ _ h => h) (of_decide_eq_true hy5) ⟨Nat.le_of_ble_eq_true rfl, Nat.le_of_ble_eq_true rfl⟩ ⟨Nat.le_of_ble_eq_true rfl, Nat.le_of_ble_eq_true rfl⟩ (Nat.le_of_ble_eq_true rfl) ?_
  obtain ⟨hy6, hF⟩ := zh_if hF
  refine z_tald d_Reader_readAt_55 (fun _ _ h => h) (k := 3) rfl (zin_vp hy6) ?_
  by_cases cy7 : (((zTabs.getD 3 ("", "", [])).2.2).getD (Int32.toNatClampNeg (nI ty4.1)) 0) = 8
  · replace hF := zh_t cy7 hF
    refine z_tabIn d_Reader_readAt_56 (tgt := 84) 8 cy7 (by decide) (by decide) (off := 28) (by decide) (by decide) ?_
    refine z_aload_n d_Reader_readAt_84 1 rfl rfl ?_
    obtain ⟨ty10, hty10, hF⟩ := zh_bind hF
    refine z_callV d_Reader_readAt_85 (c_Reader_nextToken hr hty10) mv_Reader_nextToken l_Reader_36 (fun _ _ h => h) (hr 3 _ rfl) rfl rfl ⟨Nat.le_of_ble_eq_true rfl, Nat.le_of_ble_eq_true rfl⟩ ⟨Nat.le_of_ble_eq_true rfl, Nat.le_of_ble_eq_true rfl⟩ rfl (Nat.le_of_ble_eq_true rfl) (fun r μ' ν' hq => ?_)
    obtain ⟨rfl, rfl, rfl⟩ := hq
    show Z _ _ _ _ _ _ _ _ _ _ _ 0 0 _ _ _ [] _ _
    refine z_aload_n d_Reader_readAt_88 1 rfl rfl ?_
    refine z_iconst d_Reader_readAt_89 (v := 0) (by decide) ?_
    refine z_aload_n d_Reader_readAt_90 2 rfl rfl ?_
    refine z_getr d_Reader_readAt_91 (q := (19 + 3)) f_Reader_88 ((zRo_19 hr) 0 _ rfl) rfl ?_
    refine z_get d_Reader_readAt_94 f_Reader_92 ((zRo_19 hr) 3 _ rfl) rfl ?_
    refine z_iconst d_Reader_readAt_97 (v := 1) (by decide) ?_
    refine z_isub d_Reader_readAt_98 ?_
    obtain ⟨ty11, hty11, hF⟩ := zh_bind hF
    refine z_callV d_Reader_readAt_99 (c_Reader_readNumber hr hty11) mv_Reader_readNumber l_Reader_95 (fun _ _ h => h) (hr 3 _ rfl) rfl rfl ⟨Nat.le_of_ble_eq_true rfl, Nat.le_of_ble_eq_true rfl⟩ ⟨Nat.le_of_ble_eq_true rfl, Nat.le_of_ble_eq_true rfl⟩ rfl (Nat.le_of_ble_eq_true rfl) (fun r μ' ν' hq => ?_)
    obtain ⟨rfl, rfl, rfl⟩ := hq
    show Z _ _ _ _ _ _ _ _ _ _ _ 0 0 _ _ _ [.int ty11.1] _ _
    obtain ⟨y12, hy12, hF⟩ := zh_let hF
    refine z_eqi hy12 ?_
    refine z_istore_n d_Reader_readAt_102 rfl (by decide) (L2 := [(3, .int y12), (2, .int y3), (0, .ref (ad 3)), (1, .ref (ad 19))]) rfl ?_
    refine z_aload_n d_Reader_readAt_103 2 rfl rfl ?_
    refine z_aload_n d_Reader_readAt_104 3 rfl rfl ?_
    refine z_iload_n d_Reader_readAt_105 1 rfl rfl ?_
    refine z_iconst d_Reader_readAt_106 (v := 0) (by decide) ?_
    refine z_iload_n d_Reader_readAt_107 0 rfl rfl ?_
    refine z_aload_n d_Reader_readAt_108 2 rfl rfl ?_
    refine z_iconst d_Reader_readAt_109 (v := 0) (by decide) ?_
    refine z_bipush d_Reader_readAt_110 (v := 100) (by decide) ?_
    obtain ⟨ty13, hty13, hF⟩ := zh_bind hF
    refine z_callV d_Reader_readAt_112 (c_Reader_readNumber hr hty13) mv_Reader_readNumber l_Reader_95 (fun _ _ h => h) (hr 3 _ rfl) rfl rfl ⟨Nat.le_of_ble_eq_true rfl, Nat.le_of_ble_eq_true rfl⟩ ⟨Nat.le_of_ble_eq_true rfl, Nat.le_of_ble_eq_true rfl⟩ rfl (Nat.le_of_ble_eq_true rfl) (fun r μ' ν' hq => ?_)
    obtain ⟨rfl, rfl, rfl⟩ := hq
    show Z _ _ _ _ _ _ _ _ _ _ _ 0 0 _ _ _ [.int ty13.1, .int y12, .int 0, .int y3, .ref (ad 19), .ref (ad 3)] _ _
    obtain ⟨ty14, hty14, hF⟩ := zh_bind hF
    refine z_callV d_Reader_readAt_115 (c_Reader_addComing hr hty14) mv_Reader_addComing l_Reader_137 (fun _ _ h => h) (hr 3 _ rfl) rfl rfl ⟨Nat.le_of_ble_eq_true rfl, Nat.le_of_ble_eq_true rfl⟩ ⟨Nat.le_of_ble_eq_true rfl, Nat.le_of_ble_eq_true rfl⟩ rfl (Nat.le_of_ble_eq_true rfl) (fun r μ' ν' hq => ?_)
    obtain ⟨rfl, rfl, rfl⟩ := hq
    show Z _ _ _ _ _ _ _ _ _ _ _ 0 0 _ _ _ [] _ _
    refine z_goto d_Reader_readAt_118 (tgt := 176) (by decide) ?_
    refine z_sub [2, 3, 1] (L' := [(0, .ref (ad 3)), (1, .ref (ad 19)), (2, .int y3)]) rfl ?_
    exact z_Reader_readAt_176 hr  hF
  · replace hF := zh_f cy7 hF
    by_cases cy8 : (((zTabs.getD 3 ("", "", [])).2.2).getD (Int32.toNatClampNeg (nI ty4.1)) 0) = 9
    · replace hF := zh_t cy8 hF
      refine z_tabIn d_Reader_readAt_56 (tgt := 121) 9 cy8 (by decide) (by decide) (off := 65) (by decide) (by decide) ?_
      refine z_aload_n d_Reader_readAt_121 1 rfl rfl ?_
      obtain ⟨ty15, hty15, hF⟩ := zh_bind hF
      refine z_callV d_Reader_readAt_122 (c_Reader_nextToken hr hty15) mv_Reader_nextToken l_Reader_36 (fun _ _ h => h) (hr 3 _ rfl) rfl rfl ⟨Nat.le_of_ble_eq_true rfl, Nat.le_of_ble_eq_true rfl⟩ ⟨Nat.le_of_ble_eq_true rfl, Nat.le_of_ble_eq_true rfl⟩ rfl (Nat.le_of_ble_eq_true rfl) (fun r μ' ν' hq => ?_)
      obtain ⟨rfl, rfl, rfl⟩ := hq
      show Z _ _ _ _ _ _ _ _ _ _ _ 0 0 _ _ _ [] _ _
      refine z_aload_n d_Reader_readAt_125 1 rfl rfl ?_
      refine z_aload_n d_Reader_readAt_126 2 rfl rfl ?_
      refine z_iload_n d_Reader_readAt_127 0 rfl rfl ?_
      refine z_iconst d_Reader_readAt_128 (v := 1) (by decide) ?_
      refine z_bipush d_Reader_readAt_129 (v := (-2)) (by decide) ?_
      refine z_aload_n d_Reader_readAt_131 1 rfl rfl ?_
      refine z_iconst d_Reader_readAt_132 (v := 0) (by decide) ?_
      refine z_iconst d_Reader_readAt_133 (v := 1) (by decide) ?_
      obtain ⟨ty16, hty16, hF⟩ := zh_bind hF
      refine z_callV d_Reader_readAt_134 (c_Reader_readNumber hr hty16) mv_Reader_readNumber l_Reader_95 (fun _ _ h => h) (hr 3 _ rfl) rfl rfl ⟨Nat.le_of_ble_eq_true rfl, Nat.le_of_ble_eq_true rfl⟩ ⟨Nat.le_of_ble_eq_true rfl, Nat.le_of_ble_eq_true rfl⟩ rfl (Nat.le_of_ble_eq_true rfl) (fun r μ' ν' hq => ?_)
      obtain ⟨rfl, rfl, rfl⟩ := hq
      show Z _ _ _ _ _ _ _ _ _ _ _ 0 0 _ _ _ [.int ty16.1, .int (-2), .int 1, .int y3, .ref (ad 19), .ref (ad 3)] _ _
      obtain ⟨ty17, hty17, hF⟩ := zh_bind hF
      refine z_callV d_Reader_readAt_137 (c_Reader_addComing hr hty17) mv_Reader_addComing l_Reader_137 (fun _ _ h => h) (hr 3 _ rfl) rfl rfl ⟨Nat.le_of_ble_eq_true rfl, Nat.le_of_ble_eq_true rfl⟩ ⟨Nat.le_of_ble_eq_true rfl, Nat.le_of_ble_eq_true rfl⟩ rfl (Nat.le_of_ble_eq_true rfl) (fun r μ' ν' hq => ?_)
      obtain ⟨rfl, rfl, rfl⟩ := hq
      show Z _ _ _ _ _ _ _ _ _ _ _ 0 0 _ _ _ [] _ _
      refine z_goto d_Reader_readAt_140 (tgt := 176) (by decide) ?_
      refine z_sub [1, 2, 0] (L' := [(0, .ref (ad 3)), (1, .ref (ad 19)), (2, .int y3)]) rfl ?_
      exact z_Reader_readAt_176 hr  hF
    · replace hF := zh_f cy8 hF
      by_cases cy9 : (((zTabs.getD 3 ("", "", [])).2.2).getD (Int32.toNatClampNeg (nI ty4.1)) 0) = 10
      · replace hF := zh_t cy9 hF
        refine z_tabIn d_Reader_readAt_56 (tgt := 143) 10 cy9 (by decide) (by decide) (off := 87) (by decide) (by decide) ?_
        refine z_aload_n d_Reader_readAt_143 1 rfl rfl ?_
        obtain ⟨ty18, hty18, hF⟩ := zh_bind hF
        refine z_callV d_Reader_readAt_144 (c_Reader_nextToken hr hty18) mv_Reader_nextToken l_Reader_36 (fun _ _ h => h) (hr 3 _ rfl) rfl rfl ⟨Nat.le_of_ble_eq_true rfl, Nat.le_of_ble_eq_true rfl⟩ ⟨Nat.le_of_ble_eq_true rfl, Nat.le_of_ble_eq_true rfl⟩ rfl (Nat.le_of_ble_eq_true rfl) (fun r μ' ν' hq => ?_)
        obtain ⟨rfl, rfl, rfl⟩ := hq
        show Z _ _ _ _ _ _ _ _ _ _ _ 0 0 _ _ _ [] _ _
        refine z_aload_n d_Reader_readAt_147 1 rfl rfl ?_
        refine z_ldc d_Reader_readAt_148 k_Reader_143 ?_
        refine z_ldc d_Reader_readAt_150 k_Reader_144 ?_
        obtain ⟨ty19, hty19, hF⟩ := zh_bind hF
        refine z_callV d_Reader_readAt_152 (c_Reader_readNumber hr hty19) mv_Reader_readNumber l_Reader_95 (fun _ _ h => h) (hr 3 _ rfl) rfl rfl ⟨Nat.le_of_ble_eq_true rfl, Nat.le_of_ble_eq_true rfl⟩ ⟨Nat.le_of_ble_eq_true rfl, Nat.le_of_ble_eq_true rfl⟩ rfl (Nat.le_of_ble_eq_true rfl) (fun r μ' ν' hq => ?_)
        obtain ⟨rfl, rfl, rfl⟩ := hq
        show Z _ _ _ _ _ _ _ _ _ _ _ 0 0 _ _ _ [.int ty19.1] _ _
        obtain ⟨y20, hy20, hF⟩ := zh_let hF
        refine z_eqi hy20 ?_
        refine z_istore d_Reader_readAt_155 (by decide) (L2 := [(4, .int y20), (2, .int y3), (0, .ref (ad 3)), (1, .ref (ad 19))]) rfl ?_
        refine z_aload_n d_Reader_readAt_157 2 rfl rfl ?_
        refine z_aload_n d_Reader_readAt_158 3 rfl rfl ?_
        refine z_iload_n d_Reader_readAt_159 1 rfl rfl ?_
        refine z_iconst d_Reader_readAt_160 (v := 2) (by decide) ?_
        refine z_bipush d_Reader_readAt_161 (v := (-2)) (by decide) ?_
        refine z_iload d_Reader_readAt_163 0 rfl ?_
        obtain ⟨ty21, hty21, hF⟩ := zh_bind hF
        refine z_callV d_Reader_readAt_165 (c_Reader_addComing hr hty21) mv_Reader_addComing l_Reader_137 (fun _ _ h => h) (hr 3 _ rfl) rfl rfl ⟨Nat.le_of_ble_eq_true rfl, Nat.le_of_ble_eq_true rfl⟩ ⟨Nat.le_of_ble_eq_true rfl, Nat.le_of_ble_eq_true rfl⟩ rfl (Nat.le_of_ble_eq_true rfl) (fun r μ' ν' hq => ?_)
        obtain ⟨rfl, rfl, rfl⟩ := hq
        show Z _ _ _ _ _ _ _ _ _ _ _ 0 0 _ _ _ [] _ _
        refine z_goto d_Reader_readAt_168 (tgt := 176) (by decide) ?_
        refine z_sub [2, 3, 1] (L' := [(0, .ref (ad 3)), (1, .ref (ad 19)), (2, .int y3)]) rfl ?_
        exact z_Reader_readAt_176 hr  hF
      · replace hF := zh_f cy9 hF
        refine z_tabOut d_Reader_readAt_56 (tgt := 171) [8, 9, 10] (List.forall_mem_cons.mpr ⟨cy7, List.forall_mem_cons.mpr ⟨cy8, List.forall_mem_cons.mpr ⟨cy9, fun _ h => absurd h List.not_mem_nil⟩⟩⟩) (by decide) (by decide) ?_
        refine z_aload_n d_Reader_readAt_171 1 rfl rfl ?_
        refine z_iconst d_Reader_readAt_172 (v := 1) (by decide) ?_
        obtain ⟨ty22, hty22, hF⟩ := zh_bind hF
        refine z_callV d_Reader_readAt_173 (c_Reader_refuse hr hty22) mv_Reader_refuse l_Reader_75 (fun _ _ h => h) (hr 3 _ rfl) rfl rfl ⟨Nat.le_of_ble_eq_true rfl, Nat.le_of_ble_eq_true rfl⟩ ⟨Nat.le_of_ble_eq_true rfl, Nat.le_of_ble_eq_true rfl⟩ rfl (Nat.le_of_ble_eq_true rfl) (fun r μ' ν' hq => ?_)
        obtain ⟨rfl, rfl, rfl⟩ := hq
        show Z _ _ _ _ _ _ _ _ _ _ _ 0 0 _ _ _ [] _ _
        refine z_sub [1, 2, 0] (L' := [(0, .ref (ad 3)), (1, .ref (ad 19)), (2, .int y3)]) rfl ?_
        exact z_Reader_readAt_176 hr  hF
def e_Reader_readAt_15    (μ : zI) (ν : zJ) : Option (zI × zJ) := (if (μ (19 + 9) 0) < 24 then e_Reader_readAt_32 μ ν else Option.bind (E_Reader_refuse 2 μ ν) fun ty2 => e_Reader_readAt_32 ty2.1 ty2.2)
theorem z_Reader_readAt_15 {l : Launch} {D : va_G} {dA : Nat → ClassId} {ad : Nat → Nat} {sh : List zSE}  (hr : zRo sh)   {μ : zI} {ν : zJ} {out : (zI × zJ)} (hF : e_Reader_readAt_15    μ ν = some out) : Z l D dA ad sh m_Reader_readAt (zR 6 0 0) (zS ad) (zOv out) 0 0 0 0 [] 15 [(0, .ref (ad 3)), (1, .ref (ad 19))] [] μ ν := by
  unfold e_Reader_readAt_15 at hF
  refine z_aload_n d_Reader_readAt_15 1 rfl rfl ?_
  refine z_getr d_Reader_readAt_16 (q := (19 + 9)) f_Reader_79 ((zRo_19 hr) 0 _ rfl) rfl ?_
  refine z_get d_Reader_readAt_19 f_Reader_83 ((zRo_19 hr) 9 _ rfl) rfl ?_
  refine z_bipush d_Reader_readAt_22 (v := 24) (by decide) ?_
  refine z_icmp_lt d_Reader_readAt_24 (tgt := 32) (by decide) (fun cy1 => ?_) (fun cy1 => ?_)
  · replace hF := zh_t cy1 hF
    exact z_Reader_readAt_32 hr  hF
  · replace hF := zh_f cy1 hF
    refine z_aload_n d_Reader_readAt_27 0 rfl rfl ?_
    refine z_iconst d_Reader_readAt_28 (v := 2) (by decide) ?_
    obtain ⟨ty2, hty2, hF⟩ := zh_bind hF
    refine z_callV d_Reader_readAt_29 (c_Reader_refuse hr hty2) mv_Reader_refuse l_Reader_75 (fun _ _ h => h) (hr 3 _ rfl) rfl rfl ⟨Nat.le_of_ble_eq_true rfl, Nat.le_of_ble_eq_true rfl⟩ ⟨Nat.le_of_ble_eq_true rfl, Nat.le_of_ble_eq_true rfl⟩ rfl (Nat.le_of_ble_eq_true rfl) (fun r μ' ν' hq => ?_)
    obtain ⟨rfl, rfl, rfl⟩ := hq
    show Z _ _ _ _ _ _ _ _ _ _ _ 0 0 _ _ _ [] _ _
    exact z_Reader_readAt_32 hr  hF
def e_Reader_readAt_0    (μ : zI) (ν : zJ) : Option (zI × zJ) := (if (μ (19 + 3) 0) = 0 then Option.bind (E_Reader_refuse 1 μ ν) fun ty2 => e_Reader_readAt_15 ty2.1 ty2.2 else e_Reader_readAt_15 μ ν)
theorem z_Reader_readAt_0 {l : Launch} {D : va_G} {dA : Nat → ClassId} {ad : Nat → Nat} {sh : List zSE}  (hr : zRo sh)   {μ : zI} {ν : zJ} {out : (zI × zJ)} (hF : e_Reader_readAt_0    μ ν = some out) : Z l D dA ad sh m_Reader_readAt (zR 6 0 0) (zS ad) (zOv out) 0 0 0 0 [] 0 [(0, .ref (ad 3)), (1, .ref (ad 19))] [] μ ν := by
  unfold e_Reader_readAt_0 at hF
  refine z_aload_n d_Reader_readAt_0 1 rfl rfl ?_
  refine z_getr d_Reader_readAt_1 (q := (19 + 3)) f_Reader_88 ((zRo_19 hr) 0 _ rfl) rfl ?_
  refine z_get d_Reader_readAt_4 f_Reader_92 ((zRo_19 hr) 3 _ rfl) rfl ?_
  refine z_if_ne d_Reader_readAt_7 (tgt := 15) (by decide) (fun cy1 => ?_) (fun cy1 => ?_)
  · replace hF := zh_f cy1 hF
    exact z_Reader_readAt_15 hr  hF
  · replace hF := zh_t cy1 hF
    refine z_aload_n d_Reader_readAt_10 0 rfl rfl ?_
    refine z_iconst d_Reader_readAt_11 (v := 1) (by decide) ?_
    obtain ⟨ty2, hty2, hF⟩ := zh_bind hF
    refine z_callV d_Reader_readAt_12 (c_Reader_refuse hr hty2) mv_Reader_refuse l_Reader_75 (fun _ _ h => h) (hr 3 _ rfl) rfl rfl ⟨Nat.le_of_ble_eq_true rfl, Nat.le_of_ble_eq_true rfl⟩ ⟨Nat.le_of_ble_eq_true rfl, Nat.le_of_ble_eq_true rfl⟩ rfl (Nat.le_of_ble_eq_true rfl) (fun r μ' ν' hq => ?_)
    obtain ⟨rfl, rfl, rfl⟩ := hq
    show Z _ _ _ _ _ _ _ _ _ _ _ 0 0 _ _ _ [] _ _
    exact z_Reader_readAt_15 hr  hF
def E_Reader_readAt   (μ : zI) (ν : zJ) : Option (zI × zJ) := e_Reader_readAt_0 μ ν
theorem c_Reader_readAt {l : Launch} {D : va_G} {dA : Nat → ClassId} {ad : Nat → Nat} {sh : List zSE} {μ : zI} {ν : zJ} (hr : zRo sh) {out : (zI × zJ)} (hE : E_Reader_readAt  μ ν = some out) : zC l D dA ad sh m_Reader_readAt 6 0 0 [.ref (ad 3), .ref (ad 19)] μ ν (zOv out) :=
  zC.of (by decide) (Nat.le_of_ble_eq_true rfl) (z_Reader_readAt_0 hr hE)
def e_Reader_readLine_99   (n2 : Nat) (μ : zI) (ν : zJ) : Option (zI × zJ) := Option.bind (E_Reader_nextToken μ ν) fun ty1 => some (ty1.1, ty1.2)
theorem z_Reader_readLine_99 {l : Launch} {D : va_G} {dA : Nat → ClassId} {ad : Nat → Nat} {sh : List zSE}  (hr : zRo sh)  {n2 : Nat} {μ : zI} {ν : zJ} {out : (zI × zJ)} (hF : e_Reader_readLine_99   n2 μ ν = some out) : Z l D dA ad sh m_Reader_readLine (zR 7 0 0) (zS ad) (zOv out) 0 0 0 0 [] 99 [(0, .ref (ad 3)), (1, .ref (ad 19)), (2, .ref (ad (1000100 + n2)))] [] μ ν := by
  unfold e_Reader_readLine_99 at hF
  refine z_aload_n d_Reader_readLine_99 0 rfl rfl ?_
  obtain ⟨ty1, hty1, hF⟩ := zh_bind hF
  refine z_callV d_Reader_readLine_100 (c_Reader_nextToken hr hty1) mv_Reader_nextToken l_Reader_36 (fun _ _ h => h) (hr 3 _ rfl) rfl rfl ⟨Nat.le_of_ble_eq_true rfl, Nat.le_of_ble_eq_true rfl⟩ ⟨Nat.le_of_ble_eq_true rfl, Nat.le_of_ble_eq_true rfl⟩ rfl (Nat.le_of_ble_eq_true rfl) (fun r μ' ν' hq => ?_)
  obtain ⟨rfl, rfl, rfl⟩ := hq
  show Z _ _ _ _ _ _ _ _ _ _ _ 0 0 _ _ _ [] _ _
  cases hF
  exact z_return d_Reader_readLine_103 rfl ⟨rfl, rfl, rfl⟩
def e_Reader_readLine_86   (n2 : Nat) (μ : zI) (ν : zJ) : Option (zI × zJ) := (if (μ 3 4) = 4 then e_Reader_readLine_99 n2 μ ν else Option.bind (E_Reader_refuse 1 μ ν) fun ty2 => e_Reader_readLine_99 n2 ty2.1 ty2.2)
theorem z_Reader_readLine_86 {l : Launch} {D : va_G} {dA : Nat → ClassId} {ad : Nat → Nat} {sh : List zSE}  (hr : zRo sh)  {n2 : Nat} {μ : zI} {ν : zJ} {out : (zI × zJ)} (hF : e_Reader_readLine_86   n2 μ ν = some out) : Z l D dA ad sh m_Reader_readLine (zR 7 0 0) (zS ad) (zOv out) 0 0 0 0 [] 86 [(0, .ref (ad 3)), (1, .ref (ad 19)), (2, .ref (ad (1000100 + n2)))] [] μ ν := by
  unfold e_Reader_readLine_86 at hF
  refine z_aload_n d_Reader_readLine_86 0 rfl rfl ?_
  refine z_get d_Reader_readLine_87 f_Reader_39 (hr 3 _ rfl) rfl ?_
  refine z_iconst d_Reader_readLine_90 (v := 4) (by decide) ?_
  refine z_icmp_eq d_Reader_readLine_91 (tgt := 99) (by decide) (fun cy1 => ?_) (fun cy1 => ?_)
  · replace hF := zh_t cy1 hF
    exact z_Reader_readLine_99 hr  hF
  · replace hF := zh_f cy1 hF
    refine z_aload_n d_Reader_readLine_94 0 rfl rfl ?_
    refine z_iconst d_Reader_readLine_95 (v := 1) (by decide) ?_
    obtain ⟨ty2, hty2, hF⟩ := zh_bind hF
    refine z_callV d_Reader_readLine_96 (c_Reader_refuse hr hty2) mv_Reader_refuse l_Reader_75 (fun _ _ h => h) (hr 3 _ rfl) rfl rfl ⟨Nat.le_of_ble_eq_true rfl, Nat.le_of_ble_eq_true rfl⟩ ⟨Nat.le_of_ble_eq_true rfl, Nat.le_of_ble_eq_true rfl⟩ rfl (Nat.le_of_ble_eq_true rfl) (fun r μ' ν' hq => ?_)
    obtain ⟨rfl, rfl, rfl⟩ := hq
    show Z _ _ _ _ _ _ _ _ _ _ _ 0 0 _ _ _ [] _ _
    exact z_Reader_readLine_99 hr  hF
def e_Reader_readLine_0    (μ : zI) (ν : zJ) : Option (zI × zJ) := Option.bind (E_Reader_wordHere μ ν) fun ty1 => (if decide (ty1.1 < 11) = true then (if zin (nI ty1.1) 11 = true then (if (((zTabs.getD 3 ("", "", [])).2.2).getD (Int32.toNatClampNeg (nI ty1.1)) 0) = 1 then Option.bind (E_Reader_readModule ty1.2.1 ty1.2.2) fun ty11 => e_Reader_readLine_86 ty1.1 ty11.1 ty11.2 else (if (((zTabs.getD 3 ("", "", [])).2.2).getD (Int32.toNatClampNeg (nI ty1.1)) 0) = 2 then Option.bind (E_Reader_readSettings ty1.1 ty1.2.1 ty1.2.2) fun ty12 => e_Reader_readLine_86 ty1.1 ty12.1 ty12.2 else (if (((zTabs.getD 3 ("", "", [])).2.2).getD (Int32.toNatClampNeg (nI ty1.1)) 0) = 3 then Option.bind (E_Reader_readSettings ty1.1 ty1.2.1 ty1.2.2) fun ty13 => e_Reader_readLine_86 ty1.1 ty13.1 ty13.2 else (if (((zTabs.getD 3 ("", "", [])).2.2).getD (Int32.toNatClampNeg (nI ty1.1)) 0) = 4 then Option.bind (E_Reader_readSettings ty1.1 ty1.2.1 ty1.2.2) fun ty14 => e_Reader_readLine_86 ty1.1 ty14.1 ty14.2 else (if (((zTabs.getD 3 ("", "", [])).2.2).getD (Int32.toNatClampNeg (nI ty1.1)) 0) = 5 then Option.bind (E_Reader_readSettings ty1.1 ty1.2.1 ty1.2.2) fun ty15 => e_Reader_readLine_86 ty1.1 ty15.1 ty15.2 else (if (((zTabs.getD 3 ("", "", [])).2.2).getD (Int32.toNatClampNeg (nI ty1.1)) 0) = 6 then Option.bind (E_Reader_readSettings ty1.1 ty1.2.1 ty1.2.2) fun ty16 => e_Reader_readLine_86 ty1.1 ty16.1 ty16.2 else (if (((zTabs.getD 3 ("", "", [])).2.2).getD (Int32.toNatClampNeg (nI ty1.1)) 0) = 7 then Option.bind (E_Reader_readAt ty1.2.1 ty1.2.2) fun ty17 => e_Reader_readLine_86 ty1.1 ty17.1 ty17.2 else Option.bind (E_Reader_refuse 1 ty1.2.1 ty1.2.2) fun ty18 => e_Reader_readLine_86 ty1.1 ty18.1 ty18.2))))))) else none) else none)
theorem z_Reader_readLine_0 {l : Launch} {D : va_G} {dA : Nat → ClassId} {ad : Nat → Nat} {sh : List zSE}  (hr : zRo sh)   {μ : zI} {ν : zJ} {out : (zI × zJ)} (hF : e_Reader_readLine_0    μ ν = some out) : Z l D dA ad sh m_Reader_readLine (zR 7 0 0) (zS ad) (zOv out) 0 0 0 0 [] 0 [(0, .ref (ad 3)), (1, .ref (ad 19))] [] μ ν := by
  unfold e_Reader_readLine_0 at hF
  refine z_aload_n d_Reader_readLine_0 0 rfl rfl ?_
  obtain ⟨ty1, hty1, hF⟩ := zh_bind hF
  refine z_callV d_Reader_readLine_1 (c_Reader_wordHere hr hty1) mv_Reader_wordHere l_Reader_49 (fun _ _ h => h) (hr 3 _ rfl) rfl rfl ⟨Nat.le_of_ble_eq_true rfl, Nat.le_of_ble_eq_true rfl⟩ ⟨Nat.le_of_ble_eq_true rfl, Nat.le_of_ble_eq_true rfl⟩ rfl (Nat.le_of_ble_eq_true rfl) (fun r μ' ν' hq => ?_)
  obtain ⟨rfl, rfl, rfl⟩ := hq
  show Z _ _ _ _ _ _ _ _ _ _ _ 0 0 _ _ _ [.ref (ad (1000100 + ty1.1))] _ _
  refine z_astore_n d_Reader_readLine_4 rfl (by decide) (L2 := [(2, .ref (ad (1000100 + ty1.1))), (0, .ref (ad 3)), (1, .ref (ad 19))]) rfl ?_
  refine z_gets d_Reader_readLine_5 (fun _ _ h => h) (k := 3) rfl s_Reader_53 ?_
  refine z_aload_n d_Reader_readLine_8 0 rfl rfl ?_
  obtain ⟨hy2, hF⟩ := zh_if hF
  refine z_callOrd d_Reader_readLine_9 (c_J_ordinal (of_decide_eq_true hy2)) l_Reader_59 (fun _ _ h => h) (of_decide_eq_true hy2) ⟨Nat.le_of_ble_eq_true rfl, Nat.le_of_ble_eq_true rfl⟩ ⟨Nat.le_of_ble_eq_true rfl, Nat.le_of_ble_eq_true rfl⟩ (Nat.le_of_ble_eq_true rfl) ?_
  obtain ⟨hy3, hF⟩ := zh_if hF
  refine z_tald d_Reader_readLine_12 (fun _ _ h => h) (k := 3) rfl (zin_vp hy3) ?_
  by_cases cy4 : (((zTabs.getD 3 ("", "", [])).2.2).getD (Int32.toNatClampNeg (nI ty1.1)) 0) = 1
  · replace hF := zh_t cy4 hF
    refine z_tabIn d_Reader_readLine_13 (tgt := 56) 1 cy4 (by decide) (by decide) (off := 43) (by decide) (by decide) ?_
    refine z_aload_n d_Reader_readLine_56 1 rfl rfl ?_
    refine z_aload_n d_Reader_readLine_57 2 rfl rfl ?_
    obtain ⟨ty11, hty11, hF⟩ := zh_bind hF
    refine z_callV d_Reader_readLine_58 (c_Reader_readModule hr hty11) mv_Reader_readModule l_Reader_65 (fun _ _ h => h) (hr 3 _ rfl) rfl rfl ⟨Nat.le_of_ble_eq_true rfl, Nat.le_of_ble_eq_true rfl⟩ ⟨Nat.le_of_ble_eq_true rfl, Nat.le_of_ble_eq_true rfl⟩ rfl (Nat.le_of_ble_eq_true rfl) (fun r μ' ν' hq => ?_)
    obtain ⟨rfl, rfl, rfl⟩ := hq
    show Z _ _ _ _ _ _ _ _ _ _ _ 0 0 _ _ _ [] _ _
    refine z_goto d_Reader_readLine_61 (tgt := 86) (by decide) ?_
    refine z_sub [1, 2, 0] (L' := [(0, .ref (ad 3)), (1, .ref (ad 19)), (2, .ref (ad (1000100 + ty1.1)))]) rfl ?_
    exact z_Reader_readLine_86 hr  hF
  · replace hF := zh_f cy4 hF
    by_cases cy5 : (((zTabs.getD 3 ("", "", [])).2.2).getD (Int32.toNatClampNeg (nI ty1.1)) 0) = 2
    · replace hF := zh_t cy5 hF
      refine z_tabIn d_Reader_readLine_13 (tgt := 64) 2 cy5 (by decide) (by decide) (off := 51) (by decide) (by decide) ?_
      refine z_aload_n d_Reader_readLine_64 1 rfl rfl ?_
      refine z_aload_n d_Reader_readLine_65 2 rfl rfl ?_
      refine z_aload_n d_Reader_readLine_66 0 rfl rfl ?_
      obtain ⟨ty12, hty12, hF⟩ := zh_bind hF
      refine z_callV d_Reader_readLine_67 (c_Reader_readSettings hr hty12) mv_Reader_readSettings l_Reader_68 (fun _ _ h => h) (hr 3 _ rfl) rfl rfl ⟨Nat.le_of_ble_eq_true rfl, Nat.le_of_ble_eq_true rfl⟩ ⟨Nat.le_of_ble_eq_true rfl, Nat.le_of_ble_eq_true rfl⟩ rfl (Nat.le_of_ble_eq_true rfl) (fun r μ' ν' hq => ?_)
      obtain ⟨rfl, rfl, rfl⟩ := hq
      show Z _ _ _ _ _ _ _ _ _ _ _ 0 0 _ _ _ [] _ _
      refine z_goto d_Reader_readLine_70 (tgt := 86) (by decide) ?_
      refine z_sub [1, 2, 0] (L' := [(0, .ref (ad 3)), (1, .ref (ad 19)), (2, .ref (ad (1000100 + ty1.1)))]) rfl ?_
      exact z_Reader_readLine_86 hr  hF
    · replace hF := zh_f cy5 hF
      by_cases cy6 : (((zTabs.getD 3 ("", "", [])).2.2).getD (Int32.toNatClampNeg (nI ty1.1)) 0) = 3
      · replace hF := zh_t cy6 hF
        refine z_tabIn d_Reader_readLine_13 (tgt := 64) 3 cy6 (by decide) (by decide) (off := 51) (by decide) (by decide) ?_
        refine z_aload_n d_Reader_readLine_64 1 rfl rfl ?_
        refine z_aload_n d_Reader_readLine_65 2 rfl rfl ?_
        refine z_aload_n d_Reader_readLine_66 0 rfl rfl ?_
        obtain ⟨ty13, hty13, hF⟩ := zh_bind hF
        refine z_callV d_Reader_readLine_67 (c_Reader_readSettings hr hty13) mv_Reader_readSettings l_Reader_68 (fun _ _ h => h) (hr 3 _ rfl) rfl rfl ⟨Nat.le_of_ble_eq_true rfl, Nat.le_of_ble_eq_true rfl⟩ ⟨Nat.le_of_ble_eq_true rfl, Nat.le_of_ble_eq_true rfl⟩ rfl (Nat.le_of_ble_eq_true rfl) (fun r μ' ν' hq => ?_)
        obtain ⟨rfl, rfl, rfl⟩ := hq
        show Z _ _ _ _ _ _ _ _ _ _ _ 0 0 _ _ _ [] _ _
        refine z_goto d_Reader_readLine_70 (tgt := 86) (by decide) ?_
        refine z_sub [1, 2, 0] (L' := [(0, .ref (ad 3)), (1, .ref (ad 19)), (2, .ref (ad (1000100 + ty1.1)))]) rfl ?_
        exact z_Reader_readLine_86 hr  hF
      · replace hF := zh_f cy6 hF
        by_cases cy7 : (((zTabs.getD 3 ("", "", [])).2.2).getD (Int32.toNatClampNeg (nI ty1.1)) 0) = 4
        · replace hF := zh_t cy7 hF
          refine z_tabIn d_Reader_readLine_13 (tgt := 64) 4 cy7 (by decide) (by decide) (off := 51) (by decide) (by decide) ?_
          refine z_aload_n d_Reader_readLine_64 1 rfl rfl ?_
          refine z_aload_n d_Reader_readLine_65 2 rfl rfl ?_
          refine z_aload_n d_Reader_readLine_66 0 rfl rfl ?_
          obtain ⟨ty14, hty14, hF⟩ := zh_bind hF
          refine z_callV d_Reader_readLine_67 (c_Reader_readSettings hr hty14) mv_Reader_readSettings l_Reader_68 (fun _ _ h => h) (hr 3 _ rfl) rfl rfl ⟨Nat.le_of_ble_eq_true rfl, Nat.le_of_ble_eq_true rfl⟩ ⟨Nat.le_of_ble_eq_true rfl, Nat.le_of_ble_eq_true rfl⟩ rfl (Nat.le_of_ble_eq_true rfl) (fun r μ' ν' hq => ?_)
          obtain ⟨rfl, rfl, rfl⟩ := hq
          show Z _ _ _ _ _ _ _ _ _ _ _ 0 0 _ _ _ [] _ _
          refine z_goto d_Reader_readLine_70 (tgt := 86) (by decide) ?_
          refine z_sub [1, 2, 0] (L' := [(0, .ref (ad 3)), (1, .ref (ad 19)), (2, .ref (ad (1000100 + ty1.1)))]) rfl ?_
          exact z_Reader_readLine_86 hr  hF
        · replace hF := zh_f cy7 hF
          by_cases cy8 : (((zTabs.getD 3 ("", "", [])).2.2).getD (Int32.toNatClampNeg (nI ty1.1)) 0) = 5
          · replace hF := zh_t cy8 hF
            refine z_tabIn d_Reader_readLine_13 (tgt := 64) 5 cy8 (by decide) (by decide) (off := 51) (by decide) (by decide) ?_
            refine z_aload_n d_Reader_readLine_64 1 rfl rfl ?_
            refine z_aload_n d_Reader_readLine_65 2 rfl rfl ?_
            refine z_aload_n d_Reader_readLine_66 0 rfl rfl ?_
            obtain ⟨ty15, hty15, hF⟩ := zh_bind hF
            refine z_callV d_Reader_readLine_67 (c_Reader_readSettings hr hty15) mv_Reader_readSettings l_Reader_68 (fun _ _ h => h) (hr 3 _ rfl) rfl rfl ⟨Nat.le_of_ble_eq_true rfl, Nat.le_of_ble_eq_true rfl⟩ ⟨Nat.le_of_ble_eq_true rfl, Nat.le_of_ble_eq_true rfl⟩ rfl (Nat.le_of_ble_eq_true rfl) (fun r μ' ν' hq => ?_)
            obtain ⟨rfl, rfl, rfl⟩ := hq
            show Z _ _ _ _ _ _ _ _ _ _ _ 0 0 _ _ _ [] _ _
            refine z_goto d_Reader_readLine_70 (tgt := 86) (by decide) ?_
            refine z_sub [1, 2, 0] (L' := [(0, .ref (ad 3)), (1, .ref (ad 19)), (2, .ref (ad (1000100 + ty1.1)))]) rfl ?_
            exact z_Reader_readLine_86 hr  hF
          · replace hF := zh_f cy8 hF
            by_cases cy9 : (((zTabs.getD 3 ("", "", [])).2.2).getD (Int32.toNatClampNeg (nI ty1.1)) 0) = 6
            · replace hF := zh_t cy9 hF
              refine z_tabIn d_Reader_readLine_13 (tgt := 64) 6 cy9 (by decide) (by decide) (off := 51) (by decide) (by decide) ?_
              refine z_aload_n d_Reader_readLine_64 1 rfl rfl ?_
              refine z_aload_n d_Reader_readLine_65 2 rfl rfl ?_
              refine z_aload_n d_Reader_readLine_66 0 rfl rfl ?_
              obtain ⟨ty16, hty16, hF⟩ := zh_bind hF
              refine z_callV d_Reader_readLine_67 (c_Reader_readSettings hr hty16) mv_Reader_readSettings l_Reader_68 (fun _ _ h => h) (hr 3 _ rfl) rfl rfl ⟨Nat.le_of_ble_eq_true rfl, Nat.le_of_ble_eq_true rfl⟩ ⟨Nat.le_of_ble_eq_true rfl, Nat.le_of_ble_eq_true rfl⟩ rfl (Nat.le_of_ble_eq_true rfl) (fun r μ' ν' hq => ?_)
              obtain ⟨rfl, rfl, rfl⟩ := hq
              show Z _ _ _ _ _ _ _ _ _ _ _ 0 0 _ _ _ [] _ _
              refine z_goto d_Reader_readLine_70 (tgt := 86) (by decide) ?_
              refine z_sub [1, 2, 0] (L' := [(0, .ref (ad 3)), (1, .ref (ad 19)), (2, .ref (ad (1000100 + ty1.1)))]) rfl ?_
              exact z_Reader_readLine_86 hr  hF
            · replace hF := zh_f cy9 hF
              by_cases cy10 : (((zTabs.getD 3 ("", "", [])).2.2).getD (Int32.toNatClampNeg (nI ty1.1)) 0) = 7
              · replace hF := zh_t cy10 hF
                refine z_tabIn d_Reader_readLine_13 (tgt := 73) 7 cy10 (by decide) (by decide) (off := 60) (by decide) (by decide) ?_
                refine z_aload_n d_Reader_readLine_73 1 rfl rfl ?_
                refine z_aload_n d_Reader_readLine_74 2 rfl rfl ?_
                obtain ⟨ty17, hty17, hF⟩ := zh_bind hF
                refine z_callV d_Reader_readLine_75 (c_Reader_readAt hr hty17) mv_Reader_readAt l_Reader_72 (fun _ _ h => h) (hr 3 _ rfl) rfl rfl ⟨Nat.le_of_ble_eq_true rfl, Nat.le_of_ble_eq_true rfl⟩ ⟨Nat.le_of_ble_eq_true rfl, Nat.le_of_ble_eq_true rfl⟩ rfl (Nat.le_of_ble_eq_true rfl) (fun r μ' ν' hq => ?_)
                obtain ⟨rfl, rfl, rfl⟩ := hq
                show Z _ _ _ _ _ _ _ _ _ _ _ 0 0 _ _ _ [] _ _
                refine z_goto d_Reader_readLine_78 (tgt := 86) (by decide) ?_
                refine z_sub [1, 2, 0] (L' := [(0, .ref (ad 3)), (1, .ref (ad 19)), (2, .ref (ad (1000100 + ty1.1)))]) rfl ?_
                exact z_Reader_readLine_86 hr  hF
              · replace hF := zh_f cy10 hF
                refine z_tabOut d_Reader_readLine_13 (tgt := 81) [1, 2, 3, 4, 5, 6, 7] (List.forall_mem_cons.mpr ⟨cy4, List.forall_mem_cons.mpr ⟨cy5, List.forall_mem_cons.mpr ⟨cy6, List.forall_mem_cons.mpr ⟨cy7, List.forall_mem_cons.mpr ⟨cy8, List.forall_mem_cons.mpr ⟨cy9, List.forall_mem_cons.mpr ⟨cy10, fun _ h => absurd h List.not_mem_nil⟩⟩⟩⟩⟩⟩⟩) (by decide) (by decide) ?_
                refine z_aload_n d_Reader_readLine_81 1 rfl rfl ?_
                refine z_iconst d_Reader_readLine_82 (v := 1) (by decide) ?_
                obtain ⟨ty18, hty18, hF⟩ := zh_bind hF
                refine z_callV d_Reader_readLine_83 (c_Reader_refuse hr hty18) mv_Reader_refuse l_Reader_75 (fun _ _ h => h) (hr 3 _ rfl) rfl rfl ⟨Nat.le_of_ble_eq_true rfl, Nat.le_of_ble_eq_true rfl⟩ ⟨Nat.le_of_ble_eq_true rfl, Nat.le_of_ble_eq_true rfl⟩ rfl (Nat.le_of_ble_eq_true rfl) (fun r μ' ν' hq => ?_)
                obtain ⟨rfl, rfl, rfl⟩ := hq
                show Z _ _ _ _ _ _ _ _ _ _ _ 0 0 _ _ _ [] _ _
                refine z_sub [1, 2, 0] (L' := [(0, .ref (ad 3)), (1, .ref (ad 19)), (2, .ref (ad (1000100 + ty1.1)))]) rfl ?_
                exact z_Reader_readLine_86 hr  hF
def E_Reader_readLine   (μ : zI) (ν : zJ) : Option (zI × zJ) := e_Reader_readLine_0 μ ν
theorem c_Reader_readLine {l : Launch} {D : va_G} {dA : Nat → ClassId} {ad : Nat → Nat} {sh : List zSE} {μ : zI} {ν : zJ} (hr : zRo sh) {out : (zI × zJ)} (hE : E_Reader_readLine  μ ν = some out) : zC l D dA ad sh m_Reader_readLine 7 0 0 [.ref (ad 3), .ref (ad 19)] μ ν (zOv out) :=
  zC.of (by decide) (Nat.le_of_ble_eq_true rfl) (z_Reader_readLine_0 hr hE)
def e_Reader_readInto_88   (x2 : Int32) (x3 : Int32) (x4 : Int32) (s0 : Int32) (μ : zI) (ν : zJ) : Option (Int32 × zI × zJ) := some (s0, μ, ν)
theorem z_Reader_readInto_88 {l : Launch} {D : va_G} {dA : Nat → ClassId} {ad : Nat → Nat} {sh : List zSE}  (hr : zRo sh)  {x2 : Int32} {x3 : Int32} {x4 : Int32} {s0 : Int32} {μ : zI} {ν : zJ} {out : (Int32 × zI × zJ)} (hF : e_Reader_readInto_88   x2 x3 x4 s0 μ ν = some out) : Z l D dA ad sh m_Reader_readInto (zR 8 0 0) (zS ad) (zOi out) 0 0 0 0 [] 88 [(0, .ref (ad 3)), (1, .ref (ad 19)), (2, .int x2), (3, .int x3), (4, .int x4)] [.int s0] μ ν := by
  unfold e_Reader_readInto_88 at hF
  cases hF
  exact z_ireturn d_Reader_readInto_88 rfl rfl ⟨rfl, rfl, rfl⟩
def e_Reader_readInto_72   (x2 : Int32) (x3 : Int32) (x4 : Int32) (μ : zI) (ν : zJ) : Option (Int32 × zI × zJ) := Option.bind (E_Station_begin 19 μ ν) fun ty1 => (if (ty1.1 3 0) = 0 then e_Reader_readInto_88 x2 x3 x4 x3 ty1.1 ty1.2 else e_Reader_readInto_88 x2 x3 x4 (-1) ty1.1 ty1.2)
theorem z_Reader_readInto_72 {l : Launch} {D : va_G} {dA : Nat → ClassId} {ad : Nat → Nat} {sh : List zSE}  (hr : zRo sh)  {x2 : Int32} {x3 : Int32} {x4 : Int32} {μ : zI} {ν : zJ} {out : (Int32 × zI × zJ)} (hF : e_Reader_readInto_72   x2 x3 x4 μ ν = some out) : Z l D dA ad sh m_Reader_readInto (zR 8 0 0) (zS ad) (zOi out) 0 0 0 0 [] 72 [(0, .ref (ad 3)), (1, .ref (ad 19)), (2, .int x2), (3, .int x3), (4, .int x4)] [] μ ν := by
  unfold e_Reader_readInto_72 at hF
  refine z_aload_n d_Reader_readInto_72 1 rfl rfl ?_
  obtain ⟨ty1, hty1, hF⟩ := zh_bind hF
  refine z_callV d_Reader_readInto_73 (c_Station_begin (zRo_19 hr) hty1) mv_Station_begin l_Reader_46 (fun _ _ h => h) ((zRo_19 hr) 0 _ rfl) rfl rfl ⟨Nat.le_of_ble_eq_true rfl, Nat.le_of_ble_eq_true rfl⟩ ⟨Nat.le_of_ble_eq_true rfl, Nat.le_of_ble_eq_true rfl⟩ rfl (Nat.le_of_ble_eq_true rfl) (fun r μ' ν' hq => ?_)
  obtain ⟨rfl, rfl, rfl⟩ := hq
  show Z _ _ _ _ _ _ _ _ _ _ _ 0 0 _ _ _ [] _ _
  refine z_aload_n d_Reader_readInto_76 0 rfl rfl ?_
  refine z_get d_Reader_readInto_77 f_Reader_19 (hr 3 _ rfl) rfl ?_
  refine z_if_ne d_Reader_readInto_80 (tgt := 87) (by decide) (fun cy2 => ?_) (fun cy2 => ?_)
  · replace hF := zh_f cy2 hF
    refine z_iconst d_Reader_readInto_87 (v := (-1)) (by decide) ?_
    exact z_Reader_readInto_88 hr  hF
  · replace hF := zh_t cy2 hF
    refine z_iload_n d_Reader_readInto_83 3 rfl rfl ?_
    refine z_goto d_Reader_readInto_84 (tgt := 88) (by decide) ?_
    exact z_Reader_readInto_88 hr  hF
def f_Reader_readInto_38   : Nat → Int32 → Int32 → Int32 → zI → zJ → Option (Int32 × zI × zJ)
  | 0, _, _, _, _, _ => none
  | n + 1, x2, x3, x4, μ, ν => (if x2 < x4 then e_Reader_readInto_72 x2 x3 x4 μ ν else (if (μ 3 4) = 0 then e_Reader_readInto_72 x2 x3 x4 μ ν else (if (μ 3 0) = 0 then Option.bind (E_Reader_readLine μ ν) fun ty4 => (f_Reader_readInto_38  n) x2 (x3 + 1) (x4 + 1) ty4.1 ty4.2 else e_Reader_readInto_72 x2 x3 x4 μ ν)))
theorem z_Reader_readInto_38 {l : Launch} {D : va_G} {dA : Nat → ClassId} {ad : Nat → Nat} {sh : List zSE}  (hr : zRo sh)  {out : (Int32 × zI × zJ)} : ∀ (n : Nat) (x2 : Int32) (x3 : Int32) (x4 : Int32) (μ : zI) (ν : zJ), f_Reader_readInto_38   n x2 x3 x4 μ ν = some out → Z l D dA ad sh m_Reader_readInto (zR 8 0 0) (zS ad) (zOi out) 0 0 0 0 [] 38 [(0, .ref (ad 3)), (1, .ref (ad 19)), (2, .int x2), (3, .int x3), (4, .int x4)] [] μ ν := by
  intro n
  induction n with
  | zero => intro x2 x3 x4 μ ν hF; cases hF
  | succ n ih =>
    intro x2 x3 x4 μ ν hF
    dsimp only [f_Reader_readInto_38] at hF
    refine z_iload d_Reader_readInto_38 4 rfl ?_
    refine z_iload_n d_Reader_readInto_40 2 rfl rfl ?_
    refine z_icmp_gt d_Reader_readInto_41 (tgt := 72) (by decide) (fun cy1 => ?_) (fun cy1 => ?_)
    · replace hF := zh_t cy1 hF
      exact z_Reader_readInto_72 hr  hF
    · replace hF := zh_f cy1 hF
      refine z_aload_n d_Reader_readInto_44 0 rfl rfl ?_
      refine z_get d_Reader_readInto_45 f_Reader_39 (hr 3 _ rfl) rfl ?_
      refine z_if_eq d_Reader_readInto_48 (tgt := 72) (by decide) (fun cy2 => ?_) (fun cy2 => ?_)
      · replace hF := zh_t cy2 hF
        exact z_Reader_readInto_72 hr  hF
      · replace hF := zh_f cy2 hF
        refine z_aload_n d_Reader_readInto_51 0 rfl rfl ?_
        refine z_get d_Reader_readInto_52 f_Reader_19 (hr 3 _ rfl) rfl ?_
        refine z_if_ne d_Reader_readInto_55 (tgt := 72) (by decide) (fun cy3 => ?_) (fun cy3 => ?_)
        · replace hF := zh_f cy3 hF
          exact z_Reader_readInto_72 hr  hF
        · replace hF := zh_t cy3 hF
          refine z_aload_n d_Reader_readInto_58 0 rfl rfl ?_
          refine z_aload_n d_Reader_readInto_59 1 rfl rfl ?_
          obtain ⟨ty4, hty4, hF⟩ := zh_bind hF
          refine z_callV d_Reader_readInto_60 (c_Reader_readLine hr hty4) mv_Reader_readLine l_Reader_42 (fun _ _ h => h) (hr 3 _ rfl) rfl rfl ⟨Nat.le_of_ble_eq_true rfl, Nat.le_of_ble_eq_true rfl⟩ ⟨Nat.le_of_ble_eq_true rfl, Nat.le_of_ble_eq_true rfl⟩ rfl (Nat.le_of_ble_eq_true rfl) (fun r μ' ν' hq => ?_)
          obtain ⟨rfl, rfl, rfl⟩ := hq
          show Z _ _ _ _ _ _ _ _ _ _ _ 0 0 _ _ _ [] _ _
          refine z_iinc d_Reader_readInto_63 (k := 3) (v := (x3 + 1)) rfl rfl (by decide) (L2 := [(3, .int (x3 + 1)), (0, .ref (ad 3)), (1, .ref (ad 19)), (2, .int x2), (4, .int x4)]) rfl ?_
          refine z_iinc d_Reader_readInto_66 (k := 4) (v := (x4 + 1)) rfl rfl (by decide) (L2 := [(4, .int (x4 + 1)), (3, .int (x3 + 1)), (0, .ref (ad 3)), (1, .ref (ad 19)), (2, .int x2)]) rfl ?_
          refine z_goto d_Reader_readInto_69 (tgt := 38) (by decide) ?_
          refine z_sub [2, 3, 4, 1, 0] (L' := [(0, .ref (ad 3)), (1, .ref (ad 19)), (2, .int x2), (3, .int (x3 + 1)), (4, .int (x4 + 1))]) rfl ?_
          exact ih _ _ _ _ _ hF
def e_Reader_readInto_0   (x2 : Int32) (μ : zI) (ν : zJ) : Option (Int32 × zI × zJ) := zlet (zu μ 3 0 0) fun μy1 => zlet (zu μy1 3 1 (-1)) fun μy2 => zlet (zu μy2 3 3 x2) fun μy3 => zlet (zu μy3 3 6 0) fun μy4 => zlet (zu μy4 3 7 0) fun μy5 => Option.bind (E_Station_renew 19 μy5 ν) fun ty6 => Option.bind (E_Reader_nextToken ty6.1 ty6.2) fun ty7 => f_Reader_readInto_38 zFuel x2 0 0 ty7.1 ty7.2
theorem z_Reader_readInto_0 {l : Launch} {D : va_G} {dA : Nat → ClassId} {ad : Nat → Nat} {sh : List zSE}  (hr : zRo sh)  {x2 : Int32} {μ : zI} {ν : zJ} {out : (Int32 × zI × zJ)} (hF : e_Reader_readInto_0   x2 μ ν = some out) : Z l D dA ad sh m_Reader_readInto (zR 8 0 0) (zS ad) (zOi out) 0 0 0 0 [] 0 [(0, .ref (ad 3)), (1, .ref (ad 19)), (2, .int x2)] [] μ ν := by
  unfold e_Reader_readInto_0 at hF
  refine z_aload_n d_Reader_readInto_0 0 rfl rfl ?_
  refine z_iconst d_Reader_readInto_1 (v := 0) (by decide) ?_
  refine z_put d_Reader_readInto_2 f_Reader_19 (hr 3 _ rfl) rfl (CL_fin _ _ (fun q hq => by cases hq; rfl)) rfl rfl ?_
  obtain ⟨μy1, hy1, hF⟩ := zh_let hF
  refine z_eqm hy1 ?_
  refine z_aload_n d_Reader_readInto_5 0 rfl rfl ?_
  refine z_iconst d_Reader_readInto_6 (v := (-1)) (by decide) ?_
  refine z_put d_Reader_readInto_7 f_Reader_15 (hr 3 _ rfl) rfl (CL_fin _ _ (fun q hq => by cases hq; rfl)) rfl rfl ?_
  obtain ⟨μy2, hy2, hF⟩ := zh_let hF
  refine z_eqm hy2 ?_
  refine z_aload_n d_Reader_readInto_10 0 rfl rfl ?_
  refine z_iload_n d_Reader_readInto_11 2 rfl rfl ?_
  refine z_put d_Reader_readInto_12 f_Reader_22 (hr 3 _ rfl) rfl (CL_fin _ _ (fun q hq => by cases hq; rfl)) rfl rfl ?_
  obtain ⟨μy3, hy3, hF⟩ := zh_let hF
  refine z_eqm hy3 ?_
  refine z_aload_n d_Reader_readInto_15 0 rfl rfl ?_
  refine z_iconst d_Reader_readInto_16 (v := 0) (by decide) ?_
  refine z_put d_Reader_readInto_17 f_Reader_25 (hr 3 _ rfl) rfl (CL_fin _ _ (fun q hq => by cases hq; rfl)) rfl rfl ?_
  obtain ⟨μy4, hy4, hF⟩ := zh_let hF
  refine z_eqm hy4 ?_
  refine z_aload_n d_Reader_readInto_20 0 rfl rfl ?_
  refine z_iconst d_Reader_readInto_21 (v := 0) (by decide) ?_
  refine z_put d_Reader_readInto_22 f_Reader_28 (hr 3 _ rfl) rfl (CL_fin _ _ (fun q hq => by cases hq; rfl)) rfl rfl ?_
  obtain ⟨μy5, hy5, hF⟩ := zh_let hF
  refine z_eqm hy5 ?_
  refine z_aload_n d_Reader_readInto_25 1 rfl rfl ?_
  obtain ⟨ty6, hty6, hF⟩ := zh_bind hF
  refine z_callV d_Reader_readInto_26 (c_Station_renew (zRo_19 hr) hty6) mv_Station_renew l_Reader_31 (fun _ _ h => h) ((zRo_19 hr) 0 _ rfl) rfl rfl ⟨Nat.le_of_ble_eq_true rfl, Nat.le_of_ble_eq_true rfl⟩ ⟨Nat.le_of_ble_eq_true rfl, Nat.le_of_ble_eq_true rfl⟩ rfl (Nat.le_of_ble_eq_true rfl) (fun r μ' ν' hq => ?_)
  obtain ⟨rfl, rfl, rfl⟩ := hq
  show Z _ _ _ _ _ _ _ _ _ _ _ 0 0 _ _ _ [] _ _
  refine z_aload_n d_Reader_readInto_29 0 rfl rfl ?_
  obtain ⟨ty7, hty7, hF⟩ := zh_bind hF
  refine z_callV d_Reader_readInto_30 (c_Reader_nextToken hr hty7) mv_Reader_nextToken l_Reader_36 (fun _ _ h => h) (hr 3 _ rfl) rfl rfl ⟨Nat.le_of_ble_eq_true rfl, Nat.le_of_ble_eq_true rfl⟩ ⟨Nat.le_of_ble_eq_true rfl, Nat.le_of_ble_eq_true rfl⟩ rfl (Nat.le_of_ble_eq_true rfl) (fun r μ' ν' hq => ?_)
  obtain ⟨rfl, rfl, rfl⟩ := hq
  show Z _ _ _ _ _ _ _ _ _ _ _ 0 0 _ _ _ [] _ _
  refine z_iconst d_Reader_readInto_33 (v := 0) (by decide) ?_
  refine z_istore_n d_Reader_readInto_34 rfl (by decide) (L2 := [(3, .int 0), (0, .ref (ad 3)), (1, .ref (ad 19)), (2, .int x2)]) rfl ?_
  refine z_iconst d_Reader_readInto_35 (v := 0) (by decide) ?_
  refine z_istore d_Reader_readInto_36 (by decide) (L2 := [(4, .int 0), (3, .int 0), (0, .ref (ad 3)), (1, .ref (ad 19)), (2, .int x2)]) rfl ?_
  refine z_sub [2, 3, 4, 1, 0] (L' := [(0, .ref (ad 3)), (1, .ref (ad 19)), (2, .int x2), (3, .int 0), (4, .int 0)]) rfl ?_
  exact z_Reader_readInto_38 hr  zFuel _ _ _ _ _ hF
def E_Reader_readInto  (x2 : Int32) (μ : zI) (ν : zJ) : Option (Int32 × zI × zJ) := e_Reader_readInto_0 x2 μ ν
theorem c_Reader_readInto {l : Launch} {D : va_G} {dA : Nat → ClassId} {ad : Nat → Nat} {sh : List zSE} {μ : zI} {ν : zJ} {x2 : Int32} (hr : zRo sh) {out : (Int32 × zI × zJ)} (hE : E_Reader_readInto x2 μ ν = some out) : zC l D dA ad sh m_Reader_readInto 8 0 0 [.ref (ad 3), .ref (ad 19), .int x2] μ ν (zOi out) :=
  zC.of (by decide) (Nat.le_of_ble_eq_true rfl) (z_Reader_readInto_0 hr hE)
def e_S_text_0   (x1 : Int32) (μ : zI) (ν : zJ) : Option (Int32 × zI × zJ) := Option.bind (E_S_isWithin x1 0 (μ 1 1) μ ν) fun ty1 => (if ty1.1 = 0 then some ((-2), ty1.2.1, ty1.2.2) else Option.bind (E_Reader_readInto x1 ty1.2.1 ty1.2.2) fun ty3 => zlet (α := Int32) ty3.1 fun y4 => zlet (zu ty3.2.1 1 1 0) fun μy5 => (if y4 = (-1) then some ((-1), μy5, ty3.2.2) else Option.bind (E_Station_copyFrom 4 19 μy5 ty3.2.2) fun ty7 => zlet (zu ty7.1 34 0 0) fun μy8 => some (y4, μy8, ty7.2)))
theorem z_S_text_0 {l : Launch} {D : va_G} {dA : Nat → ClassId} {ad : Nat → Nat} {sh : List zSE}  (hr : zRo sh)  {x1 : Int32} {μ : zI} {ν : zJ} {out : (Int32 × zI × zJ)} (hF : e_S_text_0   x1 μ ν = some out) : Z l D dA ad sh m_S_text (zR 9 0 0) (zS ad) (zOi out) 0 0 0 0 [] 0 [(0, .ref (ad 0)), (1, .int x1)] [] μ ν := by
  unfold e_S_text_0 at hF
  refine z_iload_n d_S_text_0 1 rfl rfl ?_
  refine z_iconst d_S_text_1 (v := 0) (by decide) ?_
  refine z_aload_n d_S_text_2 0 rfl rfl ?_
  refine z_getr d_S_text_3 (q := 1) f_S_12 (hr 0 _ rfl) rfl ?_
  refine z_get d_S_text_6 f_S_50 (hr 1 _ rfl) rfl ?_
  obtain ⟨ty1, hty1, hF⟩ := zh_bind hF
  refine z_callS d_S_text_9 (c_S_isWithin  hty1) ms_S_isWithin l_S_54 (fun _ _ h => h) rfl ⟨Nat.le_of_ble_eq_true rfl, Nat.le_of_ble_eq_true rfl⟩ ⟨Nat.le_of_ble_eq_true rfl, Nat.le_of_ble_eq_true rfl⟩ rfl (Nat.le_of_ble_eq_true rfl) (fun r μ' ν' hq => ?_)
  obtain ⟨rfl, rfl, rfl⟩ := hq
  show Z _ _ _ _ _ _ _ _ _ _ _ 0 0 _ _ _ [.int ty1.1] _ _
  refine z_if_ne d_S_text_12 (tgt := 18) (by decide) (fun cy2 => ?_) (fun cy2 => ?_)
  · replace hF := zh_f cy2 hF
    refine z_aload_n d_S_text_18 0 rfl rfl ?_
    refine z_getr d_S_text_19 (q := 3) f_S_21 (hr 0 _ rfl) rfl ?_
    refine z_aload_n d_S_text_22 0 rfl rfl ?_
    refine z_getr d_S_text_23 (q := 19) f_S_32 (hr 0 _ rfl) rfl ?_
    refine z_iload_n d_S_text_26 1 rfl rfl ?_
    obtain ⟨ty3, hty3, hF⟩ := zh_bind hF
    refine z_callV d_S_text_27 (c_Reader_readInto hr hty3) mv_Reader_readInto l_S_58 (fun _ _ h => h) (hr 3 _ rfl) rfl rfl ⟨Nat.le_of_ble_eq_true rfl, Nat.le_of_ble_eq_true rfl⟩ ⟨Nat.le_of_ble_eq_true rfl, Nat.le_of_ble_eq_true rfl⟩ rfl (Nat.le_of_ble_eq_true rfl) (fun r μ' ν' hq => ?_)
    obtain ⟨rfl, rfl, rfl⟩ := hq
    show Z _ _ _ _ _ _ _ _ _ _ _ 0 0 _ _ _ [.int ty3.1] _ _
    obtain ⟨y4, hy4, hF⟩ := zh_let hF
    refine z_eqi hy4 ?_
    refine z_istore_n d_S_text_30 rfl (by decide) (L2 := [(2, .int y4), (0, .ref (ad 0)), (1, .int x1)]) rfl ?_
    refine z_aload_n d_S_text_31 1 rfl rfl ?_
    refine z_getr d_S_text_32 (q := 1) f_S_12 (hr 0 _ rfl) rfl ?_
    refine z_iconst d_S_text_35 (v := 0) (by decide) ?_
    refine z_put d_S_text_36 f_S_50 (hr 1 _ rfl) rfl (CL_fin _ _ (fun q hq => by cases hq; rfl)) rfl rfl ?_
    obtain ⟨μy5, hy5, hF⟩ := zh_let hF
    refine z_eqm hy5 ?_
    refine z_iload_n d_S_text_39 0 rfl rfl ?_
    refine z_iconst d_S_text_40 (v := (-1)) (by decide) ?_
    refine z_icmp_ne d_S_text_41 (tgt := 46) (by decide) (fun cy6 => ?_) (fun cy6 => ?_)
    · replace hF := zh_f cy6 hF
      refine z_aload_n d_S_text_46 1 rfl rfl ?_
      refine z_getr d_S_text_47 (q := 4) f_S_28 (hr 0 _ rfl) rfl ?_
      refine z_aload_n d_S_text_50 1 rfl rfl ?_
      refine z_getr d_S_text_51 (q := 19) f_S_32 (hr 0 _ rfl) rfl ?_
      obtain ⟨ty7, hty7, hF⟩ := zh_bind hF
      refine z_callV d_S_text_54 (c_Station_copyFrom (zRo_4 hr) (zRo_19 hr) hty7) mv_Station_copyFrom l_S_62 (fun _ _ h => h) ((zRo_4 hr) 0 _ rfl) rfl rfl ⟨Nat.le_of_ble_eq_true rfl, Nat.le_of_ble_eq_true rfl⟩ ⟨Nat.le_of_ble_eq_true rfl, Nat.le_of_ble_eq_true rfl⟩ rfl (Nat.le_of_ble_eq_true rfl) (fun r μ' ν' hq => ?_)
      obtain ⟨rfl, rfl, rfl⟩ := hq
      show Z _ _ _ _ _ _ _ _ _ _ _ 0 0 _ _ _ [] _ _
      refine z_aload_n d_S_text_57 1 rfl rfl ?_
      refine z_getr d_S_text_58 (q := 34) f_S_38 (hr 0 _ rfl) rfl ?_
      refine z_iconst d_S_text_61 (v := 0) (by decide) ?_
      refine z_put d_S_text_62 f_S_66 (hr 34 _ rfl) rfl (CL_fin _ _ (fun q hq => by cases hq; rfl)) rfl rfl ?_
      obtain ⟨μy8, hy8, hF⟩ := zh_let hF
      refine z_eqm hy8 ?_
      refine z_iload_n d_S_text_65 0 rfl rfl ?_
      cases hF
      exact z_ireturn d_S_text_66 rfl rfl ⟨rfl, rfl, rfl⟩
    · replace hF := zh_t cy6 hF
      refine z_iconst d_S_text_44 (v := (-1)) (by decide) ?_
      cases hF
      exact z_ireturn d_S_text_45 rfl rfl ⟨rfl, rfl, rfl⟩
  · replace hF := zh_t cy2 hF
    refine z_bipush d_S_text_15 (v := (-2)) (by decide) ?_
    cases hF
    exact z_ireturn d_S_text_17 rfl rfl ⟨rfl, rfl, rfl⟩
def E_S_text  (x1 : Int32) (μ : zI) (ν : zJ) : Option (Int32 × zI × zJ) := e_S_text_0 x1 μ ν
theorem c_S_text {l : Launch} {D : va_G} {dA : Nat → ClassId} {ad : Nat → Nat} {sh : List zSE} {μ : zI} {ν : zJ} {x1 : Int32} (hr : zRo sh) {out : (Int32 × zI × zJ)} (hE : E_S_text x1 μ ν = some out) : zC l D dA ad sh m_S_text 9 0 0 [.ref (ad 0), .int x1] μ ν (zOi out) :=
  zC.of (by decide) (Nat.le_of_ble_eq_true rfl) (z_S_text_0 hr hE)
