def e_S_feed_0   (x1 : Int32) (x2 : Int32) (x3 : Int32) (x4 : Int32) (x5 : Int32) (μ : zI) (ν : zJ) : Option (Int32 × zI × zJ) := Option.bind (E_Tape_hasRoomFor 20 μ ν) fun ty1 => (if ty1.1 = 0 then some ((-1), ty1.2.1, ty1.2.2) else Option.bind (E_Tape_addNumber x1 ty1.2.1 ty1.2.2) fun ty3 => Option.bind (E_Tape_addNumber x2 ty3.1 ty3.2) fun ty4 => Option.bind (E_Tape_addNumber x3 ty4.1 ty4.2) fun ty5 => Option.bind (E_Tape_addNumber x4 ty5.1 ty5.2) fun ty6 => Option.bind (E_Tape_addNumber x5 ty6.1 ty6.2) fun ty7 => some ((ty7.1 1 1), ty7.1, ty7.2))
theorem z_S_feed_0 {l : Launch} {D : va_G} {dA : Nat → ClassId} {ad : Nat → Nat} {sh : List zSE}  (hr : zRo sh)  {x1 : Int32} {x2 : Int32} {x3 : Int32} {x4 : Int32} {x5 : Int32} {μ : zI} {ν : zJ} {out : (Int32 × zI × zJ)} (hF : e_S_feed_0   x1 x2 x3 x4 x5 μ ν = some out) : Z l D dA ad sh m_S_feed (zR 1 0 0) (zS ad) (zOi out) 0 0 0 0 [] 0 [(0, .ref (ad 0)), (1, .int x1), (2, .int x2), (3, .int x3), (4, .int x4), (5, .int x5)] [] μ ν := by
  unfold e_S_feed_0 at hF
  refine z_aload_n d_S_feed_0 0 rfl rfl ?_
  refine z_getr d_S_feed_1 (q := 1) f_S_12 (hr 0 _ rfl) rfl ?_
  refine z_bipush d_S_feed_4 (v := 20) (by decide) ?_
  obtain ⟨ty1, hty1, hF⟩ := zh_bind hF
  refine z_callV d_S_feed_6 (c_Tape_hasRoomFor hr hty1) mv_Tape_hasRoomFor l_S_42 (fun _ _ h => h) (hr 1 _ rfl) rfl rfl ⟨Nat.le_of_ble_eq_true rfl, Nat.le_of_ble_eq_true rfl⟩ ⟨Nat.le_of_ble_eq_true rfl, Nat.le_of_ble_eq_true rfl⟩ rfl (Nat.le_of_ble_eq_true rfl) (fun r μ' ν' hq => ?_)
  obtain ⟨rfl, rfl, rfl⟩ := hq
  show Z _ _ _ _ _ _ _ _ _ _ _ 0 0 _ _ _ [.int ty1.1] _ _
  refine z_if_ne d_S_feed_9 (tgt := 14) (by decide) (fun cy2 => ?_) (fun cy2 => ?_)
  · replace hF := zh_f cy2 hF
    refine z_aload_n d_S_feed_14 0 rfl rfl ?_
    refine z_getr d_S_feed_15 (q := 1) f_S_12 (hr 0 _ rfl) rfl ?_
    refine z_iload_n d_S_feed_18 1 rfl rfl ?_
    obtain ⟨ty3, hty3, hF⟩ := zh_bind hF
    refine z_callV d_S_feed_19 (c_Tape_addNumber hr hty3) mv_Tape_addNumber l_S_46 (fun _ _ h => h) (hr 1 _ rfl) rfl rfl ⟨Nat.le_of_ble_eq_true rfl, Nat.le_of_ble_eq_true rfl⟩ ⟨Nat.le_of_ble_eq_true rfl, Nat.le_of_ble_eq_true rfl⟩ rfl (Nat.le_of_ble_eq_true rfl) (fun r μ' ν' hq => ?_)
    obtain ⟨rfl, rfl, rfl⟩ := hq
    show Z _ _ _ _ _ _ _ _ _ _ _ 0 0 _ _ _ [] _ _
    refine z_aload_n d_S_feed_22 0 rfl rfl ?_
    refine z_getr d_S_feed_23 (q := 1) f_S_12 (hr 0 _ rfl) rfl ?_
    refine z_iload_n d_S_feed_26 2 rfl rfl ?_
    obtain ⟨ty4, hty4, hF⟩ := zh_bind hF
    refine z_callV d_S_feed_27 (c_Tape_addNumber hr hty4) mv_Tape_addNumber l_S_46 (fun _ _ h => h) (hr 1 _ rfl) rfl rfl ⟨Nat.le_of_ble_eq_true rfl, Nat.le_of_ble_eq_true rfl⟩ ⟨Nat.le_of_ble_eq_true rfl, Nat.le_of_ble_eq_true rfl⟩ rfl (Nat.le_of_ble_eq_true rfl) (fun r μ' ν' hq => ?_)
    obtain ⟨rfl, rfl, rfl⟩ := hq
    show Z _ _ _ _ _ _ _ _ _ _ _ 0 0 _ _ _ [] _ _
    refine z_aload_n d_S_feed_30 0 rfl rfl ?_
    refine z_getr d_S_feed_31 (q := 1) f_S_12 (hr 0 _ rfl) rfl ?_
    refine z_iload_n d_S_feed_34 3 rfl rfl ?_
    obtain ⟨ty5, hty5, hF⟩ := zh_bind hF
    refine z_callV d_S_feed_35 (c_Tape_addNumber hr hty5) mv_Tape_addNumber l_S_46 (fun _ _ h => h) (hr 1 _ rfl) rfl rfl ⟨Nat.le_of_ble_eq_true rfl, Nat.le_of_ble_eq_true rfl⟩ ⟨Nat.le_of_ble_eq_true rfl, Nat.le_of_ble_eq_true rfl⟩ rfl (Nat.le_of_ble_eq_true rfl) (fun r μ' ν' hq => ?_)
    obtain ⟨rfl, rfl, rfl⟩ := hq
    show Z _ _ _ _ _ _ _ _ _ _ _ 0 0 _ _ _ [] _ _
    refine z_aload_n d_S_feed_38 0 rfl rfl ?_
    refine z_getr d_S_feed_39 (q := 1) f_S_12 (hr 0 _ rfl) rfl ?_
    refine z_iload d_S_feed_42 4 rfl ?_
    obtain ⟨ty6, hty6, hF⟩ := zh_bind hF
    refine z_callV d_S_feed_44 (c_Tape_addNumber hr hty6) mv_Tape_addNumber l_S_46 (fun _ _ h => h) (hr 1 _ rfl) rfl rfl ⟨Nat.le_of_ble_eq_true rfl, Nat.le_of_ble_eq_true rfl⟩ ⟨Nat.le_of_ble_eq_true rfl, Nat.le_of_ble_eq_true rfl⟩ rfl (Nat.le_of_ble_eq_true rfl) (fun r μ' ν' hq => ?_)
    obtain ⟨rfl, rfl, rfl⟩ := hq
    show Z _ _ _ _ _ _ _ _ _ _ _ 0 0 _ _ _ [] _ _
    refine z_aload_n d_S_feed_47 0 rfl rfl ?_
    refine z_getr d_S_feed_48 (q := 1) f_S_12 (hr 0 _ rfl) rfl ?_
    refine z_iload d_S_feed_51 5 rfl ?_
    obtain ⟨ty7, hty7, hF⟩ := zh_bind hF
    refine z_callV d_S_feed_53 (c_Tape_addNumber hr hty7) mv_Tape_addNumber l_S_46 (fun _ _ h => h) (hr 1 _ rfl) rfl rfl ⟨Nat.le_of_ble_eq_true rfl, Nat.le_of_ble_eq_true rfl⟩ ⟨Nat.le_of_ble_eq_true rfl, Nat.le_of_ble_eq_true rfl⟩ rfl (Nat.le_of_ble_eq_true rfl) (fun r μ' ν' hq => ?_)
    obtain ⟨rfl, rfl, rfl⟩ := hq
    show Z _ _ _ _ _ _ _ _ _ _ _ 0 0 _ _ _ [] _ _
    refine z_aload_n d_S_feed_56 0 rfl rfl ?_
    refine z_getr d_S_feed_57 (q := 1) f_S_12 (hr 0 _ rfl) rfl ?_
    refine z_get d_S_feed_60 f_S_50 (hr 1 _ rfl) rfl ?_
    cases hF
    exact z_ireturn d_S_feed_63 rfl rfl ⟨rfl, rfl, rfl⟩
  · replace hF := zh_t cy2 hF
    refine z_iconst d_S_feed_12 (v := (-1)) (by decide) ?_
    cases hF
    exact z_ireturn d_S_feed_13 rfl rfl ⟨rfl, rfl, rfl⟩
def E_S_feed  (x1 : Int32) (x2 : Int32) (x3 : Int32) (x4 : Int32) (x5 : Int32) (μ : zI) (ν : zJ) : Option (Int32 × zI × zJ) := e_S_feed_0 x1 x2 x3 x4 x5 μ ν
theorem c_S_feed {l : Launch} {D : va_G} {dA : Nat → ClassId} {ad : Nat → Nat} {sh : List zSE} {μ : zI} {ν : zJ} {x1 : Int32} {x2 : Int32} {x3 : Int32} {x4 : Int32} {x5 : Int32} (hr : zRo sh) {out : (Int32 × zI × zJ)} (hE : E_S_feed x1 x2 x3 x4 x5 μ ν = some out) : zC l D dA ad sh m_S_feed 1 0 0 [.ref (ad 0), .int x1, .int x2, .int x3, .int x4, .int x5] μ ν (zOi out) :=
  zC.of (by decide) (Nat.le_of_ble_eq_true rfl) (z_S_feed_0 hr hE)
def e_S_isWithin_15   (x0 : Int32) (x1 : Int32) (x2 : Int32) (s0 : Int32) (μ : zI) (ν : zJ) : Option (Int32 × zI × zJ) := (if zb s0 = true then some (s0, μ, ν) else none)
theorem z_S_isWithin_15 {l : Launch} {D : va_G} {dA : Nat → ClassId} {ad : Nat → Nat} {sh : List zSE}    {x0 : Int32} {x1 : Int32} {x2 : Int32} {s0 : Int32} {μ : zI} {ν : zJ} {out : (Int32 × zI × zJ)} (hF : e_S_isWithin_15   x0 x1 x2 s0 μ ν = some out) : Z l D dA ad sh m_S_isWithin (zR 0 0 0) (zS ad) (zOi out) 0 0 0 0 [] 15 [(0, .int x0), (1, .int x1), (2, .int x2)] [.int s0] μ ν := by
  unfold e_S_isWithin_15 at hF
  obtain ⟨hy1, hF⟩ := zh_if hF
  cases hF
  exact z_ireturn d_S_isWithin_15 rfl (zb_n hy1) ⟨rfl, rfl, rfl⟩
def e_S_isWithin_14   (x0 : Int32) (x1 : Int32) (x2 : Int32) (μ : zI) (ν : zJ) : Option (Int32 × zI × zJ) := e_S_isWithin_15 x0 x1 x2 0 μ ν
theorem z_S_isWithin_14 {l : Launch} {D : va_G} {dA : Nat → ClassId} {ad : Nat → Nat} {sh : List zSE}    {x0 : Int32} {x1 : Int32} {x2 : Int32} {μ : zI} {ν : zJ} {out : (Int32 × zI × zJ)} (hF : e_S_isWithin_14   x0 x1 x2 μ ν = some out) : Z l D dA ad sh m_S_isWithin (zR 0 0 0) (zS ad) (zOi out) 0 0 0 0 [] 14 [(0, .int x0), (1, .int x1), (2, .int x2)] [] μ ν := by
  unfold e_S_isWithin_14 at hF
  refine z_iconst d_S_isWithin_14 (v := 0) (by decide) ?_
  exact z_S_isWithin_15   hF
def e_S_isWithin_0   (x0 : Int32) (x1 : Int32) (x2 : Int32) (μ : zI) (ν : zJ) : Option (Int32 × zI × zJ) := (if x0 < x1 then e_S_isWithin_14 x0 x1 x2 μ ν else (if x2 < x0 then e_S_isWithin_14 x0 x1 x2 μ ν else e_S_isWithin_15 x0 x1 x2 1 μ ν))
theorem z_S_isWithin_0 {l : Launch} {D : va_G} {dA : Nat → ClassId} {ad : Nat → Nat} {sh : List zSE}    {x0 : Int32} {x1 : Int32} {x2 : Int32} {μ : zI} {ν : zJ} {out : (Int32 × zI × zJ)} (hF : e_S_isWithin_0   x0 x1 x2 μ ν = some out) : Z l D dA ad sh m_S_isWithin (zR 0 0 0) (zS ad) (zOi out) 0 0 0 0 [] 0 [(0, .int x0), (1, .int x1), (2, .int x2)] [] μ ν := by
  unfold e_S_isWithin_0 at hF
  refine z_iload_n d_S_isWithin_0 0 rfl rfl ?_
  refine z_iload_n d_S_isWithin_1 1 rfl rfl ?_
  refine z_icmp_lt d_S_isWithin_2 (tgt := 14) (by decide) (fun cy1 => ?_) (fun cy1 => ?_)
  · replace hF := zh_t cy1 hF
    exact z_S_isWithin_14   hF
  · replace hF := zh_f cy1 hF
    refine z_iload_n d_S_isWithin_5 0 rfl rfl ?_
    refine z_iload_n d_S_isWithin_6 2 rfl rfl ?_
    refine z_icmp_gt d_S_isWithin_7 (tgt := 14) (by decide) (fun cy2 => ?_) (fun cy2 => ?_)
    · replace hF := zh_t cy2 hF
      exact z_S_isWithin_14   hF
    · replace hF := zh_f cy2 hF
      refine z_iconst d_S_isWithin_10 (v := 1) (by decide) ?_
      refine z_goto d_S_isWithin_11 (tgt := 15) (by decide) ?_
      exact z_S_isWithin_15   hF
def E_S_isWithin  (x0 : Int32) (x1 : Int32) (x2 : Int32) (μ : zI) (ν : zJ) : Option (Int32 × zI × zJ) := e_S_isWithin_0 x0 x1 x2 μ ν
theorem c_S_isWithin {l : Launch} {D : va_G} {dA : Nat → ClassId} {ad : Nat → Nat} {sh : List zSE} {μ : zI} {ν : zJ} {x0 : Int32} {x1 : Int32} {x2 : Int32}  {out : (Int32 × zI × zJ)} (hE : E_S_isWithin x0 x1 x2 μ ν = some out) : zC l D dA ad sh m_S_isWithin 0 0 0 [.int x0, .int x1, .int x2] μ ν (zOi out) :=
  zC.of (by decide) (Nat.le_of_ble_eq_true rfl) (z_S_isWithin_0  hE)
def e_S_fault_0   (x1 : Int32) (μ : zI) (ν : zJ) : Option (Int32 × zI × zJ) := (if x1 = 0 then some ((μ 3 0), μ, ν) else (if x1 = 1 then some ((μ 3 1), μ, ν) else some ((-1), μ, ν)))
theorem z_S_fault_0 {l : Launch} {D : va_G} {dA : Nat → ClassId} {ad : Nat → Nat} {sh : List zSE}  (hr : zRo sh)  {x1 : Int32} {μ : zI} {ν : zJ} {out : (Int32 × zI × zJ)} (hF : e_S_fault_0   x1 μ ν = some out) : Z l D dA ad sh m_S_fault (zR 0 0 0) (zS ad) (zOi out) 0 0 0 0 [] 0 [(0, .ref (ad 0)), (1, .int x1)] [] μ ν := by
  unfold e_S_fault_0 at hF
  refine z_iload_n d_S_fault_0 1 rfl rfl ?_
  by_cases cy1 : x1 = 0
  · replace hF := zh_t cy1 hF
    refine z_lookup d_S_fault_1 (tgt := 28) (off := 27) (by decide) (by rw [cy1]; decide) (by decide) ?_
    refine z_aload_n d_S_fault_28 0 rfl rfl ?_
    refine z_getr d_S_fault_29 (q := 3) f_S_21 (hr 0 _ rfl) rfl ?_
    refine z_get d_S_fault_32 f_S_69 (hr 3 _ rfl) rfl ?_
    cases hF
    exact z_ireturn d_S_fault_35 rfl rfl ⟨rfl, rfl, rfl⟩
  · replace hF := zh_f cy1 hF
    by_cases cy2 : x1 = 1
    · replace hF := zh_t cy2 hF
      refine z_lookup d_S_fault_1 (tgt := 36) (off := 35) (by decide) (by rw [cy2]; decide) (by decide) ?_
      refine z_aload_n d_S_fault_36 0 rfl rfl ?_
      refine z_getr d_S_fault_37 (q := 3) f_S_21 (hr 0 _ rfl) rfl ?_
      refine z_get d_S_fault_40 f_S_72 (hr 3 _ rfl) rfl ?_
      cases hF
      exact z_ireturn d_S_fault_43 rfl rfl ⟨rfl, rfl, rfl⟩
    · replace hF := zh_f cy2 hF
      refine z_lookup d_S_fault_1 (tgt := 44) (off := 43) (by decide) (by show Op.lookupswitch.offset [(0, 27), (1, 35)] 43 _ = _; rw [lv_osw (k := 0) (a := 0) cy1 (by decide), lv_osw (k := 1) (a := 1) cy2 (by decide)]; rfl) (by decide) ?_
      refine z_iconst d_S_fault_44 (v := (-1)) (by decide) ?_
      cases hF
      exact z_ireturn d_S_fault_45 rfl rfl ⟨rfl, rfl, rfl⟩
def E_S_fault  (x1 : Int32) (μ : zI) (ν : zJ) : Option (Int32 × zI × zJ) := e_S_fault_0 x1 μ ν
theorem c_S_fault {l : Launch} {D : va_G} {dA : Nat → ClassId} {ad : Nat → Nat} {sh : List zSE} {μ : zI} {ν : zJ} {x1 : Int32} (hr : zRo sh) {out : (Int32 × zI × zJ)} (hE : E_S_fault x1 μ ν = some out) : zC l D dA ad sh m_S_fault 0 0 0 [.ref (ad 0), .int x1] μ ν (zOi out) :=
  zC.of (by decide) (Nat.le_of_ble_eq_true rfl) (z_S_fault_0 hr hE)
def e_S_hasModules_18   (s0 : Int32) (μ : zI) (ν : zJ) : Option (Int32 × zI × zJ) := (if zb s0 = true then some (s0, μ, ν) else none)
theorem z_S_hasModules_18 {l : Launch} {D : va_G} {dA : Nat → ClassId} {ad : Nat → Nat} {sh : List zSE}  (hr : zRo sh)  {s0 : Int32} {μ : zI} {ν : zJ} {out : (Int32 × zI × zJ)} (hF : e_S_hasModules_18   s0 μ ν = some out) : Z l D dA ad sh m_S_hasModules (zR 0 0 0) (zS ad) (zOi out) 0 0 0 0 [] 18 [(0, .ref (ad 0))] [.int s0] μ ν := by
  unfold e_S_hasModules_18 at hF
  obtain ⟨hy1, hF⟩ := zh_if hF
  cases hF
  exact z_ireturn d_S_hasModules_18 rfl (zb_n hy1) ⟨rfl, rfl, rfl⟩
def e_S_hasModules_0    (μ : zI) (ν : zJ) : Option (Int32 × zI × zJ) := (if (μ (4 + 3) 0) ≤ 0 then e_S_hasModules_18 0 μ ν else e_S_hasModules_18 1 μ ν)
theorem z_S_hasModules_0 {l : Launch} {D : va_G} {dA : Nat → ClassId} {ad : Nat → Nat} {sh : List zSE}  (hr : zRo sh)   {μ : zI} {ν : zJ} {out : (Int32 × zI × zJ)} (hF : e_S_hasModules_0    μ ν = some out) : Z l D dA ad sh m_S_hasModules (zR 0 0 0) (zS ad) (zOi out) 0 0 0 0 [] 0 [(0, .ref (ad 0))] [] μ ν := by
  unfold e_S_hasModules_0 at hF
  refine z_aload_n d_S_hasModules_0 0 rfl rfl ?_
  refine z_getr d_S_hasModules_1 (q := 4) f_S_28 (hr 0 _ rfl) rfl ?_
  refine z_getr d_S_hasModules_4 (q := (4 + 3)) f_S_100 ((zRo_4 hr) 0 _ rfl) rfl ?_
  refine z_get d_S_hasModules_7 f_S_207 ((zRo_4 hr) 3 _ rfl) rfl ?_
  refine z_if_le d_S_hasModules_10 (tgt := 17) (by decide) (fun cy1 => ?_) (fun cy1 => ?_)
  · replace hF := zh_t cy1 hF
    refine z_iconst d_S_hasModules_17 (v := 0) (by decide) ?_
    exact z_S_hasModules_18 hr  hF
  · replace hF := zh_f cy1 hF
    refine z_iconst d_S_hasModules_13 (v := 1) (by decide) ?_
    refine z_goto d_S_hasModules_14 (tgt := 18) (by decide) ?_
    exact z_S_hasModules_18 hr  hF
def E_S_hasModules   (μ : zI) (ν : zJ) : Option (Int32 × zI × zJ) := e_S_hasModules_0 μ ν
theorem c_S_hasModules {l : Launch} {D : va_G} {dA : Nat → ClassId} {ad : Nat → Nat} {sh : List zSE} {μ : zI} {ν : zJ} (hr : zRo sh) {out : (Int32 × zI × zJ)} (hE : E_S_hasModules  μ ν = some out) : zC l D dA ad sh m_S_hasModules 0 0 0 [.ref (ad 0)] μ ν (zOi out) :=
  zC.of (by decide) (Nat.le_of_ble_eq_true rfl) (z_S_hasModules_0 hr hE)
def e_S_ticks_33   (x1 : Int32) (μ : zI) (ν : zJ) : Option (Int32 × zI × zJ) := some ((-1), μ, ν)
theorem z_S_ticks_33 {l : Launch} {D : va_G} {dA : Nat → ClassId} {ad : Nat → Nat} {sh : List zSE}  (hr : zRo sh)  {x1 : Int32} {μ : zI} {ν : zJ} {out : (Int32 × zI × zJ)} (hF : e_S_ticks_33   x1 μ ν = some out) : Z l D dA ad sh m_S_ticks (zR 5 0 0) (zS ad) (zOi out) 0 0 0 0 [] 33 [(0, .ref (ad 0)), (1, .int x1)] [] μ ν := by
  unfold e_S_ticks_33 at hF
  refine z_iconst d_S_ticks_33 (v := (-1)) (by decide) ?_
  cases hF
  exact z_ireturn d_S_ticks_34 rfl rfl ⟨rfl, rfl, rfl⟩
def f_S_ticks_39   : Nat → Int32 → Int32 → Int32 → zI → zJ → Option (Int32 × zI × zJ)
  | 0, _, _, _, _, _ => none
  | n + 1, x1, x2, x3, μ, ν => (if x1 ≤ x3 then some (x2, μ, ν) else Option.bind (E_Station_advance 4 μ ν) fun ty2 => Option.bind (E_Log_add ty2.1 ty2.2) fun ty3 => zlet (α := Int32) (x2 + (ty3.1 (4 + 11) 6)) fun y4 => (f_S_ticks_39  n) x1 y4 (x3 + 1) ty3.1 ty3.2)
theorem z_S_ticks_39 {l : Launch} {D : va_G} {dA : Nat → ClassId} {ad : Nat → Nat} {sh : List zSE}  (hr : zRo sh)  {out : (Int32 × zI × zJ)} : ∀ (n : Nat) (x1 : Int32) (x2 : Int32) (x3 : Int32) (μ : zI) (ν : zJ), f_S_ticks_39   n x1 x2 x3 μ ν = some out → Z l D dA ad sh m_S_ticks (zR 5 0 0) (zS ad) (zOi out) 0 0 0 0 [] 39 [(0, .ref (ad 0)), (1, .int x1), (2, .int x2), (3, .int x3)] [] μ ν := by
  intro n
  induction n with
  | zero => intro x1 x2 x3 μ ν hF; cases hF
  | succ n ih =>
    intro x1 x2 x3 μ ν hF
    dsimp only [f_S_ticks_39] at hF
    refine z_iload_n d_S_ticks_39 3 rfl rfl ?_
    refine z_iload_n d_S_ticks_40 1 rfl rfl ?_
    refine z_icmp_ge d_S_ticks_41 (tgt := 81) (by decide) (fun cy1 => ?_) (fun cy1 => ?_)
    · replace hF := zh_t cy1 hF
      refine z_iload_n d_S_ticks_81 2 rfl rfl ?_
      cases hF
      exact z_ireturn d_S_ticks_82 rfl rfl ⟨rfl, rfl, rfl⟩
    · replace hF := zh_f cy1 hF
      refine z_aload_n d_S_ticks_44 0 rfl rfl ?_
      refine z_getr d_S_ticks_45 (q := 4) f_S_28 (hr 0 _ rfl) rfl ?_
      obtain ⟨ty2, hty2, hF⟩ := zh_bind hF
      refine z_callV d_S_ticks_48 (c_Station_advance (zRo_4 hr) hty2) mv_Station_advance l_S_82 (fun _ _ h => h) ((zRo_4 hr) 0 _ rfl) rfl rfl ⟨Nat.le_of_ble_eq_true rfl, Nat.le_of_ble_eq_true rfl⟩ ⟨Nat.le_of_ble_eq_true rfl, Nat.le_of_ble_eq_true rfl⟩ rfl (Nat.le_of_ble_eq_true rfl) (fun r μ' ν' hq => ?_)
      obtain ⟨rfl, rfl, rfl⟩ := hq
      show Z _ _ _ _ _ _ _ _ _ _ _ 0 0 _ _ _ [] _ _
      refine z_aload_n d_S_ticks_51 0 rfl rfl ?_
      refine z_getr d_S_ticks_52 (q := 34) f_S_38 (hr 0 _ rfl) rfl ?_
      refine z_aload_n d_S_ticks_55 0 rfl rfl ?_
      refine z_getr d_S_ticks_56 (q := 4) f_S_28 (hr 0 _ rfl) rfl ?_
      obtain ⟨ty3, hty3, hF⟩ := zh_bind hF
      refine z_callV d_S_ticks_59 (c_Log_add hr hty3) mv_Log_add l_S_85 (fun _ _ h => h) (hr 34 _ rfl) rfl rfl ⟨Nat.le_of_ble_eq_true rfl, Nat.le_of_ble_eq_true rfl⟩ ⟨Nat.le_of_ble_eq_true rfl, Nat.le_of_ble_eq_true rfl⟩ rfl (Nat.le_of_ble_eq_true rfl) (fun r μ' ν' hq => ?_)
      obtain ⟨rfl, rfl, rfl⟩ := hq
      show Z _ _ _ _ _ _ _ _ _ _ _ 0 0 _ _ _ [] _ _
      refine z_iload_n d_S_ticks_62 2 rfl rfl ?_
      refine z_aload_n d_S_ticks_63 0 rfl rfl ?_
      refine z_getr d_S_ticks_64 (q := 4) f_S_28 (hr 0 _ rfl) rfl ?_
      refine z_getr d_S_ticks_67 (q := (4 + 11)) f_S_88 ((zRo_4 hr) 0 _ rfl) rfl ?_
      refine z_get d_S_ticks_70 f_S_92 ((zRo_4 hr) 11 _ rfl) rfl ?_
      refine z_iadd d_S_ticks_73 ?_
      obtain ⟨y4, hy4, hF⟩ := zh_let hF
      refine z_eqi hy4 ?_
      refine z_istore_n d_S_ticks_74 rfl (by decide) (L2 := [(2, .int y4), (0, .ref (ad 0)), (1, .int x1), (3, .int x3)]) rfl ?_
      refine z_iinc d_S_ticks_75 (k := 3) (v := (x3 + 1)) rfl rfl (by decide) (L2 := [(3, .int (x3 + 1)), (2, .int y4), (0, .ref (ad 0)), (1, .int x1)]) rfl ?_
      refine z_goto d_S_ticks_78 (tgt := 39) (by decide) ?_
      refine z_sub [2, 3, 1, 0] (L' := [(0, .ref (ad 0)), (1, .int x1), (2, .int y4), (3, .int (x3 + 1))]) rfl ?_
      exact ih _ _ _ _ _ hF
def e_S_ticks_0   (x1 : Int32) (μ : zI) (ν : zJ) : Option (Int32 × zI × zJ) := Option.bind (E_S_isWithin x1 1 500 μ ν) fun ty1 => (if ty1.1 = 0 then e_S_ticks_33 x1 ty1.2.1 ty1.2.2 else (if 9999 < ((ty1.2.1 4 0) + x1) then e_S_ticks_33 x1 ty1.2.1 ty1.2.2 else Option.bind (E_S_hasModules ty1.2.1 ty1.2.2) fun ty4 => (if ty4.1 = 0 then e_S_ticks_33 x1 ty4.2.1 ty4.2.2 else f_S_ticks_39 zFuel x1 0 0 ty4.2.1 ty4.2.2)))
theorem z_S_ticks_0 {l : Launch} {D : va_G} {dA : Nat → ClassId} {ad : Nat → Nat} {sh : List zSE}  (hr : zRo sh)  {x1 : Int32} {μ : zI} {ν : zJ} {out : (Int32 × zI × zJ)} (hF : e_S_ticks_0   x1 μ ν = some out) : Z l D dA ad sh m_S_ticks (zR 5 0 0) (zS ad) (zOi out) 0 0 0 0 [] 0 [(0, .ref (ad 0)), (1, .int x1)] [] μ ν := by
  unfold e_S_ticks_0 at hF
  refine z_iload_n d_S_ticks_0 1 rfl rfl ?_
  refine z_iconst d_S_ticks_1 (v := 1) (by decide) ?_
  refine z_sipush d_S_ticks_2 (v := 500) (by decide) ?_
  obtain ⟨ty1, hty1, hF⟩ := zh_bind hF
  refine z_callS d_S_ticks_5 (c_S_isWithin  hty1) ms_S_isWithin l_S_54 (fun _ _ h => h) rfl ⟨Nat.le_of_ble_eq_true rfl, Nat.le_of_ble_eq_true rfl⟩ ⟨Nat.le_of_ble_eq_true rfl, Nat.le_of_ble_eq_true rfl⟩ rfl (Nat.le_of_ble_eq_true rfl) (fun r μ' ν' hq => ?_)
  obtain ⟨rfl, rfl, rfl⟩ := hq
  show Z _ _ _ _ _ _ _ _ _ _ _ 0 0 _ _ _ [.int ty1.1] _ _
  refine z_if_eq d_S_ticks_8 (tgt := 33) (by decide) (fun cy2 => ?_) (fun cy2 => ?_)
  · replace hF := zh_t cy2 hF
    exact z_S_ticks_33 hr  hF
  · replace hF := zh_f cy2 hF
    refine z_aload_n d_S_ticks_11 0 rfl rfl ?_
    refine z_getr d_S_ticks_12 (q := 4) f_S_28 (hr 0 _ rfl) rfl ?_
    refine z_get d_S_ticks_15 f_S_75 ((zRo_4 hr) 0 _ rfl) rfl ?_
    refine z_iload_n d_S_ticks_18 1 rfl rfl ?_
    refine z_iadd d_S_ticks_19 ?_
    refine z_sipush d_S_ticks_20 (v := 9999) (by decide) ?_
    refine z_icmp_gt d_S_ticks_23 (tgt := 33) (by decide) (fun cy3 => ?_) (fun cy3 => ?_)
    · replace hF := zh_t cy3 hF
      exact z_S_ticks_33 hr  hF
    · replace hF := zh_f cy3 hF
      refine z_aload_n d_S_ticks_26 0 rfl rfl ?_
      obtain ⟨ty4, hty4, hF⟩ := zh_bind hF
      refine z_callV d_S_ticks_27 (c_S_hasModules hr hty4) mv_S_hasModules l_S_78 (fun _ _ h => h) (hr 0 _ rfl) rfl rfl ⟨Nat.le_of_ble_eq_true rfl, Nat.le_of_ble_eq_true rfl⟩ ⟨Nat.le_of_ble_eq_true rfl, Nat.le_of_ble_eq_true rfl⟩ rfl (Nat.le_of_ble_eq_true rfl) (fun r μ' ν' hq => ?_)
      obtain ⟨rfl, rfl, rfl⟩ := hq
      show Z _ _ _ _ _ _ _ _ _ _ _ 0 0 _ _ _ [.int ty4.1] _ _
      refine z_if_ne d_S_ticks_30 (tgt := 35) (by decide) (fun cy5 => ?_) (fun cy5 => ?_)
      · replace hF := zh_f cy5 hF
        refine z_iconst d_S_ticks_35 (v := 0) (by decide) ?_
        refine z_istore_n d_S_ticks_36 rfl (by decide) (L2 := [(2, .int 0), (0, .ref (ad 0)), (1, .int x1)]) rfl ?_
        refine z_iconst d_S_ticks_37 (v := 0) (by decide) ?_
        refine z_istore_n d_S_ticks_38 rfl (by decide) (L2 := [(3, .int 0), (2, .int 0), (0, .ref (ad 0)), (1, .int x1)]) rfl ?_
        refine z_sub [2, 3, 1, 0] (L' := [(0, .ref (ad 0)), (1, .int x1), (2, .int 0), (3, .int 0)]) rfl ?_
        exact z_S_ticks_39 hr  zFuel _ _ _ _ _ hF
      · replace hF := zh_t cy5 hF
        exact z_S_ticks_33 hr  hF
def E_S_ticks  (x1 : Int32) (μ : zI) (ν : zJ) : Option (Int32 × zI × zJ) := e_S_ticks_0 x1 μ ν
theorem c_S_ticks {l : Launch} {D : va_G} {dA : Nat → ClassId} {ad : Nat → Nat} {sh : List zSE} {μ : zI} {ν : zJ} {x1 : Int32} (hr : zRo sh) {out : (Int32 × zI × zJ)} (hE : E_S_ticks x1 μ ν = some out) : zC l D dA ad sh m_S_ticks 5 0 0 [.ref (ad 0), .int x1] μ ν (zOi out) :=
  zC.of (by decide) (Nat.le_of_ble_eq_true rfl) (z_S_ticks_0 hr hE)
def e_S_isModule_0   (x1 : Int32) (μ : zI) (ν : zJ) : Option (Int32 × zI × zJ) := Option.bind (E_S_isWithin x1 0 ((μ (4 + 3) 0) - 1) μ ν) fun ty1 => (if zb ty1.1 = true then some (ty1.1, ty1.2.1, ty1.2.2) else none)
theorem z_S_isModule_0 {l : Launch} {D : va_G} {dA : Nat → ClassId} {ad : Nat → Nat} {sh : List zSE}  (hr : zRo sh)  {x1 : Int32} {μ : zI} {ν : zJ} {out : (Int32 × zI × zJ)} (hF : e_S_isModule_0   x1 μ ν = some out) : Z l D dA ad sh m_S_isModule (zR 1 0 0) (zS ad) (zOi out) 0 0 0 0 [] 0 [(0, .ref (ad 0)), (1, .int x1)] [] μ ν := by
  unfold e_S_isModule_0 at hF
  refine z_iload_n d_S_isModule_0 1 rfl rfl ?_
  refine z_iconst d_S_isModule_1 (v := 0) (by decide) ?_
  refine z_aload_n d_S_isModule_2 0 rfl rfl ?_
  refine z_getr d_S_isModule_3 (q := 4) f_S_28 (hr 0 _ rfl) rfl ?_
  refine z_getr d_S_isModule_6 (q := (4 + 3)) f_S_100 ((zRo_4 hr) 0 _ rfl) rfl ?_
  refine z_get d_S_isModule_9 f_S_207 ((zRo_4 hr) 3 _ rfl) rfl ?_
  refine z_iconst d_S_isModule_12 (v := 1) (by decide) ?_
  refine z_isub d_S_isModule_13 ?_
  obtain ⟨ty1, hty1, hF⟩ := zh_bind hF
  refine z_callS d_S_isModule_14 (c_S_isWithin  hty1) ms_S_isWithin l_S_54 (fun _ _ h => h) rfl ⟨Nat.le_of_ble_eq_true rfl, Nat.le_of_ble_eq_true rfl⟩ ⟨Nat.le_of_ble_eq_true rfl, Nat.le_of_ble_eq_true rfl⟩ rfl (Nat.le_of_ble_eq_true rfl) (fun r μ' ν' hq => ?_)
  obtain ⟨rfl, rfl, rfl⟩ := hq
  show Z _ _ _ _ _ _ _ _ _ _ _ 0 0 _ _ _ [.int ty1.1] _ _
  obtain ⟨hy2, hF⟩ := zh_if hF
  cases hF
  exact z_ireturn d_S_isModule_17 rfl (zb_n hy2) ⟨rfl, rfl, rfl⟩
def E_S_isModule  (x1 : Int32) (μ : zI) (ν : zJ) : Option (Int32 × zI × zJ) := e_S_isModule_0 x1 μ ν
theorem c_S_isModule {l : Launch} {D : va_G} {dA : Nat → ClassId} {ad : Nat → Nat} {sh : List zSE} {μ : zI} {ν : zJ} {x1 : Int32} (hr : zRo sh) {out : (Int32 × zI × zJ)} (hE : E_S_isModule x1 μ ν = some out) : zC l D dA ad sh m_S_isModule 1 0 0 [.ref (ad 0), .int x1] μ ν (zOi out) :=
  zC.of (by decide) (Nat.le_of_ble_eq_true rfl) (z_S_isModule_0 hr hE)
def e_S_light_18   (x1 : Int32) (x2 : Int32) (μ : zI) (ν : zJ) : Option (Int32 × zI × zJ) := some ((-1), μ, ν)
theorem z_S_light_18 {l : Launch} {D : va_G} {dA : Nat → ClassId} {ad : Nat → Nat} {sh : List zSE}  (hr : zRo sh)  {x1 : Int32} {x2 : Int32} {μ : zI} {ν : zJ} {out : (Int32 × zI × zJ)} (hF : e_S_light_18   x1 x2 μ ν = some out) : Z l D dA ad sh m_S_light (zR 3 0 0) (zS ad) (zOi out) 0 0 0 0 [] 18 [(0, .ref (ad 0)), (1, .int x1), (2, .int x2)] [] μ ν := by
  unfold e_S_light_18 at hF
  refine z_iconst d_S_light_18 (v := (-1)) (by decide) ?_
  cases hF
  exact z_ireturn d_S_light_19 rfl rfl ⟨rfl, rfl, rfl⟩
def e_S_light_0   (x1 : Int32) (x2 : Int32) (μ : zI) (ν : zJ) : Option (Int32 × zI × zJ) := Option.bind (E_S_isModule x1 μ ν) fun ty1 => (if ty1.1 = 0 then e_S_light_18 x1 x2 ty1.2.1 ty1.2.2 else Option.bind (E_S_isWithin x2 0 100 ty1.2.1 ty1.2.2) fun ty3 => (if ty3.1 = 0 then e_S_light_18 x1 x2 ty3.2.1 ty3.2.2 else Option.bind (E_Panel_lightOf 4 x1 ty3.2.1 ty3.2.2) fun ty5 => zlet (α := Int32) ty5.1 fun y6 => Option.bind (E_Panel_setLight 4 x1 x2 ty5.2.1 ty5.2.2) fun ty7 => Option.bind (E_Panel_reckon 4 ty7.1 ty7.2) fun ty8 => some (y6, ty8.1, ty8.2)))
theorem z_S_light_0 {l : Launch} {D : va_G} {dA : Nat → ClassId} {ad : Nat → Nat} {sh : List zSE}  (hr : zRo sh)  {x1 : Int32} {x2 : Int32} {μ : zI} {ν : zJ} {out : (Int32 × zI × zJ)} (hF : e_S_light_0   x1 x2 μ ν = some out) : Z l D dA ad sh m_S_light (zR 3 0 0) (zS ad) (zOi out) 0 0 0 0 [] 0 [(0, .ref (ad 0)), (1, .int x1), (2, .int x2)] [] μ ν := by
  unfold e_S_light_0 at hF
  refine z_aload_n d_S_light_0 0 rfl rfl ?_
  refine z_iload_n d_S_light_1 1 rfl rfl ?_
  obtain ⟨ty1, hty1, hF⟩ := zh_bind hF
  refine z_callV d_S_light_2 (c_S_isModule hr hty1) mv_S_isModule l_S_97 (fun _ _ h => h) (hr 0 _ rfl) rfl rfl ⟨Nat.le_of_ble_eq_true rfl, Nat.le_of_ble_eq_true rfl⟩ ⟨Nat.le_of_ble_eq_true rfl, Nat.le_of_ble_eq_true rfl⟩ rfl (Nat.le_of_ble_eq_true rfl) (fun r μ' ν' hq => ?_)
  obtain ⟨rfl, rfl, rfl⟩ := hq
  show Z _ _ _ _ _ _ _ _ _ _ _ 0 0 _ _ _ [.int ty1.1] _ _
  refine z_if_eq d_S_light_5 (tgt := 18) (by decide) (fun cy2 => ?_) (fun cy2 => ?_)
  · replace hF := zh_t cy2 hF
    exact z_S_light_18 hr  hF
  · replace hF := zh_f cy2 hF
    refine z_iload_n d_S_light_8 2 rfl rfl ?_
    refine z_iconst d_S_light_9 (v := 0) (by decide) ?_
    refine z_bipush d_S_light_10 (v := 100) (by decide) ?_
    obtain ⟨ty3, hty3, hF⟩ := zh_bind hF
    refine z_callS d_S_light_12 (c_S_isWithin  hty3) ms_S_isWithin l_S_54 (fun _ _ h => h) rfl ⟨Nat.le_of_ble_eq_true rfl, Nat.le_of_ble_eq_true rfl⟩ ⟨Nat.le_of_ble_eq_true rfl, Nat.le_of_ble_eq_true rfl⟩ rfl (Nat.le_of_ble_eq_true rfl) (fun r μ' ν' hq => ?_)
    obtain ⟨rfl, rfl, rfl⟩ := hq
    show Z _ _ _ _ _ _ _ _ _ _ _ 0 0 _ _ _ [.int ty3.1] _ _
    refine z_if_ne d_S_light_15 (tgt := 20) (by decide) (fun cy4 => ?_) (fun cy4 => ?_)
    · replace hF := zh_f cy4 hF
      refine z_aload_n d_S_light_20 0 rfl rfl ?_
      refine z_getr d_S_light_21 (q := 4) f_S_28 (hr 0 _ rfl) rfl ?_
      refine z_getr d_S_light_24 (q := (4 + 3)) f_S_100 ((zRo_4 hr) 0 _ rfl) rfl ?_
      refine z_iload_n d_S_light_27 1 rfl rfl ?_
      obtain ⟨ty5, hty5, hF⟩ := zh_bind hF
      refine z_callV d_S_light_28 (c_Panel_lightOf (zRo_4 hr) hty5) mv_Panel_lightOf l_S_104 (fun _ _ h => h) ((zRo_4 hr) 3 _ rfl) rfl rfl ⟨Nat.le_of_ble_eq_true rfl, Nat.le_of_ble_eq_true rfl⟩ ⟨Nat.le_of_ble_eq_true rfl, Nat.le_of_ble_eq_true rfl⟩ rfl (Nat.le_of_ble_eq_true rfl) (fun r μ' ν' hq => ?_)
      obtain ⟨rfl, rfl, rfl⟩ := hq
      show Z _ _ _ _ _ _ _ _ _ _ _ 0 0 _ _ _ [.int ty5.1] _ _
      obtain ⟨y6, hy6, hF⟩ := zh_let hF
      refine z_eqi hy6 ?_
      refine z_istore_n d_S_light_31 rfl (by decide) (L2 := [(3, .int y6), (0, .ref (ad 0)), (1, .int x1), (2, .int x2)]) rfl ?_
      refine z_aload_n d_S_light_32 1 rfl rfl ?_
      refine z_getr d_S_light_33 (q := 4) f_S_28 (hr 0 _ rfl) rfl ?_
      refine z_getr d_S_light_36 (q := (4 + 3)) f_S_100 ((zRo_4 hr) 0 _ rfl) rfl ?_
      refine z_iload_n d_S_light_39 2 rfl rfl ?_
      refine z_iload_n d_S_light_40 3 rfl rfl ?_
      obtain ⟨ty7, hty7, hF⟩ := zh_bind hF
      refine z_callV d_S_light_41 (c_Panel_setLight (zRo_4 hr) hty7) mv_Panel_setLight l_S_110 (fun _ _ h => h) ((zRo_4 hr) 3 _ rfl) rfl rfl ⟨Nat.le_of_ble_eq_true rfl, Nat.le_of_ble_eq_true rfl⟩ ⟨Nat.le_of_ble_eq_true rfl, Nat.le_of_ble_eq_true rfl⟩ rfl (Nat.le_of_ble_eq_true rfl) (fun r μ' ν' hq => ?_)
      obtain ⟨rfl, rfl, rfl⟩ := hq
      show Z _ _ _ _ _ _ _ _ _ _ _ 0 0 _ _ _ [] _ _
      refine z_aload_n d_S_light_44 1 rfl rfl ?_
      refine z_getr d_S_light_45 (q := 4) f_S_28 (hr 0 _ rfl) rfl ?_
      refine z_getr d_S_light_48 (q := (4 + 3)) f_S_100 ((zRo_4 hr) 0 _ rfl) rfl ?_
      obtain ⟨ty8, hty8, hF⟩ := zh_bind hF
      refine z_callV d_S_light_51 (c_Panel_reckon (zRo_4 hr) hty8) mv_Panel_reckon l_S_114 (fun _ _ h => h) ((zRo_4 hr) 3 _ rfl) rfl rfl ⟨Nat.le_of_ble_eq_true rfl, Nat.le_of_ble_eq_true rfl⟩ ⟨Nat.le_of_ble_eq_true rfl, Nat.le_of_ble_eq_true rfl⟩ rfl (Nat.le_of_ble_eq_true rfl) (fun r μ' ν' hq => ?_)
      obtain ⟨rfl, rfl, rfl⟩ := hq
      show Z _ _ _ _ _ _ _ _ _ _ _ 0 0 _ _ _ [] _ _
      refine z_iload_n d_S_light_54 0 rfl rfl ?_
      cases hF
      exact z_ireturn d_S_light_55 rfl rfl ⟨rfl, rfl, rfl⟩
    · replace hF := zh_t cy4 hF
      exact z_S_light_18 hr  hF
def E_S_light  (x1 : Int32) (x2 : Int32) (μ : zI) (ν : zJ) : Option (Int32 × zI × zJ) := e_S_light_0 x1 x2 μ ν
theorem c_S_light {l : Launch} {D : va_G} {dA : Nat → ClassId} {ad : Nat → Nat} {sh : List zSE} {μ : zI} {ν : zJ} {x1 : Int32} {x2 : Int32} (hr : zRo sh) {out : (Int32 × zI × zJ)} (hE : E_S_light x1 x2 μ ν = some out) : zC l D dA ad sh m_S_light 3 0 0 [.ref (ad 0), .int x1, .int x2] μ ν (zOi out) :=
  zC.of (by decide) (Nat.le_of_ble_eq_true rfl) (z_S_light_0 hr hE)
def e_S_grid_0   (x1 : Int32) (μ : zI) (ν : zJ) : Option (Int32 × zI × zJ) := Option.bind (E_S_isWithin x1 0 1 μ ν) fun ty1 => (if ty1.1 = 0 then some ((-1), ty1.2.1, ty1.2.2) else zlet (α := Int32) (ty1.2.1 (4 + 13) 1) fun y3 => zlet (zu ty1.2.1 (4 + 13) 1 x1) fun μy4 => some (y3, μy4, ty1.2.2))
theorem z_S_grid_0 {l : Launch} {D : va_G} {dA : Nat → ClassId} {ad : Nat → Nat} {sh : List zSE}  (hr : zRo sh)  {x1 : Int32} {μ : zI} {ν : zJ} {out : (Int32 × zI × zJ)} (hF : e_S_grid_0   x1 μ ν = some out) : Z l D dA ad sh m_S_grid (zR 1 0 0) (zS ad) (zOi out) 0 0 0 0 [] 0 [(0, .ref (ad 0)), (1, .int x1)] [] μ ν := by
  unfold e_S_grid_0 at hF
  refine z_iload_n d_S_grid_0 1 rfl rfl ?_
  refine z_iconst d_S_grid_1 (v := 0) (by decide) ?_
  refine z_iconst d_S_grid_2 (v := 1) (by decide) ?_
  obtain ⟨ty1, hty1, hF⟩ := zh_bind hF
  refine z_callS d_S_grid_3 (c_S_isWithin  hty1) ms_S_isWithin l_S_54 (fun _ _ h => h) rfl ⟨Nat.le_of_ble_eq_true rfl, Nat.le_of_ble_eq_true rfl⟩ ⟨Nat.le_of_ble_eq_true rfl, Nat.le_of_ble_eq_true rfl⟩ rfl (Nat.le_of_ble_eq_true rfl) (fun r μ' ν' hq => ?_)
  obtain ⟨rfl, rfl, rfl⟩ := hq
  show Z _ _ _ _ _ _ _ _ _ _ _ 0 0 _ _ _ [.int ty1.1] _ _
  refine z_if_ne d_S_grid_6 (tgt := 11) (by decide) (fun cy2 => ?_) (fun cy2 => ?_)
  · replace hF := zh_f cy2 hF
    refine z_aload_n d_S_grid_11 0 rfl rfl ?_
    refine z_getr d_S_grid_12 (q := 4) f_S_28 (hr 0 _ rfl) rfl ?_
    refine z_getr d_S_grid_15 (q := (4 + 13)) f_S_117 ((zRo_4 hr) 0 _ rfl) rfl ?_
    refine z_get d_S_grid_18 f_S_121 ((zRo_4 hr) 13 _ rfl) rfl ?_
    obtain ⟨y3, hy3, hF⟩ := zh_let hF
    refine z_eqi hy3 ?_
    refine z_istore_n d_S_grid_21 rfl (by decide) (L2 := [(2, .int y3), (0, .ref (ad 0)), (1, .int x1)]) rfl ?_
    refine z_aload_n d_S_grid_22 1 rfl rfl ?_
    refine z_getr d_S_grid_23 (q := 4) f_S_28 (hr 0 _ rfl) rfl ?_
    refine z_getr d_S_grid_26 (q := (4 + 13)) f_S_117 ((zRo_4 hr) 0 _ rfl) rfl ?_
    refine z_iload_n d_S_grid_29 2 rfl rfl ?_
    refine z_put d_S_grid_30 f_S_121 ((zRo_4 hr) 13 _ rfl) rfl (CL_fin _ _ (fun q hq => by cases hq; rfl)) rfl rfl ?_
    obtain ⟨μy4, hy4, hF⟩ := zh_let hF
    refine z_eqm hy4 ?_
    refine z_iload_n d_S_grid_33 0 rfl rfl ?_
    cases hF
    exact z_ireturn d_S_grid_34 rfl rfl ⟨rfl, rfl, rfl⟩
  · replace hF := zh_t cy2 hF
    refine z_iconst d_S_grid_9 (v := (-1)) (by decide) ?_
    cases hF
    exact z_ireturn d_S_grid_10 rfl rfl ⟨rfl, rfl, rfl⟩
def E_S_grid  (x1 : Int32) (μ : zI) (ν : zJ) : Option (Int32 × zI × zJ) := e_S_grid_0 x1 μ ν
theorem c_S_grid {l : Launch} {D : va_G} {dA : Nat → ClassId} {ad : Nat → Nat} {sh : List zSE} {μ : zI} {ν : zJ} {x1 : Int32} (hr : zRo sh) {out : (Int32 × zI × zJ)} (hE : E_S_grid x1 μ ν = some out) : zC l D dA ad sh m_S_grid 1 0 0 [.ref (ad 0), .int x1] μ ν (zOi out) :=
  zC.of (by decide) (Nat.le_of_ble_eq_true rfl) (z_S_grid_0 hr hE)
def e_S_tune_0   (x1 : Int32) (μ : zI) (ν : zJ) : Option (Int32 × zI × zJ) := Option.bind (E_S_isWithin x1 45000 55000 μ ν) fun ty1 => (if ty1.1 = 0 then some ((-1), ty1.2.1, ty1.2.2) else zlet (α := Int32) (ty1.2.1 (4 + 13) 2) fun y3 => zlet (zu ty1.2.1 (4 + 13) 2 x1) fun μy4 => some (y3, μy4, ty1.2.2))
theorem z_S_tune_0 {l : Launch} {D : va_G} {dA : Nat → ClassId} {ad : Nat → Nat} {sh : List zSE}  (hr : zRo sh)  {x1 : Int32} {μ : zI} {ν : zJ} {out : (Int32 × zI × zJ)} (hF : e_S_tune_0   x1 μ ν = some out) : Z l D dA ad sh m_S_tune (zR 1 0 0) (zS ad) (zOi out) 0 0 0 0 [] 0 [(0, .ref (ad 0)), (1, .int x1)] [] μ ν := by
  unfold e_S_tune_0 at hF
  refine z_iload_n d_S_tune_0 1 rfl rfl ?_
  refine z_ldc d_S_tune_1 k_S_126 ?_
  refine z_ldc d_S_tune_3 k_S_127 ?_
  obtain ⟨ty1, hty1, hF⟩ := zh_bind hF
  refine z_callS d_S_tune_5 (c_S_isWithin  hty1) ms_S_isWithin l_S_54 (fun _ _ h => h) rfl ⟨Nat.le_of_ble_eq_true rfl, Nat.le_of_ble_eq_true rfl⟩ ⟨Nat.le_of_ble_eq_true rfl, Nat.le_of_ble_eq_true rfl⟩ rfl (Nat.le_of_ble_eq_true rfl) (fun r μ' ν' hq => ?_)
  obtain ⟨rfl, rfl, rfl⟩ := hq
  show Z _ _ _ _ _ _ _ _ _ _ _ 0 0 _ _ _ [.int ty1.1] _ _
  refine z_if_ne d_S_tune_8 (tgt := 13) (by decide) (fun cy2 => ?_) (fun cy2 => ?_)
  · replace hF := zh_f cy2 hF
    refine z_aload_n d_S_tune_13 0 rfl rfl ?_
    refine z_getr d_S_tune_14 (q := 4) f_S_28 (hr 0 _ rfl) rfl ?_
    refine z_getr d_S_tune_17 (q := (4 + 13)) f_S_117 ((zRo_4 hr) 0 _ rfl) rfl ?_
    refine z_get d_S_tune_20 f_S_128 ((zRo_4 hr) 13 _ rfl) rfl ?_
    obtain ⟨y3, hy3, hF⟩ := zh_let hF
    refine z_eqi hy3 ?_
    refine z_istore_n d_S_tune_23 rfl (by decide) (L2 := [(2, .int y3), (0, .ref (ad 0)), (1, .int x1)]) rfl ?_
    refine z_aload_n d_S_tune_24 1 rfl rfl ?_
    refine z_getr d_S_tune_25 (q := 4) f_S_28 (hr 0 _ rfl) rfl ?_
    refine z_getr d_S_tune_28 (q := (4 + 13)) f_S_117 ((zRo_4 hr) 0 _ rfl) rfl ?_
    refine z_iload_n d_S_tune_31 2 rfl rfl ?_
    refine z_put d_S_tune_32 f_S_128 ((zRo_4 hr) 13 _ rfl) rfl (CL_fin _ _ (fun q hq => by cases hq; rfl)) rfl rfl ?_
    obtain ⟨μy4, hy4, hF⟩ := zh_let hF
    refine z_eqm hy4 ?_
    refine z_iload_n d_S_tune_35 0 rfl rfl ?_
    cases hF
    exact z_ireturn d_S_tune_36 rfl rfl ⟨rfl, rfl, rfl⟩
  · replace hF := zh_t cy2 hF
    refine z_iconst d_S_tune_11 (v := (-1)) (by decide) ?_
    cases hF
    exact z_ireturn d_S_tune_12 rfl rfl ⟨rfl, rfl, rfl⟩
def E_S_tune  (x1 : Int32) (μ : zI) (ν : zJ) : Option (Int32 × zI × zJ) := e_S_tune_0 x1 μ ν
theorem c_S_tune {l : Launch} {D : va_G} {dA : Nat → ClassId} {ad : Nat → Nat} {sh : List zSE} {μ : zI} {ν : zJ} {x1 : Int32} (hr : zRo sh) {out : (Int32 × zI × zJ)} (hE : E_S_tune x1 μ ν = some out) : zC l D dA ad sh m_S_tune 1 0 0 [.ref (ad 0), .int x1] μ ν (zOi out) :=
  zC.of (by decide) (Nat.le_of_ble_eq_true rfl) (z_S_tune_0 hr hE)
def e_S_scan_0    (μ : zI) (ν : zJ) : Option (Int32 × zI × zJ) := Option.bind (E_S_hasModules μ ν) fun ty1 => (if ty1.1 = 0 then some ((-1), ty1.2.1, ty1.2.2) else (if (ty1.2.1 (4 + 11) 7) = 0 then Option.bind (E_Follower_beginScan 4 ty1.2.1 ty1.2.2) fun ty4 => some (1, ty4.1, ty4.2) else some (0, ty1.2.1, ty1.2.2)))
theorem z_S_scan_0 {l : Launch} {D : va_G} {dA : Nat → ClassId} {ad : Nat → Nat} {sh : List zSE}  (hr : zRo sh)   {μ : zI} {ν : zJ} {out : (Int32 × zI × zJ)} (hF : e_S_scan_0    μ ν = some out) : Z l D dA ad sh m_S_scan (zR 1 0 0) (zS ad) (zOi out) 0 0 0 0 [] 0 [(0, .ref (ad 0))] [] μ ν := by
  unfold e_S_scan_0 at hF
  refine z_aload_n d_S_scan_0 0 rfl rfl ?_
  obtain ⟨ty1, hty1, hF⟩ := zh_bind hF
  refine z_callV d_S_scan_1 (c_S_hasModules hr hty1) mv_S_hasModules l_S_78 (fun _ _ h => h) (hr 0 _ rfl) rfl rfl ⟨Nat.le_of_ble_eq_true rfl, Nat.le_of_ble_eq_true rfl⟩ ⟨Nat.le_of_ble_eq_true rfl, Nat.le_of_ble_eq_true rfl⟩ rfl (Nat.le_of_ble_eq_true rfl) (fun r μ' ν' hq => ?_)
  obtain ⟨rfl, rfl, rfl⟩ := hq
  show Z _ _ _ _ _ _ _ _ _ _ _ 0 0 _ _ _ [.int ty1.1] _ _
  refine z_if_ne d_S_scan_4 (tgt := 9) (by decide) (fun cy2 => ?_) (fun cy2 => ?_)
  · replace hF := zh_f cy2 hF
    refine z_aload_n d_S_scan_9 0 rfl rfl ?_
    refine z_getr d_S_scan_10 (q := 4) f_S_28 (hr 0 _ rfl) rfl ?_
    refine z_getr d_S_scan_13 (q := (4 + 11)) f_S_88 ((zRo_4 hr) 0 _ rfl) rfl ?_
    refine z_get d_S_scan_16 f_S_131 ((zRo_4 hr) 11 _ rfl) rfl ?_
    refine z_if_eq d_S_scan_19 (tgt := 24) (by decide) (fun cy3 => ?_) (fun cy3 => ?_)
    · replace hF := zh_t cy3 hF
      refine z_aload_n d_S_scan_24 0 rfl rfl ?_
      refine z_getr d_S_scan_25 (q := 4) f_S_28 (hr 0 _ rfl) rfl ?_
      refine z_getr d_S_scan_28 (q := (4 + 11)) f_S_88 ((zRo_4 hr) 0 _ rfl) rfl ?_
      obtain ⟨ty4, hty4, hF⟩ := zh_bind hF
      refine z_callV d_S_scan_31 (c_Follower_beginScan (zRo_4 hr) hty4) mv_Follower_beginScan l_S_135 (fun _ _ h => h) ((zRo_4 hr) 11 _ rfl) rfl rfl ⟨Nat.le_of_ble_eq_true rfl, Nat.le_of_ble_eq_true rfl⟩ ⟨Nat.le_of_ble_eq_true rfl, Nat.le_of_ble_eq_true rfl⟩ rfl (Nat.le_of_ble_eq_true rfl) (fun r μ' ν' hq => ?_)
      obtain ⟨rfl, rfl, rfl⟩ := hq
      show Z _ _ _ _ _ _ _ _ _ _ _ 0 0 _ _ _ [] _ _
      refine z_iconst d_S_scan_34 (v := 1) (by decide) ?_
      cases hF
      exact z_ireturn d_S_scan_35 rfl rfl ⟨rfl, rfl, rfl⟩
    · replace hF := zh_f cy3 hF
      refine z_iconst d_S_scan_22 (v := 0) (by decide) ?_
      cases hF
      exact z_ireturn d_S_scan_23 rfl rfl ⟨rfl, rfl, rfl⟩
  · replace hF := zh_t cy2 hF
    refine z_iconst d_S_scan_7 (v := (-1)) (by decide) ?_
    cases hF
    exact z_ireturn d_S_scan_8 rfl rfl ⟨rfl, rfl, rfl⟩
def E_S_scan   (μ : zI) (ν : zJ) : Option (Int32 × zI × zJ) := e_S_scan_0 μ ν
theorem c_S_scan {l : Launch} {D : va_G} {dA : Nat → ClassId} {ad : Nat → Nat} {sh : List zSE} {μ : zI} {ν : zJ} (hr : zRo sh) {out : (Int32 × zI × zJ)} (hE : E_S_scan  μ ν = some out) : zC l D dA ad sh m_S_scan 1 0 0 [.ref (ad 0)] μ ν (zOi out) :=
  zC.of (by decide) (Nat.le_of_ble_eq_true rfl) (z_S_scan_0 hr hE)
def e_S_told_22   (x1 : Int32) (s0 : Int32) (μ : zI) (ν : zJ) : Option (Int32 × zI × zJ) := some (s0, μ, ν)
theorem z_S_told_22 {l : Launch} {D : va_G} {dA : Nat → ClassId} {ad : Nat → Nat} {sh : List zSE}  (hr : zRo sh)  {x1 : Int32} {s0 : Int32} {μ : zI} {ν : zJ} {out : (Int32 × zI × zJ)} (hF : e_S_told_22   x1 s0 μ ν = some out) : Z l D dA ad sh m_S_told (zR 1 0 0) (zS ad) (zOi out) 0 0 0 0 [] 22 [(0, .ref (ad 0)), (1, .int x1)] [.int s0] μ ν := by
  unfold e_S_told_22 at hF
  cases hF
  exact z_ireturn d_S_told_22 rfl rfl ⟨rfl, rfl, rfl⟩
def e_S_told_0   (x1 : Int32) (μ : zI) (ν : zJ) : Option (Int32 × zI × zJ) := Option.bind (E_Told_isOne x1 μ ν) fun ty1 => (if ty1.1 = 0 then e_S_told_22 x1 (-1) ty1.2.1 ty1.2.2 else Option.bind (E_Told_get 4 x1 ty1.2.1 ty1.2.2) fun ty3 => e_S_told_22 x1 ty3.1 ty3.2.1 ty3.2.2)
theorem z_S_told_0 {l : Launch} {D : va_G} {dA : Nat → ClassId} {ad : Nat → Nat} {sh : List zSE}  (hr : zRo sh)  {x1 : Int32} {μ : zI} {ν : zJ} {out : (Int32 × zI × zJ)} (hF : e_S_told_0   x1 μ ν = some out) : Z l D dA ad sh m_S_told (zR 1 0 0) (zS ad) (zOi out) 0 0 0 0 [] 0 [(0, .ref (ad 0)), (1, .int x1)] [] μ ν := by
  unfold e_S_told_0 at hF
  refine z_iload_n d_S_told_0 1 rfl rfl ?_
  obtain ⟨ty1, hty1, hF⟩ := zh_bind hF
  refine z_callS d_S_told_1 (c_Told_isOne  hty1) ms_Told_isOne l_S_138 (fun _ _ h => h) rfl ⟨Nat.le_of_ble_eq_true rfl, Nat.le_of_ble_eq_true rfl⟩ ⟨Nat.le_of_ble_eq_true rfl, Nat.le_of_ble_eq_true rfl⟩ rfl (Nat.le_of_ble_eq_true rfl) (fun r μ' ν' hq => ?_)
  obtain ⟨rfl, rfl, rfl⟩ := hq
  show Z _ _ _ _ _ _ _ _ _ _ _ 0 0 _ _ _ [.int ty1.1] _ _
  refine z_if_eq d_S_told_4 (tgt := 21) (by decide) (fun cy2 => ?_) (fun cy2 => ?_)
  · replace hF := zh_t cy2 hF
    refine z_iconst d_S_told_21 (v := (-1)) (by decide) ?_
    exact z_S_told_22 hr  hF
  · replace hF := zh_f cy2 hF
    refine z_aload_n d_S_told_7 0 rfl rfl ?_
    refine z_getr d_S_told_8 (q := 4) f_S_28 (hr 0 _ rfl) rfl ?_
    refine z_getr d_S_told_11 (q := (4 + 1)) f_S_143 ((zRo_4 hr) 0 _ rfl) rfl ?_
    refine z_iload_n d_S_told_14 1 rfl rfl ?_
    obtain ⟨ty3, hty3, hF⟩ := zh_bind hF
    refine z_callV d_S_told_15 (c_Told_get (zRo_4 hr) hty3) mv_Told_get l_S_147 (fun _ _ h => h) ((zRo_4 hr) 1 _ rfl) rfl rfl ⟨Nat.le_of_ble_eq_true rfl, Nat.le_of_ble_eq_true rfl⟩ ⟨Nat.le_of_ble_eq_true rfl, Nat.le_of_ble_eq_true rfl⟩ rfl (Nat.le_of_ble_eq_true rfl) (fun r μ' ν' hq => ?_)
    obtain ⟨rfl, rfl, rfl⟩ := hq
    show Z _ _ _ _ _ _ _ _ _ _ _ 0 0 _ _ _ [.int ty3.1] _ _
    refine z_goto d_S_told_18 (tgt := 22) (by decide) ?_
    exact z_S_told_22 hr  hF
def E_S_told  (x1 : Int32) (μ : zI) (ν : zJ) : Option (Int32 × zI × zJ) := e_S_told_0 x1 μ ν
theorem c_S_told {l : Launch} {D : va_G} {dA : Nat → ClassId} {ad : Nat → Nat} {sh : List zSE} {μ : zI} {ν : zJ} {x1 : Int32} (hr : zRo sh) {out : (Int32 × zI × zJ)} (hE : E_S_told x1 μ ν = some out) : zC l D dA ad sh m_S_told 1 0 0 [.ref (ad 0), .int x1] μ ν (zOi out) :=
  zC.of (by decide) (Nat.le_of_ble_eq_true rfl) (z_S_told_0 hr hE)
def e_S_settle_33   (x1 : Int32) (x2 : Int32) (x3 : Int32) (μ : zI) (ν : zJ) : Option (Int32 × zI × zJ) := some ((-1), μ, ν)
theorem z_S_settle_33 {l : Launch} {D : va_G} {dA : Nat → ClassId} {ad : Nat → Nat} {sh : List zSE}  (hr : zRo sh)  {x1 : Int32} {x2 : Int32} {x3 : Int32} {μ : zI} {ν : zJ} {out : (Int32 × zI × zJ)} (hF : e_S_settle_33   x1 x2 x3 μ ν = some out) : Z l D dA ad sh m_S_settle (zR 1 0 0) (zS ad) (zOi out) 0 0 0 0 [] 33 [(0, .ref (ad 0)), (1, .int x1), (2, .int x2), (3, .int x3)] [] μ ν := by
  unfold e_S_settle_33 at hF
  refine z_iconst d_S_settle_33 (v := (-1)) (by decide) ?_
  cases hF
  exact z_ireturn d_S_settle_34 rfl rfl ⟨rfl, rfl, rfl⟩
def e_S_settle_20   (x1 : Int32) (x2 : Int32) (s0 : Int32) (μ : zI) (ν : zJ) : Option (Int32 × zI × zJ) := (if s0 = 0 then e_S_settle_33 x1 x2 s0 μ ν else Option.bind (E_Told_mayBe x1 x2 μ ν) fun ty2 => (if ty2.1 = 0 then e_S_settle_33 x1 x2 s0 ty2.2.1 ty2.2.2 else Option.bind (E_Told_get 4 x1 ty2.2.1 ty2.2.2) fun ty4 => zlet (α := Int32) ty4.1 fun y5 => Option.bind (E_Told_put 4 x1 x2 ty4.2.1 ty4.2.2) fun ty6 => some (y5, ty6.1, ty6.2)))
theorem z_S_settle_20 {l : Launch} {D : va_G} {dA : Nat → ClassId} {ad : Nat → Nat} {sh : List zSE}  (hr : zRo sh)  {x1 : Int32} {x2 : Int32} {s0 : Int32} {μ : zI} {ν : zJ} {out : (Int32 × zI × zJ)} (hF : e_S_settle_20   x1 x2 s0 μ ν = some out) : Z l D dA ad sh m_S_settle (zR 1 0 0) (zS ad) (zOi out) 0 0 0 0 [] 20 [(0, .ref (ad 0)), (1, .int x1), (2, .int x2)] [.int s0] μ ν := by
  unfold e_S_settle_20 at hF
  refine z_istore_n d_S_settle_20 rfl (by decide) (L2 := [(3, .int s0), (0, .ref (ad 0)), (1, .int x1), (2, .int x2)]) rfl ?_
  refine z_iload_n d_S_settle_21 0 rfl rfl ?_
  refine z_if_eq d_S_settle_22 (tgt := 33) (by decide) (fun cy1 => ?_) (fun cy1 => ?_)
  · replace hF := zh_t cy1 hF
    refine z_sub [1, 2, 3, 0] (L' := [(0, .ref (ad 0)), (1, .int x1), (2, .int x2), (3, .int s0)]) rfl ?_
    exact z_S_settle_33 hr  hF
  · replace hF := zh_f cy1 hF
    refine z_iload_n d_S_settle_25 2 rfl rfl ?_
    refine z_iload_n d_S_settle_26 3 rfl rfl ?_
    obtain ⟨ty2, hty2, hF⟩ := zh_bind hF
    refine z_callS d_S_settle_27 (c_Told_mayBe  hty2) ms_Told_mayBe l_S_150 (fun _ _ h => h) rfl ⟨Nat.le_of_ble_eq_true rfl, Nat.le_of_ble_eq_true rfl⟩ ⟨Nat.le_of_ble_eq_true rfl, Nat.le_of_ble_eq_true rfl⟩ rfl (Nat.le_of_ble_eq_true rfl) (fun r μ' ν' hq => ?_)
    obtain ⟨rfl, rfl, rfl⟩ := hq
    show Z _ _ _ _ _ _ _ _ _ _ _ 0 0 _ _ _ [.int ty2.1] _ _
    refine z_if_ne d_S_settle_30 (tgt := 35) (by decide) (fun cy3 => ?_) (fun cy3 => ?_)
    · replace hF := zh_f cy3 hF
      refine z_aload_n d_S_settle_35 1 rfl rfl ?_
      refine z_getr d_S_settle_36 (q := 4) f_S_28 (hr 0 _ rfl) rfl ?_
      refine z_getr d_S_settle_39 (q := (4 + 1)) f_S_143 ((zRo_4 hr) 0 _ rfl) rfl ?_
      refine z_iload_n d_S_settle_42 2 rfl rfl ?_
      obtain ⟨ty4, hty4, hF⟩ := zh_bind hF
      refine z_callV d_S_settle_43 (c_Told_get (zRo_4 hr) hty4) mv_Told_get l_S_147 (fun _ _ h => h) ((zRo_4 hr) 1 _ rfl) rfl rfl ⟨Nat.le_of_ble_eq_true rfl, Nat.le_of_ble_eq_true rfl⟩ ⟨Nat.le_of_ble_eq_true rfl, Nat.le_of_ble_eq_true rfl⟩ rfl (Nat.le_of_ble_eq_true rfl) (fun r μ' ν' hq => ?_)
      obtain ⟨rfl, rfl, rfl⟩ := hq
      show Z _ _ _ _ _ _ _ _ _ _ _ 0 0 _ _ _ [.int ty4.1] _ _
      obtain ⟨y5, hy5, hF⟩ := zh_let hF
      refine z_eqi hy5 ?_
      refine z_istore d_S_settle_46 (by decide) (L2 := [(4, .int y5), (3, .int s0), (0, .ref (ad 0)), (1, .int x1), (2, .int x2)]) rfl ?_
      refine z_aload_n d_S_settle_48 2 rfl rfl ?_
      refine z_getr d_S_settle_49 (q := 4) f_S_28 (hr 0 _ rfl) rfl ?_
      refine z_getr d_S_settle_52 (q := (4 + 1)) f_S_143 ((zRo_4 hr) 0 _ rfl) rfl ?_
      refine z_iload_n d_S_settle_55 3 rfl rfl ?_
      refine z_iload_n d_S_settle_56 4 rfl rfl ?_
      obtain ⟨ty6, hty6, hF⟩ := zh_bind hF
      refine z_callV d_S_settle_57 (c_Told_put (zRo_4 hr) hty6) mv_Told_put l_S_154 (fun _ _ h => h) ((zRo_4 hr) 1 _ rfl) rfl rfl ⟨Nat.le_of_ble_eq_true rfl, Nat.le_of_ble_eq_true rfl⟩ ⟨Nat.le_of_ble_eq_true rfl, Nat.le_of_ble_eq_true rfl⟩ rfl (Nat.le_of_ble_eq_true rfl) (fun r μ' ν' hq => ?_)
      obtain ⟨rfl, rfl, rfl⟩ := hq
      show Z _ _ _ _ _ _ _ _ _ _ _ 0 0 _ _ _ [] _ _
      refine z_iload d_S_settle_60 0 rfl ?_
      cases hF
      exact z_ireturn d_S_settle_62 rfl rfl ⟨rfl, rfl, rfl⟩
    · replace hF := zh_t cy3 hF
      refine z_sub [1, 2, 3, 0] (L' := [(0, .ref (ad 0)), (1, .int x1), (2, .int x2), (3, .int s0)]) rfl ?_
      exact z_S_settle_33 hr  hF
def e_S_settle_15   (x1 : Int32) (x2 : Int32) (μ : zI) (ν : zJ) : Option (Int32 × zI × zJ) := e_S_settle_20 x1 x2 1 μ ν
theorem z_S_settle_15 {l : Launch} {D : va_G} {dA : Nat → ClassId} {ad : Nat → Nat} {sh : List zSE}  (hr : zRo sh)  {x1 : Int32} {x2 : Int32} {μ : zI} {ν : zJ} {out : (Int32 × zI × zJ)} (hF : e_S_settle_15   x1 x2 μ ν = some out) : Z l D dA ad sh m_S_settle (zR 1 0 0) (zS ad) (zOi out) 0 0 0 0 [] 15 [(0, .ref (ad 0)), (1, .int x1), (2, .int x2)] [] μ ν := by
  unfold e_S_settle_15 at hF
  refine z_iconst d_S_settle_15 (v := 1) (by decide) ?_
  refine z_goto d_S_settle_16 (tgt := 20) (by decide) ?_
  exact z_S_settle_20 hr  hF
def e_S_settle_0   (x1 : Int32) (x2 : Int32) (μ : zI) (ν : zJ) : Option (Int32 × zI × zJ) := (if x1 = 1 then e_S_settle_15 x1 x2 μ ν else Option.bind (E_S_isWithin x1 4 18 μ ν) fun ty2 => (if ty2.1 = 0 then e_S_settle_20 x1 x2 0 ty2.2.1 ty2.2.2 else e_S_settle_15 x1 x2 ty2.2.1 ty2.2.2))
theorem z_S_settle_0 {l : Launch} {D : va_G} {dA : Nat → ClassId} {ad : Nat → Nat} {sh : List zSE}  (hr : zRo sh)  {x1 : Int32} {x2 : Int32} {μ : zI} {ν : zJ} {out : (Int32 × zI × zJ)} (hF : e_S_settle_0   x1 x2 μ ν = some out) : Z l D dA ad sh m_S_settle (zR 1 0 0) (zS ad) (zOi out) 0 0 0 0 [] 0 [(0, .ref (ad 0)), (1, .int x1), (2, .int x2)] [] μ ν := by
  unfold e_S_settle_0 at hF
  refine z_iload_n d_S_settle_0 1 rfl rfl ?_
  refine z_iconst d_S_settle_1 (v := 1) (by decide) ?_
  refine z_icmp_eq d_S_settle_2 (tgt := 15) (by decide) (fun cy1 => ?_) (fun cy1 => ?_)
  · replace hF := zh_t cy1 hF
    exact z_S_settle_15 hr  hF
  · replace hF := zh_f cy1 hF
    refine z_iload_n d_S_settle_5 1 rfl rfl ?_
    refine z_iconst d_S_settle_6 (v := 4) (by decide) ?_
    refine z_bipush d_S_settle_7 (v := 18) (by decide) ?_
    obtain ⟨ty2, hty2, hF⟩ := zh_bind hF
    refine z_callS d_S_settle_9 (c_S_isWithin  hty2) ms_S_isWithin l_S_54 (fun _ _ h => h) rfl ⟨Nat.le_of_ble_eq_true rfl, Nat.le_of_ble_eq_true rfl⟩ ⟨Nat.le_of_ble_eq_true rfl, Nat.le_of_ble_eq_true rfl⟩ rfl (Nat.le_of_ble_eq_true rfl) (fun r μ' ν' hq => ?_)
    obtain ⟨rfl, rfl, rfl⟩ := hq
    show Z _ _ _ _ _ _ _ _ _ _ _ 0 0 _ _ _ [.int ty2.1] _ _
    refine z_if_eq d_S_settle_12 (tgt := 19) (by decide) (fun cy3 => ?_) (fun cy3 => ?_)
    · replace hF := zh_t cy3 hF
      refine z_iconst d_S_settle_19 (v := 0) (by decide) ?_
      exact z_S_settle_20 hr  hF
    · replace hF := zh_f cy3 hF
      exact z_S_settle_15 hr  hF
def E_S_settle  (x1 : Int32) (x2 : Int32) (μ : zI) (ν : zJ) : Option (Int32 × zI × zJ) := e_S_settle_0 x1 x2 μ ν
theorem c_S_settle {l : Launch} {D : va_G} {dA : Nat → ClassId} {ad : Nat → Nat} {sh : List zSE} {μ : zI} {ν : zJ} {x1 : Int32} {x2 : Int32} (hr : zRo sh) {out : (Int32 × zI × zJ)} (hE : E_S_settle x1 x2 μ ν = some out) : zC l D dA ad sh m_S_settle 1 0 0 [.ref (ad 0), .int x1, .int x2] μ ν (zOi out) :=
  zC.of (by decide) (Nat.le_of_ble_eq_true rfl) (z_S_settle_0 hr hE)
def e_S_volts_22   (x1 : Int32) (s0 : Int32) (μ : zI) (ν : zJ) : Option (Int32 × zI × zJ) := some (s0, μ, ν)
theorem z_S_volts_22 {l : Launch} {D : va_G} {dA : Nat → ClassId} {ad : Nat → Nat} {sh : List zSE}  (hr : zRo sh)  {x1 : Int32} {s0 : Int32} {μ : zI} {ν : zJ} {out : (Int32 × zI × zJ)} (hF : e_S_volts_22   x1 s0 μ ν = some out) : Z l D dA ad sh m_S_volts (zR 1 0 0) (zS ad) (zOi out) 0 0 0 0 [] 22 [(0, .ref (ad 0)), (1, .int x1)] [.int s0] μ ν := by
  unfold e_S_volts_22 at hF
  cases hF
  exact z_ireturn d_S_volts_22 rfl rfl ⟨rfl, rfl, rfl⟩
def e_S_volts_0   (x1 : Int32) (μ : zI) (ν : zJ) : Option (Int32 × zI × zJ) := Option.bind (E_Panel_isPoint x1 μ ν) fun ty1 => (if ty1.1 = 0 then e_S_volts_22 x1 (-1) ty1.2.1 ty1.2.2 else Option.bind (E_Panel_voltsAt 4 x1 ty1.2.1 ty1.2.2) fun ty3 => e_S_volts_22 x1 ty3.1 ty3.2.1 ty3.2.2)
theorem z_S_volts_0 {l : Launch} {D : va_G} {dA : Nat → ClassId} {ad : Nat → Nat} {sh : List zSE}  (hr : zRo sh)  {x1 : Int32} {μ : zI} {ν : zJ} {out : (Int32 × zI × zJ)} (hF : e_S_volts_0   x1 μ ν = some out) : Z l D dA ad sh m_S_volts (zR 1 0 0) (zS ad) (zOi out) 0 0 0 0 [] 0 [(0, .ref (ad 0)), (1, .int x1)] [] μ ν := by
  unfold e_S_volts_0 at hF
  refine z_iload_n d_S_volts_0 1 rfl rfl ?_
  obtain ⟨ty1, hty1, hF⟩ := zh_bind hF
  refine z_callS d_S_volts_1 (c_Panel_isPoint  hty1) ms_Panel_isPoint l_S_178 (fun _ _ h => h) rfl ⟨Nat.le_of_ble_eq_true rfl, Nat.le_of_ble_eq_true rfl⟩ ⟨Nat.le_of_ble_eq_true rfl, Nat.le_of_ble_eq_true rfl⟩ rfl (Nat.le_of_ble_eq_true rfl) (fun r μ' ν' hq => ?_)
  obtain ⟨rfl, rfl, rfl⟩ := hq
  show Z _ _ _ _ _ _ _ _ _ _ _ 0 0 _ _ _ [.int ty1.1] _ _
  refine z_if_eq d_S_volts_4 (tgt := 21) (by decide) (fun cy2 => ?_) (fun cy2 => ?_)
  · replace hF := zh_t cy2 hF
    refine z_iconst d_S_volts_21 (v := (-1)) (by decide) ?_
    exact z_S_volts_22 hr  hF
  · replace hF := zh_f cy2 hF
    refine z_aload_n d_S_volts_7 0 rfl rfl ?_
    refine z_getr d_S_volts_8 (q := 4) f_S_28 (hr 0 _ rfl) rfl ?_
    refine z_getr d_S_volts_11 (q := (4 + 3)) f_S_100 ((zRo_4 hr) 0 _ rfl) rfl ?_
    refine z_iload_n d_S_volts_14 1 rfl rfl ?_
    obtain ⟨ty3, hty3, hF⟩ := zh_bind hF
    refine z_callV d_S_volts_15 (c_Panel_voltsAt (zRo_4 hr) hty3) mv_Panel_voltsAt l_S_181 (fun _ _ h => h) ((zRo_4 hr) 3 _ rfl) rfl rfl ⟨Nat.le_of_ble_eq_true rfl, Nat.le_of_ble_eq_true rfl⟩ ⟨Nat.le_of_ble_eq_true rfl, Nat.le_of_ble_eq_true rfl⟩ rfl (Nat.le_of_ble_eq_true rfl) (fun r μ' ν' hq => ?_)
    obtain ⟨rfl, rfl, rfl⟩ := hq
    show Z _ _ _ _ _ _ _ _ _ _ _ 0 0 _ _ _ [.int ty3.1] _ _
    refine z_goto d_S_volts_18 (tgt := 22) (by decide) ?_
    exact z_S_volts_22 hr  hF
def E_S_volts  (x1 : Int32) (μ : zI) (ν : zJ) : Option (Int32 × zI × zJ) := e_S_volts_0 x1 μ ν
theorem c_S_volts {l : Launch} {D : va_G} {dA : Nat → ClassId} {ad : Nat → Nat} {sh : List zSE} {μ : zI} {ν : zJ} {x1 : Int32} (hr : zRo sh) {out : (Int32 × zI × zJ)} (hE : E_S_volts x1 μ ν = some out) : zC l D dA ad sh m_S_volts 1 0 0 [.ref (ad 0), .int x1] μ ν (zOi out) :=
  zC.of (by decide) (Nat.le_of_ble_eq_true rfl) (z_S_volts_0 hr hE)
def e_S_power_22   (x1 : Int32) (s0 : Int32) (μ : zI) (ν : zJ) : Option (Int32 × zI × zJ) := some (s0, μ, ν)
theorem z_S_power_22 {l : Launch} {D : va_G} {dA : Nat → ClassId} {ad : Nat → Nat} {sh : List zSE}  (hr : zRo sh)  {x1 : Int32} {s0 : Int32} {μ : zI} {ν : zJ} {out : (Int32 × zI × zJ)} (hF : e_S_power_22   x1 s0 μ ν = some out) : Z l D dA ad sh m_S_power (zR 1 0 0) (zS ad) (zOi out) 0 0 0 0 [] 22 [(0, .ref (ad 0)), (1, .int x1)] [.int s0] μ ν := by
  unfold e_S_power_22 at hF
  cases hF
  exact z_ireturn d_S_power_22 rfl rfl ⟨rfl, rfl, rfl⟩
def e_S_power_0   (x1 : Int32) (μ : zI) (ν : zJ) : Option (Int32 × zI × zJ) := Option.bind (E_Panel_isPoint x1 μ ν) fun ty1 => (if ty1.1 = 0 then e_S_power_22 x1 (-1) ty1.2.1 ty1.2.2 else Option.bind (E_Panel_powerAt 4 x1 ty1.2.1 ty1.2.2) fun ty3 => e_S_power_22 x1 ty3.1 ty3.2.1 ty3.2.2)
theorem z_S_power_0 {l : Launch} {D : va_G} {dA : Nat → ClassId} {ad : Nat → Nat} {sh : List zSE}  (hr : zRo sh)  {x1 : Int32} {μ : zI} {ν : zJ} {out : (Int32 × zI × zJ)} (hF : e_S_power_0   x1 μ ν = some out) : Z l D dA ad sh m_S_power (zR 1 0 0) (zS ad) (zOi out) 0 0 0 0 [] 0 [(0, .ref (ad 0)), (1, .int x1)] [] μ ν := by
  unfold e_S_power_0 at hF
  refine z_iload_n d_S_power_0 1 rfl rfl ?_
  obtain ⟨ty1, hty1, hF⟩ := zh_bind hF
  refine z_callS d_S_power_1 (c_Panel_isPoint  hty1) ms_Panel_isPoint l_S_178 (fun _ _ h => h) rfl ⟨Nat.le_of_ble_eq_true rfl, Nat.le_of_ble_eq_true rfl⟩ ⟨Nat.le_of_ble_eq_true rfl, Nat.le_of_ble_eq_true rfl⟩ rfl (Nat.le_of_ble_eq_true rfl) (fun r μ' ν' hq => ?_)
  obtain ⟨rfl, rfl, rfl⟩ := hq
  show Z _ _ _ _ _ _ _ _ _ _ _ 0 0 _ _ _ [.int ty1.1] _ _
  refine z_if_eq d_S_power_4 (tgt := 21) (by decide) (fun cy2 => ?_) (fun cy2 => ?_)
  · replace hF := zh_t cy2 hF
    refine z_iconst d_S_power_21 (v := (-1)) (by decide) ?_
    exact z_S_power_22 hr  hF
  · replace hF := zh_f cy2 hF
    refine z_aload_n d_S_power_7 0 rfl rfl ?_
    refine z_getr d_S_power_8 (q := 4) f_S_28 (hr 0 _ rfl) rfl ?_
    refine z_getr d_S_power_11 (q := (4 + 3)) f_S_100 ((zRo_4 hr) 0 _ rfl) rfl ?_
    refine z_iload_n d_S_power_14 1 rfl rfl ?_
    obtain ⟨ty3, hty3, hF⟩ := zh_bind hF
    refine z_callV d_S_power_15 (c_Panel_powerAt (zRo_4 hr) hty3) mv_Panel_powerAt l_S_184 (fun _ _ h => h) ((zRo_4 hr) 3 _ rfl) rfl rfl ⟨Nat.le_of_ble_eq_true rfl, Nat.le_of_ble_eq_true rfl⟩ ⟨Nat.le_of_ble_eq_true rfl, Nat.le_of_ble_eq_true rfl⟩ rfl (Nat.le_of_ble_eq_true rfl) (fun r μ' ν' hq => ?_)
    obtain ⟨rfl, rfl, rfl⟩ := hq
    show Z _ _ _ _ _ _ _ _ _ _ _ 0 0 _ _ _ [.int ty3.1] _ _
    refine z_goto d_S_power_18 (tgt := 22) (by decide) ?_
    exact z_S_power_22 hr  hF
def E_S_power  (x1 : Int32) (μ : zI) (ν : zJ) : Option (Int32 × zI × zJ) := e_S_power_0 x1 μ ν
theorem c_S_power {l : Launch} {D : va_G} {dA : Nat → ClassId} {ad : Nat → Nat} {sh : List zSE} {μ : zI} {ν : zJ} {x1 : Int32} (hr : zRo sh) {out : (Int32 × zI × zJ)} (hE : E_S_power x1 μ ν = some out) : zC l D dA ad sh m_S_power 1 0 0 [.ref (ad 0), .int x1] μ ν (zOi out) :=
  zC.of (by decide) (Nat.le_of_ble_eq_true rfl) (z_S_power_0 hr hE)
def e_S_tops_29  (r4 : Int32 → Int32 → zI → zJ → Option (Int32 × zI × zJ)) (x1 : Int32) (x2 : Int32) (μ : zI) (ν : zJ) : Option (Int32 × zI × zJ) := r4 x1 (x2 + 1) μ ν
theorem z_S_tops_29 {l : Launch} {D : va_G} {dA : Nat → ClassId} {ad : Nat → Nat} {sh : List zSE}  (hr : zRo sh) {r4 : Int32 → Int32 → zI → zJ → Option (Int32 × zI × zJ)} {x1 : Int32} {x2 : Int32} {μ : zI} {ν : zJ} {out : (Int32 × zI × zJ)} (hr4 : ∀ (x1 : Int32) (x2 : Int32) (μ : zI) (ν : zJ), r4 x1 x2 μ ν = some out → Z l D dA ad sh m_S_tops (zR 2 0 0) (zS ad) (zOi out) 0 0 0 0 [] 4 [(0, .ref (ad 0)), (1, .int x1), (2, .int x2)] [] μ ν) (hF : e_S_tops_29  r4 x1 x2 μ ν = some out) : Z l D dA ad sh m_S_tops (zR 2 0 0) (zS ad) (zOi out) 0 0 0 0 [] 29 [(0, .ref (ad 0)), (1, .int x1), (2, .int x2)] [] μ ν := by
  unfold e_S_tops_29 at hF
  refine z_iinc d_S_tops_29 (k := 2) (v := (x2 + 1)) rfl rfl (by decide) (L2 := [(2, .int (x2 + 1)), (0, .ref (ad 0)), (1, .int x1)]) rfl ?_
  refine z_goto d_S_tops_32 (tgt := 4) (by decide) ?_
  refine z_sub [1, 2, 0] (L' := [(0, .ref (ad 0)), (1, .int x1), (2, .int (x2 + 1))]) rfl ?_
  exact hr4 _ _ _ _ hF
def f_S_tops_4   : Nat → Int32 → Int32 → zI → zJ → Option (Int32 × zI × zJ)
  | 0, _, _, _, _ => none
  | n + 1, x1, x2, μ, ν => (if 1000 ≤ x2 then some (x1, μ, ν) else Option.bind (E_Panel_topEnd 4 x2 μ ν) fun ty2 => (if ty2.1 = (-1) then e_S_tops_29 (f_S_tops_4  n) x1 x2 ty2.2.1 ty2.2.2 else e_S_tops_29 (f_S_tops_4  n) (x1 + 1) x2 ty2.2.1 ty2.2.2))
theorem z_S_tops_4 {l : Launch} {D : va_G} {dA : Nat → ClassId} {ad : Nat → Nat} {sh : List zSE}  (hr : zRo sh)  {out : (Int32 × zI × zJ)} : ∀ (n : Nat) (x1 : Int32) (x2 : Int32) (μ : zI) (ν : zJ), f_S_tops_4   n x1 x2 μ ν = some out → Z l D dA ad sh m_S_tops (zR 2 0 0) (zS ad) (zOi out) 0 0 0 0 [] 4 [(0, .ref (ad 0)), (1, .int x1), (2, .int x2)] [] μ ν := by
  intro n
  induction n with
  | zero => intro x1 x2 μ ν hF; cases hF
  | succ n ih =>
    intro x1 x2 μ ν hF
    dsimp only [f_S_tops_4] at hF
    refine z_iload_n d_S_tops_4 2 rfl rfl ?_
    refine z_sipush d_S_tops_5 (v := 1000) (by decide) ?_
    refine z_icmp_ge d_S_tops_8 (tgt := 35) (by decide) (fun cy1 => ?_) (fun cy1 => ?_)
    · replace hF := zh_t cy1 hF
      refine z_iload_n d_S_tops_35 1 rfl rfl ?_
      cases hF
      exact z_ireturn d_S_tops_36 rfl rfl ⟨rfl, rfl, rfl⟩
    · replace hF := zh_f cy1 hF
      refine z_aload_n d_S_tops_11 0 rfl rfl ?_
      refine z_getr d_S_tops_12 (q := 4) f_S_28 (hr 0 _ rfl) rfl ?_
      refine z_getr d_S_tops_15 (q := (4 + 3)) f_S_100 ((zRo_4 hr) 0 _ rfl) rfl ?_
      refine z_iload_n d_S_tops_18 2 rfl rfl ?_
      obtain ⟨ty2, hty2, hF⟩ := zh_bind hF
      refine z_callV d_S_tops_19 (c_Panel_topEnd (zRo_4 hr) hty2) mv_Panel_topEnd l_S_187 (fun _ _ h => h) ((zRo_4 hr) 3 _ rfl) rfl rfl ⟨Nat.le_of_ble_eq_true rfl, Nat.le_of_ble_eq_true rfl⟩ ⟨Nat.le_of_ble_eq_true rfl, Nat.le_of_ble_eq_true rfl⟩ rfl (Nat.le_of_ble_eq_true rfl) (fun r μ' ν' hq => ?_)
      obtain ⟨rfl, rfl, rfl⟩ := hq
      show Z _ _ _ _ _ _ _ _ _ _ _ 0 0 _ _ _ [.int ty2.1] _ _
      refine z_iconst d_S_tops_22 (v := (-1)) (by decide) ?_
      refine z_icmp_eq d_S_tops_23 (tgt := 29) (by decide) (fun cy3 => ?_) (fun cy3 => ?_)
      · replace hF := zh_t cy3 hF
        exact z_S_tops_29 hr (fun a0 a1 a2 a3 => ih a0 a1 a2 a3) hF
      · replace hF := zh_f cy3 hF
        refine z_iinc d_S_tops_26 (k := 1) (v := (x1 + 1)) rfl rfl (by decide) (L2 := [(1, .int (x1 + 1)), (0, .ref (ad 0)), (2, .int x2)]) rfl ?_
        refine z_sub [1, 0, 2] (L' := [(0, .ref (ad 0)), (1, .int (x1 + 1)), (2, .int x2)]) rfl ?_
        exact z_S_tops_29 hr (fun a0 a1 a2 a3 => ih a0 a1 a2 a3) hF
def e_S_tops_0    (μ : zI) (ν : zJ) : Option (Int32 × zI × zJ) := f_S_tops_4 zFuel 0 0 μ ν
theorem z_S_tops_0 {l : Launch} {D : va_G} {dA : Nat → ClassId} {ad : Nat → Nat} {sh : List zSE}  (hr : zRo sh)   {μ : zI} {ν : zJ} {out : (Int32 × zI × zJ)} (hF : e_S_tops_0    μ ν = some out) : Z l D dA ad sh m_S_tops (zR 2 0 0) (zS ad) (zOi out) 0 0 0 0 [] 0 [(0, .ref (ad 0))] [] μ ν := by
  unfold e_S_tops_0 at hF
  refine z_iconst d_S_tops_0 (v := 0) (by decide) ?_
  refine z_istore_n d_S_tops_1 rfl (by decide) (L2 := [(1, .int 0), (0, .ref (ad 0))]) rfl ?_
  refine z_iconst d_S_tops_2 (v := 0) (by decide) ?_
  refine z_istore_n d_S_tops_3 rfl (by decide) (L2 := [(2, .int 0), (1, .int 0), (0, .ref (ad 0))]) rfl ?_
  refine z_sub [2, 1, 0] (L' := [(0, .ref (ad 0)), (1, .int 0), (2, .int 0)]) rfl ?_
  exact z_S_tops_4 hr  zFuel _ _ _ _ hF
def E_S_tops   (μ : zI) (ν : zJ) : Option (Int32 × zI × zJ) := e_S_tops_0 μ ν
theorem c_S_tops {l : Launch} {D : va_G} {dA : Nat → ClassId} {ad : Nat → Nat} {sh : List zSE} {μ : zI} {ν : zJ} (hr : zRo sh) {out : (Int32 × zI × zJ)} (hE : E_S_tops  μ ν = some out) : zC l D dA ad sh m_S_tops 2 0 0 [.ref (ad 0)] μ ν (zOi out) :=
  zC.of (by decide) (Nat.le_of_ble_eq_true rfl) (z_S_tops_0 hr hE)
def e_S_top_13   (x1 : Int32) (x2 : Int32) (μ : zI) (ν : zJ) : Option (Int32 × zI × zJ) := some ((-1), μ, ν)
theorem z_S_top_13 {l : Launch} {D : va_G} {dA : Nat → ClassId} {ad : Nat → Nat} {sh : List zSE}  (hr : zRo sh)  {x1 : Int32} {x2 : Int32} {μ : zI} {ν : zJ} {out : (Int32 × zI × zJ)} (hF : e_S_top_13   x1 x2 μ ν = some out) : Z l D dA ad sh m_S_top (zR 2 0 0) (zS ad) (zOi out) 0 0 0 0 [] 13 [(0, .ref (ad 0)), (1, .int x1), (2, .int x2)] [] μ ν := by
  unfold e_S_top_13 at hF
  refine z_iconst d_S_top_13 (v := (-1)) (by decide) ?_
  cases hF
  exact z_ireturn d_S_top_14 rfl rfl ⟨rfl, rfl, rfl⟩
def e_S_top_92   (x1 : Int32) (x2 : Int32) (x3 : Int32) (x4 : Int32) (x5 : Int32) (s0 : Int32) (μ : zI) (ν : zJ) : Option (Int32 × zI × zJ) := some (s0, μ, ν)
theorem z_S_top_92 {l : Launch} {D : va_G} {dA : Nat → ClassId} {ad : Nat → Nat} {sh : List zSE}  (hr : zRo sh)  {x1 : Int32} {x2 : Int32} {x3 : Int32} {x4 : Int32} {x5 : Int32} {s0 : Int32} {μ : zI} {ν : zJ} {out : (Int32 × zI × zJ)} (hF : e_S_top_92   x1 x2 x3 x4 x5 s0 μ ν = some out) : Z l D dA ad sh m_S_top (zR 2 0 0) (zS ad) (zOi out) 0 0 0 0 [] 92 [(0, .ref (ad 0)), (1, .int x1), (2, .int x2), (3, .int x3), (4, .int x4), (5, .int x5)] [.int s0] μ ν := by
  unfold e_S_top_92 at hF
  cases hF
  exact z_ireturn d_S_top_92 rfl rfl ⟨rfl, rfl, rfl⟩
def e_S_top_96  (r20 : Int32 → Int32 → Int32 → Int32 → zI → zJ → Option (Int32 × zI × zJ)) (x1 : Int32) (x2 : Int32) (x3 : Int32) (x4 : Int32) (x5 : Int32) (μ : zI) (ν : zJ) : Option (Int32 × zI × zJ) := r20 x1 x2 x3 (x4 + 1) μ ν
theorem z_S_top_96 {l : Launch} {D : va_G} {dA : Nat → ClassId} {ad : Nat → Nat} {sh : List zSE}  (hr : zRo sh) {r20 : Int32 → Int32 → Int32 → Int32 → zI → zJ → Option (Int32 × zI × zJ)} {x1 : Int32} {x2 : Int32} {x3 : Int32} {x4 : Int32} {x5 : Int32} {μ : zI} {ν : zJ} {out : (Int32 × zI × zJ)} (hr20 : ∀ (x1 : Int32) (x2 : Int32) (x3 : Int32) (x4 : Int32) (μ : zI) (ν : zJ), r20 x1 x2 x3 x4 μ ν = some out → Z l D dA ad sh m_S_top (zR 2 0 0) (zS ad) (zOi out) 0 0 0 0 [] 20 [(0, .ref (ad 0)), (1, .int x1), (2, .int x2), (3, .int x3), (4, .int x4)] [] μ ν) (hF : e_S_top_96  r20 x1 x2 x3 x4 x5 μ ν = some out) : Z l D dA ad sh m_S_top (zR 2 0 0) (zS ad) (zOi out) 0 0 0 0 [] 96 [(0, .ref (ad 0)), (1, .int x1), (2, .int x2), (3, .int x3), (4, .int x4), (5, .int x5)] [] μ ν := by
  unfold e_S_top_96 at hF
  refine z_iinc d_S_top_96 (k := 4) (v := (x4 + 1)) rfl rfl (by decide) (L2 := [(4, .int (x4 + 1)), (0, .ref (ad 0)), (1, .int x1), (2, .int x2), (3, .int x3), (5, .int x5)]) rfl ?_
  refine z_goto d_S_top_99 (tgt := 20) (by decide) ?_
  refine z_sub [1, 2, 3, 4, 0] (L' := [(0, .ref (ad 0)), (1, .int x1), (2, .int x2), (3, .int x3), (4, .int (x4 + 1))]) rfl ?_
  exact hr20 _ _ _ _ _ _ hF
def f_S_top_20   : Nat → Int32 → Int32 → Int32 → Int32 → zI → zJ → Option (Int32 × zI × zJ)
  | 0, _, _, _, _, _, _ => none
  | n + 1, x1, x2, x3, x4, μ, ν => (if 1000 ≤ x4 then some ((-2), μ, ν) else Option.bind (E_Panel_topEnd 4 x4 μ ν) fun ty2 => zlet (α := Int32) ty2.1 fun y3 => (if y3 = (-1) then e_S_top_96 (f_S_top_20  n) x1 x2 x3 x4 y3 ty2.2.1 ty2.2.2 else (if x3 = x1 then (if x2 = 0 then e_S_top_92 x1 x2 x3 x4 y3 x4 ty2.2.1 ty2.2.2 else (if x2 = 1 then Option.bind (E_Panel_powerAt 4 x4 ty2.2.1 ty2.2.2) fun ty8 => e_S_top_92 x1 x2 x3 x4 y3 ty8.1 ty8.2.1 ty8.2.2 else e_S_top_92 x1 x2 x3 x4 y3 ((y3 - x4) + 1) ty2.2.1 ty2.2.2)) else e_S_top_96 (f_S_top_20  n) x1 x2 (x3 + 1) x4 y3 ty2.2.1 ty2.2.2)))
theorem z_S_top_20 {l : Launch} {D : va_G} {dA : Nat → ClassId} {ad : Nat → Nat} {sh : List zSE}  (hr : zRo sh)  {out : (Int32 × zI × zJ)} : ∀ (n : Nat) (x1 : Int32) (x2 : Int32) (x3 : Int32) (x4 : Int32) (μ : zI) (ν : zJ), f_S_top_20   n x1 x2 x3 x4 μ ν = some out → Z l D dA ad sh m_S_top (zR 2 0 0) (zS ad) (zOi out) 0 0 0 0 [] 20 [(0, .ref (ad 0)), (1, .int x1), (2, .int x2), (3, .int x3), (4, .int x4)] [] μ ν := by
  intro n
  induction n with
  | zero => intro x1 x2 x3 x4 μ ν hF; cases hF
  | succ n ih =>
    intro x1 x2 x3 x4 μ ν hF
    dsimp only [f_S_top_20] at hF
    refine z_iload d_S_top_20 4 rfl ?_
    refine z_sipush d_S_top_22 (v := 1000) (by decide) ?_
    refine z_icmp_ge d_S_top_25 (tgt := 102) (by decide) (fun cy1 => ?_) (fun cy1 => ?_)
    · replace hF := zh_t cy1 hF
      refine z_bipush d_S_top_102 (v := (-2)) (by decide) ?_
      cases hF
      exact z_ireturn d_S_top_104 rfl rfl ⟨rfl, rfl, rfl⟩
    · replace hF := zh_f cy1 hF
      refine z_aload_n d_S_top_28 0 rfl rfl ?_
      refine z_getr d_S_top_29 (q := 4) f_S_28 (hr 0 _ rfl) rfl ?_
      refine z_getr d_S_top_32 (q := (4 + 3)) f_S_100 ((zRo_4 hr) 0 _ rfl) rfl ?_
      refine z_iload d_S_top_35 4 rfl ?_
      obtain ⟨ty2, hty2, hF⟩ := zh_bind hF
      refine z_callV d_S_top_37 (c_Panel_topEnd (zRo_4 hr) hty2) mv_Panel_topEnd l_S_187 (fun _ _ h => h) ((zRo_4 hr) 3 _ rfl) rfl rfl ⟨Nat.le_of_ble_eq_true rfl, Nat.le_of_ble_eq_true rfl⟩ ⟨Nat.le_of_ble_eq_true rfl, Nat.le_of_ble_eq_true rfl⟩ rfl (Nat.le_of_ble_eq_true rfl) (fun r μ' ν' hq => ?_)
      obtain ⟨rfl, rfl, rfl⟩ := hq
      show Z _ _ _ _ _ _ _ _ _ _ _ 0 0 _ _ _ [.int ty2.1] _ _
      obtain ⟨y3, hy3, hF⟩ := zh_let hF
      refine z_eqi hy3 ?_
      refine z_istore d_S_top_40 (by decide) (L2 := [(5, .int y3), (0, .ref (ad 0)), (1, .int x1), (2, .int x2), (3, .int x3), (4, .int x4)]) rfl ?_
      refine z_iload d_S_top_42 0 rfl ?_
      refine z_iconst d_S_top_44 (v := (-1)) (by decide) ?_
      refine z_icmp_ne d_S_top_45 (tgt := 51) (by decide) (fun cy4 => ?_) (fun cy4 => ?_)
      · replace hF := zh_f cy4 hF
        refine z_iload_n d_S_top_51 4 rfl rfl ?_
        refine z_iload_n d_S_top_52 2 rfl rfl ?_
        refine z_icmp_ne d_S_top_53 (tgt := 93) (by decide) (fun cy5 => ?_) (fun cy5 => ?_)
        · replace hF := zh_f cy5 hF
          refine z_iinc d_S_top_93 (k := 4) (v := (x3 + 1)) rfl rfl (by decide) (L2 := [(3, .int (x3 + 1)), (5, .int y3), (0, .ref (ad 0)), (1, .int x1), (2, .int x2), (4, .int x4)]) rfl ?_
          refine z_sub [2, 3, 4, 0, 5, 1] (L' := [(0, .ref (ad 0)), (1, .int x1), (2, .int x2), (3, .int (x3 + 1)), (4, .int x4), (5, .int y3)]) rfl ?_
          exact z_S_top_96 hr (fun a0 a1 a2 a3 a4 a5 => ih a0 a1 a2 a3 a4 a5) hF
        · replace hF := zh_t cy5 hF
          refine z_iload_n d_S_top_56 3 rfl rfl ?_
          refine z_if_ne d_S_top_57 (tgt := 65) (by decide) (fun cy6 => ?_) (fun cy6 => ?_)
          · replace hF := zh_f cy6 hF
            refine z_iload_n d_S_top_65 3 rfl rfl ?_
            refine z_iconst d_S_top_66 (v := 1) (by decide) ?_
            refine z_icmp_ne d_S_top_67 (tgt := 85) (by decide) (fun cy7 => ?_) (fun cy7 => ?_)
            · replace hF := zh_f cy7 hF
              refine z_iload d_S_top_85 0 rfl ?_
              refine z_iload d_S_top_87 5 rfl ?_
              refine z_isub d_S_top_89 ?_
              refine z_iconst d_S_top_90 (v := 1) (by decide) ?_
              refine z_iadd d_S_top_91 ?_
              refine z_sub [1, 2, 3, 4, 5, 0] (L' := [(0, .ref (ad 0)), (1, .int x1), (2, .int x2), (3, .int x3), (4, .int x4), (5, .int y3)]) rfl ?_
              exact z_S_top_92 hr  hF
            · replace hF := zh_t cy7 hF
              refine z_aload_n d_S_top_70 1 rfl rfl ?_
              refine z_getr d_S_top_71 (q := 4) f_S_28 (hr 0 _ rfl) rfl ?_
              refine z_getr d_S_top_74 (q := (4 + 3)) f_S_100 ((zRo_4 hr) 0 _ rfl) rfl ?_
              refine z_iload d_S_top_77 5 rfl ?_
              obtain ⟨ty8, hty8, hF⟩ := zh_bind hF
              refine z_callV d_S_top_79 (c_Panel_powerAt (zRo_4 hr) hty8) mv_Panel_powerAt l_S_184 (fun _ _ h => h) ((zRo_4 hr) 3 _ rfl) rfl rfl ⟨Nat.le_of_ble_eq_true rfl, Nat.le_of_ble_eq_true rfl⟩ ⟨Nat.le_of_ble_eq_true rfl, Nat.le_of_ble_eq_true rfl⟩ rfl (Nat.le_of_ble_eq_true rfl) (fun r μ' ν' hq => ?_)
              obtain ⟨rfl, rfl, rfl⟩ := hq
              show Z _ _ _ _ _ _ _ _ _ _ _ 0 0 _ _ _ [.int ty8.1] _ _
              refine z_goto d_S_top_82 (tgt := 92) (by decide) ?_
              refine z_sub [1, 2, 3, 4, 5, 0] (L' := [(0, .ref (ad 0)), (1, .int x1), (2, .int x2), (3, .int x3), (4, .int x4), (5, .int y3)]) rfl ?_
              exact z_S_top_92 hr  hF
          · replace hF := zh_t cy6 hF
            refine z_iload d_S_top_60 5 rfl ?_
            refine z_goto d_S_top_62 (tgt := 92) (by decide) ?_
            refine z_sub [1, 2, 3, 4, 5, 0] (L' := [(0, .ref (ad 0)), (1, .int x1), (2, .int x2), (3, .int x3), (4, .int x4), (5, .int y3)]) rfl ?_
            exact z_S_top_92 hr  hF
      · replace hF := zh_t cy4 hF
        refine z_goto d_S_top_48 (tgt := 96) (by decide) ?_
        refine z_sub [1, 2, 3, 4, 5, 0] (L' := [(0, .ref (ad 0)), (1, .int x1), (2, .int x2), (3, .int x3), (4, .int x4), (5, .int y3)]) rfl ?_
        exact z_S_top_96 hr (fun a0 a1 a2 a3 a4 a5 => ih a0 a1 a2 a3 a4 a5) hF
def e_S_top_0   (x1 : Int32) (x2 : Int32) (μ : zI) (ν : zJ) : Option (Int32 × zI × zJ) := (if x1 < 0 then e_S_top_13 x1 x2 μ ν else Option.bind (E_S_isWithin x2 0 2 μ ν) fun ty2 => (if ty2.1 = 0 then e_S_top_13 x1 x2 ty2.2.1 ty2.2.2 else f_S_top_20 zFuel x1 x2 0 0 ty2.2.1 ty2.2.2))
theorem z_S_top_0 {l : Launch} {D : va_G} {dA : Nat → ClassId} {ad : Nat → Nat} {sh : List zSE}  (hr : zRo sh)  {x1 : Int32} {x2 : Int32} {μ : zI} {ν : zJ} {out : (Int32 × zI × zJ)} (hF : e_S_top_0   x1 x2 μ ν = some out) : Z l D dA ad sh m_S_top (zR 2 0 0) (zS ad) (zOi out) 0 0 0 0 [] 0 [(0, .ref (ad 0)), (1, .int x1), (2, .int x2)] [] μ ν := by
  unfold e_S_top_0 at hF
  refine z_iload_n d_S_top_0 1 rfl rfl ?_
  refine z_if_lt d_S_top_1 (tgt := 13) (by decide) (fun cy1 => ?_) (fun cy1 => ?_)
  · replace hF := zh_t cy1 hF
    exact z_S_top_13 hr  hF
  · replace hF := zh_f cy1 hF
    refine z_iload_n d_S_top_4 2 rfl rfl ?_
    refine z_iconst d_S_top_5 (v := 0) (by decide) ?_
    refine z_iconst d_S_top_6 (v := 2) (by decide) ?_
    obtain ⟨ty2, hty2, hF⟩ := zh_bind hF
    refine z_callS d_S_top_7 (c_S_isWithin  hty2) ms_S_isWithin l_S_54 (fun _ _ h => h) rfl ⟨Nat.le_of_ble_eq_true rfl, Nat.le_of_ble_eq_true rfl⟩ ⟨Nat.le_of_ble_eq_true rfl, Nat.le_of_ble_eq_true rfl⟩ rfl (Nat.le_of_ble_eq_true rfl) (fun r μ' ν' hq => ?_)
    obtain ⟨rfl, rfl, rfl⟩ := hq
    show Z _ _ _ _ _ _ _ _ _ _ _ 0 0 _ _ _ [.int ty2.1] _ _
    refine z_if_ne d_S_top_10 (tgt := 15) (by decide) (fun cy3 => ?_) (fun cy3 => ?_)
    · replace hF := zh_f cy3 hF
      refine z_iconst d_S_top_15 (v := 0) (by decide) ?_
      refine z_istore_n d_S_top_16 rfl (by decide) (L2 := [(3, .int 0), (0, .ref (ad 0)), (1, .int x1), (2, .int x2)]) rfl ?_
      refine z_iconst d_S_top_17 (v := 0) (by decide) ?_
      refine z_istore d_S_top_18 (by decide) (L2 := [(4, .int 0), (3, .int 0), (0, .ref (ad 0)), (1, .int x1), (2, .int x2)]) rfl ?_
      refine z_sub [2, 3, 4, 1, 0] (L' := [(0, .ref (ad 0)), (1, .int x1), (2, .int x2), (3, .int 0), (4, .int 0)]) rfl ?_
      exact z_S_top_20 hr  zFuel _ _ _ _ _ _ hF
    · replace hF := zh_t cy3 hF
      exact z_S_top_13 hr  hF
def E_S_top  (x1 : Int32) (x2 : Int32) (μ : zI) (ν : zJ) : Option (Int32 × zI × zJ) := e_S_top_0 x1 x2 μ ν
theorem c_S_top {l : Launch} {D : va_G} {dA : Nat → ClassId} {ad : Nat → Nat} {sh : List zSE} {μ : zI} {ν : zJ} {x1 : Int32} {x2 : Int32} (hr : zRo sh) {out : (Int32 × zI × zJ)} (hE : E_S_top x1 x2 μ ν = some out) : zC l D dA ad sh m_S_top 2 0 0 [.ref (ad 0), .int x1, .int x2] μ ν (zOi out) :=
  zC.of (by decide) (Nat.le_of_ble_eq_true rfl) (z_S_top_0 hr hE)
def e_S_best_0   (x1 : Int32) (μ : zI) (ν : zJ) : Option (Int32 × zI × zJ) := (if x1 = 0 then some ((μ (4 + 3) 1), μ, ν) else (if x1 = 1 then some ((μ (4 + 3) 2), μ, ν) else some ((-1), μ, ν)))
theorem z_S_best_0 {l : Launch} {D : va_G} {dA : Nat → ClassId} {ad : Nat → Nat} {sh : List zSE}  (hr : zRo sh)  {x1 : Int32} {μ : zI} {ν : zJ} {out : (Int32 × zI × zJ)} (hF : e_S_best_0   x1 μ ν = some out) : Z l D dA ad sh m_S_best (zR 0 0 0) (zS ad) (zOi out) 0 0 0 0 [] 0 [(0, .ref (ad 0)), (1, .int x1)] [] μ ν := by
  unfold e_S_best_0 at hF
  refine z_iload_n d_S_best_0 1 rfl rfl ?_
  by_cases cy1 : x1 = 0
  · replace hF := zh_t cy1 hF
    refine z_lookup d_S_best_1 (tgt := 28) (off := 27) (by decide) (by rw [cy1]; decide) (by decide) ?_
    refine z_aload_n d_S_best_28 0 rfl rfl ?_
    refine z_getr d_S_best_29 (q := 4) f_S_28 (hr 0 _ rfl) rfl ?_
    refine z_getr d_S_best_32 (q := (4 + 3)) f_S_100 ((zRo_4 hr) 0 _ rfl) rfl ?_
    refine z_get d_S_best_35 f_S_190 ((zRo_4 hr) 3 _ rfl) rfl ?_
    cases hF
    exact z_ireturn d_S_best_38 rfl rfl ⟨rfl, rfl, rfl⟩
  · replace hF := zh_f cy1 hF
    by_cases cy2 : x1 = 1
    · replace hF := zh_t cy2 hF
      refine z_lookup d_S_best_1 (tgt := 39) (off := 38) (by decide) (by rw [cy2]; decide) (by decide) ?_
      refine z_aload_n d_S_best_39 0 rfl rfl ?_
      refine z_getr d_S_best_40 (q := 4) f_S_28 (hr 0 _ rfl) rfl ?_
      refine z_getr d_S_best_43 (q := (4 + 3)) f_S_100 ((zRo_4 hr) 0 _ rfl) rfl ?_
      refine z_get d_S_best_46 f_S_193 ((zRo_4 hr) 3 _ rfl) rfl ?_
      cases hF
      exact z_ireturn d_S_best_49 rfl rfl ⟨rfl, rfl, rfl⟩
    · replace hF := zh_f cy2 hF
      refine z_lookup d_S_best_1 (tgt := 50) (off := 49) (by decide) (by show Op.lookupswitch.offset [(0, 27), (1, 38)] 49 _ = _; rw [lv_osw (k := 0) (a := 0) cy1 (by decide), lv_osw (k := 1) (a := 1) cy2 (by decide)]; rfl) (by decide) ?_
      refine z_iconst d_S_best_50 (v := (-1)) (by decide) ?_
      cases hF
      exact z_ireturn d_S_best_51 rfl rfl ⟨rfl, rfl, rfl⟩
def E_S_best  (x1 : Int32) (μ : zI) (ν : zJ) : Option (Int32 × zI × zJ) := e_S_best_0 x1 μ ν
theorem c_S_best {l : Launch} {D : va_G} {dA : Nat → ClassId} {ad : Nat → Nat} {sh : List zSE} {μ : zI} {ν : zJ} {x1 : Int32} (hr : zRo sh) {out : (Int32 × zI × zJ)} (hE : E_S_best x1 μ ν = some out) : zC l D dA ad sh m_S_best 0 0 0 [.ref (ad 0), .int x1] μ ν (zOi out) :=
  zC.of (by decide) (Nat.le_of_ble_eq_true rfl) (z_S_best_0 hr hE)
def e_S_band_19   (x1 : Int32) (x2 : Int32) (μ : zI) (ν : zJ) : Option (Int32 × zI × zJ) := some ((-1), μ, ν)
theorem z_S_band_19 {l : Launch} {D : va_G} {dA : Nat → ClassId} {ad : Nat → Nat} {sh : List zSE}  (hr : zRo sh)  {x1 : Int32} {x2 : Int32} {μ : zI} {ν : zJ} {out : (Int32 × zI × zJ)} (hF : e_S_band_19   x1 x2 μ ν = some out) : Z l D dA ad sh m_S_band (zR 1 0 0) (zS ad) (zOi out) 0 0 0 0 [] 19 [(0, .ref (ad 0)), (1, .int x1), (2, .int x2)] [] μ ν := by
  unfold e_S_band_19 at hF
  refine z_iconst d_S_band_19 (v := (-1)) (by decide) ?_
  cases hF
  exact z_ireturn d_S_band_20 rfl rfl ⟨rfl, rfl, rfl⟩
def e_S_band_104  (r48 : Int32 → Int32 → Int32 → Int32 → Int32 → Int32 → zI → zJ → Option (Int32 × zI × zJ)) (x1 : Int32) (x2 : Int32) (x3 : Int32) (x4 : Int32) (x5 : Int32) (x6 : Int32) (μ : zI) (ν : zJ) : Option (Int32 × zI × zJ) := r48 x1 x2 x3 x4 x5 (x6 + 1) μ ν
theorem z_S_band_104 {l : Launch} {D : va_G} {dA : Nat → ClassId} {ad : Nat → Nat} {sh : List zSE}  (hr : zRo sh) {r48 : Int32 → Int32 → Int32 → Int32 → Int32 → Int32 → zI → zJ → Option (Int32 × zI × zJ)} {x1 : Int32} {x2 : Int32} {x3 : Int32} {x4 : Int32} {x5 : Int32} {x6 : Int32} {μ : zI} {ν : zJ} {out : (Int32 × zI × zJ)} (hr48 : ∀ (x1 : Int32) (x2 : Int32) (x3 : Int32) (x4 : Int32) (x5 : Int32) (x6 : Int32) (μ : zI) (ν : zJ), r48 x1 x2 x3 x4 x5 x6 μ ν = some out → Z l D dA ad sh m_S_band (zR 1 0 0) (zS ad) (zOi out) 0 0 0 0 [] 48 [(0, .ref (ad 0)), (1, .int x1), (2, .int x2), (3, .int x3), (4, .int x4), (5, .int x5), (6, .int x6)] [] μ ν) (hF : e_S_band_104  r48 x1 x2 x3 x4 x5 x6 μ ν = some out) : Z l D dA ad sh m_S_band (zR 1 0 0) (zS ad) (zOi out) 0 0 0 0 [] 104 [(0, .ref (ad 0)), (1, .int x1), (2, .int x2), (3, .int x3), (4, .int x4), (5, .int x5), (6, .int x6)] [] μ ν := by
  unfold e_S_band_104 at hF
  refine z_iinc d_S_band_104 (k := 6) (v := (x6 + 1)) rfl rfl (by decide) (L2 := [(6, .int (x6 + 1)), (0, .ref (ad 0)), (1, .int x1), (2, .int x2), (3, .int x3), (4, .int x4), (5, .int x5)]) rfl ?_
  refine z_goto d_S_band_107 (tgt := 48) (by decide) ?_
  refine z_sub [1, 2, 3, 4, 5, 6, 0] (L' := [(0, .ref (ad 0)), (1, .int x1), (2, .int x2), (3, .int x3), (4, .int x4), (5, .int x5), (6, .int (x6 + 1))]) rfl ?_
  exact hr48 _ _ _ _ _ _ _ _ hF
def e_S_band_96  (r48 : Int32 → Int32 → Int32 → Int32 → Int32 → Int32 → zI → zJ → Option (Int32 × zI × zJ)) (x1 : Int32) (x2 : Int32) (x3 : Int32) (x4 : Int32) (x5 : Int32) (x6 : Int32) (s0 : Int32) (μ : zI) (ν : zJ) : Option (Int32 × zI × zJ) := e_S_band_104 r48 x1 x2 s0 x6 (x5 + 1) x6 μ ν
theorem z_S_band_96 {l : Launch} {D : va_G} {dA : Nat → ClassId} {ad : Nat → Nat} {sh : List zSE}  (hr : zRo sh) {r48 : Int32 → Int32 → Int32 → Int32 → Int32 → Int32 → zI → zJ → Option (Int32 × zI × zJ)} {x1 : Int32} {x2 : Int32} {x3 : Int32} {x4 : Int32} {x5 : Int32} {x6 : Int32} {s0 : Int32} {μ : zI} {ν : zJ} {out : (Int32 × zI × zJ)} (hr48 : ∀ (x1 : Int32) (x2 : Int32) (x3 : Int32) (x4 : Int32) (x5 : Int32) (x6 : Int32) (μ : zI) (ν : zJ), r48 x1 x2 x3 x4 x5 x6 μ ν = some out → Z l D dA ad sh m_S_band (zR 1 0 0) (zS ad) (zOi out) 0 0 0 0 [] 48 [(0, .ref (ad 0)), (1, .int x1), (2, .int x2), (3, .int x3), (4, .int x4), (5, .int x5), (6, .int x6)] [] μ ν) (hF : e_S_band_96  r48 x1 x2 x3 x4 x5 x6 s0 μ ν = some out) : Z l D dA ad sh m_S_band (zR 1 0 0) (zS ad) (zOi out) 0 0 0 0 [] 96 [(0, .ref (ad 0)), (1, .int x1), (2, .int x2), (3, .int x3), (4, .int x4), (5, .int x5), (6, .int x6)] [.int s0] μ ν := by
  unfold e_S_band_96 at hF
  refine z_istore_n d_S_band_96 rfl (by decide) (L2 := [(3, .int s0), (0, .ref (ad 0)), (1, .int x1), (2, .int x2), (4, .int x4), (5, .int x5), (6, .int x6)]) rfl ?_
  refine z_iload d_S_band_97 6 rfl ?_
  refine z_istore d_S_band_99 (by decide) (L2 := [(4, .int x6), (3, .int s0), (0, .ref (ad 0)), (1, .int x1), (2, .int x2), (5, .int x5), (6, .int x6)]) rfl ?_
  refine z_iinc d_S_band_101 (k := 5) (v := (x5 + 1)) rfl rfl (by decide) (L2 := [(5, .int (x5 + 1)), (4, .int x6), (3, .int s0), (0, .ref (ad 0)), (1, .int x1), (2, .int x2), (6, .int x6)]) rfl ?_
  refine z_sub [3, 4, 5, 2, 1, 0, 6] (L' := [(0, .ref (ad 0)), (1, .int x1), (2, .int x2), (3, .int s0), (4, .int x6), (5, .int (x5 + 1)), (6, .int x6)]) rfl ?_
  exact z_S_band_104 hr hr48 hF
def e_S_band_130   (x1 : Int32) (x2 : Int32) (x3 : Int32) (x4 : Int32) (x5 : Int32) (x6 : Int32) (s0 : Int32) (μ : zI) (ν : zJ) : Option (Int32 × zI × zJ) := some (s0, μ, ν)
theorem z_S_band_130 {l : Launch} {D : va_G} {dA : Nat → ClassId} {ad : Nat → Nat} {sh : List zSE}  (hr : zRo sh)  {x1 : Int32} {x2 : Int32} {x3 : Int32} {x4 : Int32} {x5 : Int32} {x6 : Int32} {s0 : Int32} {μ : zI} {ν : zJ} {out : (Int32 × zI × zJ)} (hF : e_S_band_130   x1 x2 x3 x4 x5 x6 s0 μ ν = some out) : Z l D dA ad sh m_S_band (zR 1 0 0) (zS ad) (zOi out) 0 0 0 0 [] 130 [(0, .ref (ad 0)), (1, .int x1), (2, .int x2), (3, .int x3), (4, .int x4), (5, .int x5), (6, .int x6)] [.int s0] μ ν := by
  unfold e_S_band_130 at hF
  cases hF
  exact z_ireturn d_S_band_130 rfl rfl ⟨rfl, rfl, rfl⟩
def f_S_band_48   : Nat → Int32 → Int32 → Int32 → Int32 → Int32 → Int32 → zI → zJ → Option (Int32 × zI × zJ)
  | 0, _, _, _, _, _, _, _, _ => none
  | n + 1, x1, x2, x3, x4, x5, x6, μ, ν => (if 1000 ≤ x6 then (if x2 = 0 then e_S_band_130 x1 x2 x3 x4 x5 x6 x3 μ ν else (if x2 = 1 then e_S_band_130 x1 x2 x3 x4 x5 x6 x4 μ ν else e_S_band_130 x1 x2 x3 x4 x5 x6 x5 μ ν)) else Option.bind (E_Panel_powerAt 4 x6 μ ν) fun ty4 => Option.bind (E_S_isNear ty4.1 x1 (ty4.2.1 (4 + 3) 2) ty4.2.1 ty4.2.2) fun ty5 => (if ty5.1 = 0 then e_S_band_104 (f_S_band_48  n) x1 x2 x3 x4 x5 x6 ty5.2.1 ty5.2.2 else (if x3 = (-1) then e_S_band_96 (f_S_band_48  n) x1 x2 x3 x4 x5 x6 x6 ty5.2.1 ty5.2.2 else e_S_band_96 (f_S_band_48  n) x1 x2 x3 x4 x5 x6 x3 ty5.2.1 ty5.2.2)))
theorem z_S_band_48 {l : Launch} {D : va_G} {dA : Nat → ClassId} {ad : Nat → Nat} {sh : List zSE}  (hr : zRo sh)  {out : (Int32 × zI × zJ)} : ∀ (n : Nat) (x1 : Int32) (x2 : Int32) (x3 : Int32) (x4 : Int32) (x5 : Int32) (x6 : Int32) (μ : zI) (ν : zJ), f_S_band_48   n x1 x2 x3 x4 x5 x6 μ ν = some out → Z l D dA ad sh m_S_band (zR 1 0 0) (zS ad) (zOi out) 0 0 0 0 [] 48 [(0, .ref (ad 0)), (1, .int x1), (2, .int x2), (3, .int x3), (4, .int x4), (5, .int x5), (6, .int x6)] [] μ ν := by
  intro n
  induction n with
  | zero => intro x1 x2 x3 x4 x5 x6 μ ν hF; cases hF
  | succ n ih =>
    intro x1 x2 x3 x4 x5 x6 μ ν hF
    dsimp only [f_S_band_48] at hF
    refine z_iload d_S_band_48 6 rfl ?_
    refine z_sipush d_S_band_50 (v := 1000) (by decide) ?_
    refine z_icmp_ge d_S_band_53 (tgt := 110) (by decide) (fun cy1 => ?_) (fun cy1 => ?_)
    · replace hF := zh_t cy1 hF
      refine z_iload_n d_S_band_110 2 rfl rfl ?_
      refine z_if_ne d_S_band_111 (tgt := 118) (by decide) (fun cy2 => ?_) (fun cy2 => ?_)
      · replace hF := zh_f cy2 hF
        refine z_iload_n d_S_band_118 2 rfl rfl ?_
        refine z_iconst d_S_band_119 (v := 1) (by decide) ?_
        refine z_icmp_ne d_S_band_120 (tgt := 128) (by decide) (fun cy3 => ?_) (fun cy3 => ?_)
        · replace hF := zh_f cy3 hF
          refine z_iload d_S_band_128 5 rfl ?_
          exact z_S_band_130 hr  hF
        · replace hF := zh_t cy3 hF
          refine z_iload d_S_band_123 4 rfl ?_
          refine z_goto d_S_band_125 (tgt := 130) (by decide) ?_
          exact z_S_band_130 hr  hF
      · replace hF := zh_t cy2 hF
        refine z_iload_n d_S_band_114 3 rfl rfl ?_
        refine z_goto d_S_band_115 (tgt := 130) (by decide) ?_
        exact z_S_band_130 hr  hF
    · replace hF := zh_f cy1 hF
      refine z_aload_n d_S_band_56 0 rfl rfl ?_
      refine z_getr d_S_band_57 (q := 4) f_S_28 (hr 0 _ rfl) rfl ?_
      refine z_getr d_S_band_60 (q := (4 + 3)) f_S_100 ((zRo_4 hr) 0 _ rfl) rfl ?_
      refine z_iload d_S_band_63 6 rfl ?_
      obtain ⟨ty4, hty4, hF⟩ := zh_bind hF
      refine z_callV d_S_band_65 (c_Panel_powerAt (zRo_4 hr) hty4) mv_Panel_powerAt l_S_184 (fun _ _ h => h) ((zRo_4 hr) 3 _ rfl) rfl rfl ⟨Nat.le_of_ble_eq_true rfl, Nat.le_of_ble_eq_true rfl⟩ ⟨Nat.le_of_ble_eq_true rfl, Nat.le_of_ble_eq_true rfl⟩ rfl (Nat.le_of_ble_eq_true rfl) (fun r μ' ν' hq => ?_)
      obtain ⟨rfl, rfl, rfl⟩ := hq
      show Z _ _ _ _ _ _ _ _ _ _ _ 0 0 _ _ _ [.int ty4.1] _ _
      refine z_iload_n d_S_band_68 1 rfl rfl ?_
      refine z_aload_n d_S_band_69 0 rfl rfl ?_
      refine z_getr d_S_band_70 (q := 4) f_S_28 (hr 0 _ rfl) rfl ?_
      refine z_getr d_S_band_73 (q := (4 + 3)) f_S_100 ((zRo_4 hr) 0 _ rfl) rfl ?_
      refine z_get d_S_band_76 f_S_193 ((zRo_4 hr) 3 _ rfl) rfl ?_
      obtain ⟨ty5, hty5, hF⟩ := zh_bind hF
      refine z_callS d_S_band_79 (c_S_isNear  hty5) ms_S_isNear l_S_196 (fun _ _ h => h) rfl ⟨Nat.le_of_ble_eq_true rfl, Nat.le_of_ble_eq_true rfl⟩ ⟨Nat.le_of_ble_eq_true rfl, Nat.le_of_ble_eq_true rfl⟩ rfl (Nat.le_of_ble_eq_true rfl) (fun r μ' ν' hq => ?_)
      obtain ⟨rfl, rfl, rfl⟩ := hq
      show Z _ _ _ _ _ _ _ _ _ _ _ 0 0 _ _ _ [.int ty5.1] _ _
      refine z_if_eq d_S_band_82 (tgt := 104) (by decide) (fun cy6 => ?_) (fun cy6 => ?_)
      · replace hF := zh_t cy6 hF
        exact z_S_band_104 hr (fun a0 a1 a2 a3 a4 a5 a6 a7 => ih a0 a1 a2 a3 a4 a5 a6 a7) hF
      · replace hF := zh_f cy6 hF
        refine z_iload_n d_S_band_85 3 rfl rfl ?_
        refine z_iconst d_S_band_86 (v := (-1)) (by decide) ?_
        refine z_icmp_ne d_S_band_87 (tgt := 95) (by decide) (fun cy7 => ?_) (fun cy7 => ?_)
        · replace hF := zh_f cy7 hF
          refine z_iload_n d_S_band_95 3 rfl rfl ?_
          exact z_S_band_96 hr (fun a0 a1 a2 a3 a4 a5 a6 a7 => ih a0 a1 a2 a3 a4 a5 a6 a7) hF
        · replace hF := zh_t cy7 hF
          refine z_iload d_S_band_90 6 rfl ?_
          refine z_goto d_S_band_92 (tgt := 96) (by decide) ?_
          exact z_S_band_96 hr (fun a0 a1 a2 a3 a4 a5 a6 a7 => ih a0 a1 a2 a3 a4 a5 a6 a7) hF
def e_S_band_0   (x1 : Int32) (x2 : Int32) (μ : zI) (ν : zJ) : Option (Int32 × zI × zJ) := Option.bind (E_S_isWithin x1 1 100 μ ν) fun ty1 => (if ty1.1 = 0 then e_S_band_19 x1 x2 ty1.2.1 ty1.2.2 else Option.bind (E_S_isWithin x2 0 2 ty1.2.1 ty1.2.2) fun ty3 => (if ty3.1 = 0 then e_S_band_19 x1 x2 ty3.2.1 ty3.2.2 else (if (ty3.2.1 (4 + 3) 2) = 0 then some ((-2), ty3.2.1, ty3.2.2) else f_S_band_48 zFuel x1 x2 (-1) (-1) 0 0 ty3.2.1 ty3.2.2)))
theorem z_S_band_0 {l : Launch} {D : va_G} {dA : Nat → ClassId} {ad : Nat → Nat} {sh : List zSE}  (hr : zRo sh)  {x1 : Int32} {x2 : Int32} {μ : zI} {ν : zJ} {out : (Int32 × zI × zJ)} (hF : e_S_band_0   x1 x2 μ ν = some out) : Z l D dA ad sh m_S_band (zR 1 0 0) (zS ad) (zOi out) 0 0 0 0 [] 0 [(0, .ref (ad 0)), (1, .int x1), (2, .int x2)] [] μ ν := by
  unfold e_S_band_0 at hF
  refine z_iload_n d_S_band_0 1 rfl rfl ?_
  refine z_iconst d_S_band_1 (v := 1) (by decide) ?_
  refine z_bipush d_S_band_2 (v := 100) (by decide) ?_
  obtain ⟨ty1, hty1, hF⟩ := zh_bind hF
  refine z_callS d_S_band_4 (c_S_isWithin  hty1) ms_S_isWithin l_S_54 (fun _ _ h => h) rfl ⟨Nat.le_of_ble_eq_true rfl, Nat.le_of_ble_eq_true rfl⟩ ⟨Nat.le_of_ble_eq_true rfl, Nat.le_of_ble_eq_true rfl⟩ rfl (Nat.le_of_ble_eq_true rfl) (fun r μ' ν' hq => ?_)
  obtain ⟨rfl, rfl, rfl⟩ := hq
  show Z _ _ _ _ _ _ _ _ _ _ _ 0 0 _ _ _ [.int ty1.1] _ _
  refine z_if_eq d_S_band_7 (tgt := 19) (by decide) (fun cy2 => ?_) (fun cy2 => ?_)
  · replace hF := zh_t cy2 hF
    exact z_S_band_19 hr  hF
  · replace hF := zh_f cy2 hF
    refine z_iload_n d_S_band_10 2 rfl rfl ?_
    refine z_iconst d_S_band_11 (v := 0) (by decide) ?_
    refine z_iconst d_S_band_12 (v := 2) (by decide) ?_
    obtain ⟨ty3, hty3, hF⟩ := zh_bind hF
    refine z_callS d_S_band_13 (c_S_isWithin  hty3) ms_S_isWithin l_S_54 (fun _ _ h => h) rfl ⟨Nat.le_of_ble_eq_true rfl, Nat.le_of_ble_eq_true rfl⟩ ⟨Nat.le_of_ble_eq_true rfl, Nat.le_of_ble_eq_true rfl⟩ rfl (Nat.le_of_ble_eq_true rfl) (fun r μ' ν' hq => ?_)
    obtain ⟨rfl, rfl, rfl⟩ := hq
    show Z _ _ _ _ _ _ _ _ _ _ _ 0 0 _ _ _ [.int ty3.1] _ _
    refine z_if_ne d_S_band_16 (tgt := 21) (by decide) (fun cy4 => ?_) (fun cy4 => ?_)
    · replace hF := zh_f cy4 hF
      refine z_aload_n d_S_band_21 0 rfl rfl ?_
      refine z_getr d_S_band_22 (q := 4) f_S_28 (hr 0 _ rfl) rfl ?_
      refine z_getr d_S_band_25 (q := (4 + 3)) f_S_100 ((zRo_4 hr) 0 _ rfl) rfl ?_
      refine z_get d_S_band_28 f_S_193 ((zRo_4 hr) 3 _ rfl) rfl ?_
      refine z_if_ne d_S_band_31 (tgt := 37) (by decide) (fun cy5 => ?_) (fun cy5 => ?_)
      · replace hF := zh_f cy5 hF
        refine z_iconst d_S_band_37 (v := (-1)) (by decide) ?_
        refine z_istore_n d_S_band_38 rfl (by decide) (L2 := [(3, .int (-1)), (0, .ref (ad 0)), (1, .int x1), (2, .int x2)]) rfl ?_
        refine z_iconst d_S_band_39 (v := (-1)) (by decide) ?_
        refine z_istore d_S_band_40 (by decide) (L2 := [(4, .int (-1)), (3, .int (-1)), (0, .ref (ad 0)), (1, .int x1), (2, .int x2)]) rfl ?_
        refine z_iconst d_S_band_42 (v := 0) (by decide) ?_
        refine z_istore d_S_band_43 (by decide) (L2 := [(5, .int 0), (4, .int (-1)), (3, .int (-1)), (0, .ref (ad 0)), (1, .int x1), (2, .int x2)]) rfl ?_
        refine z_iconst d_S_band_45 (v := 0) (by decide) ?_
        refine z_istore d_S_band_46 (by decide) (L2 := [(6, .int 0), (5, .int 0), (4, .int (-1)), (3, .int (-1)), (0, .ref (ad 0)), (1, .int x1), (2, .int x2)]) rfl ?_
        refine z_sub [4, 5, 6, 3, 2, 1, 0] (L' := [(0, .ref (ad 0)), (1, .int x1), (2, .int x2), (3, .int (-1)), (4, .int (-1)), (5, .int 0), (6, .int 0)]) rfl ?_
        exact z_S_band_48 hr  zFuel _ _ _ _ _ _ _ _ hF
      · replace hF := zh_t cy5 hF
        refine z_bipush d_S_band_34 (v := (-2)) (by decide) ?_
        cases hF
        exact z_ireturn d_S_band_36 rfl rfl ⟨rfl, rfl, rfl⟩
    · replace hF := zh_t cy4 hF
      exact z_S_band_19 hr  hF
def E_S_band  (x1 : Int32) (x2 : Int32) (μ : zI) (ν : zJ) : Option (Int32 × zI × zJ) := e_S_band_0 x1 x2 μ ν
theorem c_S_band {l : Launch} {D : va_G} {dA : Nat → ClassId} {ad : Nat → Nat} {sh : List zSE} {μ : zI} {ν : zJ} {x1 : Int32} {x2 : Int32} (hr : zRo sh) {out : (Int32 × zI × zJ)} (hE : E_S_band x1 x2 μ ν = some out) : zC l D dA ad sh m_S_band 1 0 0 [.ref (ad 0), .int x1, .int x2] μ ν (zOi out) :=
  zC.of (by decide) (Nat.le_of_ble_eq_true rfl) (z_S_band_0 hr hE)
def e_S_climbed_52   (x1 : Int32) (x2 : Int32) (x3 : Int32) (μ : zI) (ν : zJ) : Option (Int32 × zI × zJ) := some (x2, μ, ν)
theorem z_S_climbed_52 {l : Launch} {D : va_G} {dA : Nat → ClassId} {ad : Nat → Nat} {sh : List zSE}  (hr : zRo sh)  {x1 : Int32} {x2 : Int32} {x3 : Int32} {μ : zI} {ν : zJ} {out : (Int32 × zI × zJ)} (hF : e_S_climbed_52   x1 x2 x3 μ ν = some out) : Z l D dA ad sh m_S_climbed (zR 2 0 0) (zS ad) (zOi out) 0 0 0 0 [] 52 [(0, .ref (ad 0)), (1, .int x1), (2, .int x2), (3, .int x3)] [] μ ν := by
  unfold e_S_climbed_52 at hF
  refine z_iload_n d_S_climbed_52 2 rfl rfl ?_
  cases hF
  exact z_ireturn d_S_climbed_53 rfl rfl ⟨rfl, rfl, rfl⟩
def f_S_climbed_13   : Nat → Int32 → Int32 → Int32 → zI → zJ → Option (Int32 × zI × zJ)
  | 0, _, _, _, _, _ => none
  | n + 1, x1, x2, x3, μ, ν => (if 1000 ≤ x3 then e_S_climbed_52 x1 x2 x3 μ ν else Option.bind (E_Panel_steeperWay 4 x2 μ ν) fun ty2 => zlet (α := Int32) ty2.1 fun y3 => (if y3 = 0 then e_S_climbed_52 x1 x2 x3 ty2.2.1 ty2.2.2 else zlet (α := Int32) (x2 + y3) fun y5 => (f_S_climbed_13  n) x1 y5 (x3 + 1) ty2.2.1 ty2.2.2))
theorem z_S_climbed_13 {l : Launch} {D : va_G} {dA : Nat → ClassId} {ad : Nat → Nat} {sh : List zSE}  (hr : zRo sh)  {out : (Int32 × zI × zJ)} : ∀ (n : Nat) (x1 : Int32) (x2 : Int32) (x3 : Int32) (μ : zI) (ν : zJ), f_S_climbed_13   n x1 x2 x3 μ ν = some out → Z l D dA ad sh m_S_climbed (zR 2 0 0) (zS ad) (zOi out) 0 0 0 0 [] 13 [(0, .ref (ad 0)), (1, .int x1), (2, .int x2), (3, .int x3)] [] μ ν := by
  intro n
  induction n with
  | zero => intro x1 x2 x3 μ ν hF; cases hF
  | succ n ih =>
    intro x1 x2 x3 μ ν hF
    dsimp only [f_S_climbed_13] at hF
    refine z_iload_n d_S_climbed_13 3 rfl rfl ?_
    refine z_sipush d_S_climbed_14 (v := 1000) (by decide) ?_
    refine z_icmp_ge d_S_climbed_17 (tgt := 52) (by decide) (fun cy1 => ?_) (fun cy1 => ?_)
    · replace hF := zh_t cy1 hF
      exact z_S_climbed_52 hr  hF
    · replace hF := zh_f cy1 hF
      refine z_aload_n d_S_climbed_20 0 rfl rfl ?_
      refine z_getr d_S_climbed_21 (q := 4) f_S_28 (hr 0 _ rfl) rfl ?_
      refine z_getr d_S_climbed_24 (q := (4 + 3)) f_S_100 ((zRo_4 hr) 0 _ rfl) rfl ?_
      refine z_iload_n d_S_climbed_27 2 rfl rfl ?_
      obtain ⟨ty2, hty2, hF⟩ := zh_bind hF
      refine z_callV d_S_climbed_28 (c_Panel_steeperWay (zRo_4 hr) hty2) mv_Panel_steeperWay l_S_199 (fun _ _ h => h) ((zRo_4 hr) 3 _ rfl) rfl rfl ⟨Nat.le_of_ble_eq_true rfl, Nat.le_of_ble_eq_true rfl⟩ ⟨Nat.le_of_ble_eq_true rfl, Nat.le_of_ble_eq_true rfl⟩ rfl (Nat.le_of_ble_eq_true rfl) (fun r μ' ν' hq => ?_)
      obtain ⟨rfl, rfl, rfl⟩ := hq
      show Z _ _ _ _ _ _ _ _ _ _ _ 0 0 _ _ _ [.int ty2.1] _ _
      obtain ⟨y3, hy3, hF⟩ := zh_let hF
      refine z_eqi hy3 ?_
      refine z_istore d_S_climbed_31 (by decide) (L2 := [(4, .int y3), (0, .ref (ad 0)), (1, .int x1), (2, .int x2), (3, .int x3)]) rfl ?_
      refine z_iload d_S_climbed_33 0 rfl ?_
      refine z_if_ne d_S_climbed_35 (tgt := 41) (by decide) (fun cy4 => ?_) (fun cy4 => ?_)
      · replace hF := zh_f cy4 hF
        refine z_iload_n d_S_climbed_41 3 rfl rfl ?_
        refine z_iload d_S_climbed_42 0 rfl ?_
        refine z_iadd d_S_climbed_44 ?_
        obtain ⟨y5, hy5, hF⟩ := zh_let hF
        refine z_eqi hy5 ?_
        refine z_istore_n d_S_climbed_45 rfl (by decide) (L2 := [(2, .int y5), (4, .int y3), (0, .ref (ad 0)), (1, .int x1), (3, .int x3)]) rfl ?_
        refine z_iinc d_S_climbed_46 (k := 4) (v := (x3 + 1)) rfl rfl (by decide) (L2 := [(3, .int (x3 + 1)), (2, .int y5), (4, .int y3), (0, .ref (ad 0)), (1, .int x1)]) rfl ?_
        refine z_goto d_S_climbed_49 (tgt := 13) (by decide) ?_
        refine z_sub [3, 4, 1, 0] (L' := [(0, .ref (ad 0)), (1, .int x1), (2, .int y5), (3, .int (x3 + 1))]) rfl ?_
        exact ih _ _ _ _ _ hF
      · replace hF := zh_t cy4 hF
        refine z_goto d_S_climbed_38 (tgt := 52) (by decide) ?_
        refine z_sub [1, 2, 3, 4] (L' := [(0, .ref (ad 0)), (1, .int x1), (2, .int x2), (3, .int x3)]) rfl ?_
        exact z_S_climbed_52 hr  hF
def e_S_climbed_0   (x1 : Int32) (μ : zI) (ν : zJ) : Option (Int32 × zI × zJ) := Option.bind (E_Panel_isPoint x1 μ ν) fun ty1 => (if ty1.1 = 0 then some ((-1), ty1.2.1, ty1.2.2) else f_S_climbed_13 zFuel x1 x1 0 ty1.2.1 ty1.2.2)
theorem z_S_climbed_0 {l : Launch} {D : va_G} {dA : Nat → ClassId} {ad : Nat → Nat} {sh : List zSE}  (hr : zRo sh)  {x1 : Int32} {μ : zI} {ν : zJ} {out : (Int32 × zI × zJ)} (hF : e_S_climbed_0   x1 μ ν = some out) : Z l D dA ad sh m_S_climbed (zR 2 0 0) (zS ad) (zOi out) 0 0 0 0 [] 0 [(0, .ref (ad 0)), (1, .int x1)] [] μ ν := by
  unfold e_S_climbed_0 at hF
  refine z_iload_n d_S_climbed_0 1 rfl rfl ?_
  obtain ⟨ty1, hty1, hF⟩ := zh_bind hF
  refine z_callS d_S_climbed_1 (c_Panel_isPoint  hty1) ms_Panel_isPoint l_S_178 (fun _ _ h => h) rfl ⟨Nat.le_of_ble_eq_true rfl, Nat.le_of_ble_eq_true rfl⟩ ⟨Nat.le_of_ble_eq_true rfl, Nat.le_of_ble_eq_true rfl⟩ rfl (Nat.le_of_ble_eq_true rfl) (fun r μ' ν' hq => ?_)
  obtain ⟨rfl, rfl, rfl⟩ := hq
  show Z _ _ _ _ _ _ _ _ _ _ _ 0 0 _ _ _ [.int ty1.1] _ _
  refine z_if_ne d_S_climbed_4 (tgt := 9) (by decide) (fun cy2 => ?_) (fun cy2 => ?_)
  · replace hF := zh_f cy2 hF
    refine z_iload_n d_S_climbed_9 1 rfl rfl ?_
    refine z_istore_n d_S_climbed_10 rfl (by decide) (L2 := [(2, .int x1), (0, .ref (ad 0)), (1, .int x1)]) rfl ?_
    refine z_iconst d_S_climbed_11 (v := 0) (by decide) ?_
    refine z_istore_n d_S_climbed_12 rfl (by decide) (L2 := [(3, .int 0), (2, .int x1), (0, .ref (ad 0)), (1, .int x1)]) rfl ?_
    refine z_sub [2, 3, 1, 0] (L' := [(0, .ref (ad 0)), (1, .int x1), (2, .int x1), (3, .int 0)]) rfl ?_
    exact z_S_climbed_13 hr  zFuel _ _ _ _ _ hF
  · replace hF := zh_t cy2 hF
    refine z_iconst d_S_climbed_7 (v := (-1)) (by decide) ?_
    cases hF
    exact z_ireturn d_S_climbed_8 rfl rfl ⟨rfl, rfl, rfl⟩
def E_S_climbed  (x1 : Int32) (μ : zI) (ν : zJ) : Option (Int32 × zI × zJ) := e_S_climbed_0 x1 μ ν
theorem c_S_climbed {l : Launch} {D : va_G} {dA : Nat → ClassId} {ad : Nat → Nat} {sh : List zSE} {μ : zI} {ν : zJ} {x1 : Int32} (hr : zRo sh) {out : (Int32 × zI × zJ)} (hE : E_S_climbed x1 μ ν = some out) : zC l D dA ad sh m_S_climbed 2 0 0 [.ref (ad 0), .int x1] μ ν (zOi out) :=
  zC.of (by decide) (Nat.le_of_ble_eq_true rfl) (z_S_climbed_0 hr hE)
def e_S_bestIfLight_0   (x1 : Int32) (x2 : Int32) (μ : zI) (ν : zJ) : Option (Int32 × zI × zJ) := Option.bind (E_Panel_copyFrom 19 4 μ ν) fun ty1 => Option.bind (E_Panel_setLight 19 x1 x2 ty1.1 ty1.2) fun ty2 => Option.bind (E_Panel_reckon 19 ty2.1 ty2.2) fun ty3 => some ((ty3.1 (19 + 3) 2), ty3.1, ty3.2)
theorem z_S_bestIfLight_0 {l : Launch} {D : va_G} {dA : Nat → ClassId} {ad : Nat → Nat} {sh : List zSE}  (hr : zRo sh)  {x1 : Int32} {x2 : Int32} {μ : zI} {ν : zJ} {out : (Int32 × zI × zJ)} (hF : e_S_bestIfLight_0   x1 x2 μ ν = some out) : Z l D dA ad sh m_S_bestIfLight (zR 3 0 0) (zS ad) (zOi out) 0 0 0 0 [] 0 [(0, .ref (ad 0)), (1, .int x1), (2, .int x2)] [] μ ν := by
  unfold e_S_bestIfLight_0 at hF
  refine z_aload_n d_S_bestIfLight_0 0 rfl rfl ?_
  refine z_getr d_S_bestIfLight_1 (q := 19) f_S_32 (hr 0 _ rfl) rfl ?_
  refine z_getr d_S_bestIfLight_4 (q := (19 + 3)) f_S_100 ((zRo_19 hr) 0 _ rfl) rfl ?_
  refine z_aload_n d_S_bestIfLight_7 0 rfl rfl ?_
  refine z_getr d_S_bestIfLight_8 (q := 4) f_S_28 (hr 0 _ rfl) rfl ?_
  refine z_getr d_S_bestIfLight_11 (q := (4 + 3)) f_S_100 ((zRo_4 hr) 0 _ rfl) rfl ?_
  obtain ⟨ty1, hty1, hF⟩ := zh_bind hF
  refine z_callV d_S_bestIfLight_14 (c_Panel_copyFrom (zRo_19 hr) (zRo_4 hr) hty1) mv_Panel_copyFrom l_S_300 (fun _ _ h => h) ((zRo_19 hr) 3 _ rfl) rfl rfl ⟨Nat.le_of_ble_eq_true rfl, Nat.le_of_ble_eq_true rfl⟩ ⟨Nat.le_of_ble_eq_true rfl, Nat.le_of_ble_eq_true rfl⟩ rfl (Nat.le_of_ble_eq_true rfl) (fun r μ' ν' hq => ?_)
  obtain ⟨rfl, rfl, rfl⟩ := hq
  show Z _ _ _ _ _ _ _ _ _ _ _ 0 0 _ _ _ [] _ _
  refine z_aload_n d_S_bestIfLight_17 0 rfl rfl ?_
  refine z_getr d_S_bestIfLight_18 (q := 19) f_S_32 (hr 0 _ rfl) rfl ?_
  refine z_getr d_S_bestIfLight_21 (q := (19 + 3)) f_S_100 ((zRo_19 hr) 0 _ rfl) rfl ?_
  refine z_iload_n d_S_bestIfLight_24 1 rfl rfl ?_
  refine z_iload_n d_S_bestIfLight_25 2 rfl rfl ?_
  obtain ⟨ty2, hty2, hF⟩ := zh_bind hF
  refine z_callV d_S_bestIfLight_26 (c_Panel_setLight (zRo_19 hr) hty2) mv_Panel_setLight l_S_110 (fun _ _ h => h) ((zRo_19 hr) 3 _ rfl) rfl rfl ⟨Nat.le_of_ble_eq_true rfl, Nat.le_of_ble_eq_true rfl⟩ ⟨Nat.le_of_ble_eq_true rfl, Nat.le_of_ble_eq_true rfl⟩ rfl (Nat.le_of_ble_eq_true rfl) (fun r μ' ν' hq => ?_)
  obtain ⟨rfl, rfl, rfl⟩ := hq
  show Z _ _ _ _ _ _ _ _ _ _ _ 0 0 _ _ _ [] _ _
  refine z_aload_n d_S_bestIfLight_29 0 rfl rfl ?_
  refine z_getr d_S_bestIfLight_30 (q := 19) f_S_32 (hr 0 _ rfl) rfl ?_
  refine z_getr d_S_bestIfLight_33 (q := (19 + 3)) f_S_100 ((zRo_19 hr) 0 _ rfl) rfl ?_
  obtain ⟨ty3, hty3, hF⟩ := zh_bind hF
  refine z_callV d_S_bestIfLight_36 (c_Panel_reckon (zRo_19 hr) hty3) mv_Panel_reckon l_S_114 (fun _ _ h => h) ((zRo_19 hr) 3 _ rfl) rfl rfl ⟨Nat.le_of_ble_eq_true rfl, Nat.le_of_ble_eq_true rfl⟩ ⟨Nat.le_of_ble_eq_true rfl, Nat.le_of_ble_eq_true rfl⟩ rfl (Nat.le_of_ble_eq_true rfl) (fun r μ' ν' hq => ?_)
  obtain ⟨rfl, rfl, rfl⟩ := hq
  show Z _ _ _ _ _ _ _ _ _ _ _ 0 0 _ _ _ [] _ _
  refine z_aload_n d_S_bestIfLight_39 0 rfl rfl ?_
  refine z_getr d_S_bestIfLight_40 (q := 19) f_S_32 (hr 0 _ rfl) rfl ?_
  refine z_getr d_S_bestIfLight_43 (q := (19 + 3)) f_S_100 ((zRo_19 hr) 0 _ rfl) rfl ?_
  refine z_get d_S_bestIfLight_46 f_S_193 ((zRo_19 hr) 3 _ rfl) rfl ?_
  cases hF
  exact z_ireturn d_S_bestIfLight_49 rfl rfl ⟨rfl, rfl, rfl⟩
def E_S_bestIfLight  (x1 : Int32) (x2 : Int32) (μ : zI) (ν : zJ) : Option (Int32 × zI × zJ) := e_S_bestIfLight_0 x1 x2 μ ν
theorem c_S_bestIfLight {l : Launch} {D : va_G} {dA : Nat → ClassId} {ad : Nat → Nat} {sh : List zSE} {μ : zI} {ν : zJ} {x1 : Int32} {x2 : Int32} (hr : zRo sh) {out : (Int32 × zI × zJ)} (hE : E_S_bestIfLight x1 x2 μ ν = some out) : zC l D dA ad sh m_S_bestIfLight 3 0 0 [.ref (ad 0), .int x1, .int x2] μ ν (zOi out) :=
  zC.of (by decide) (Nat.le_of_ble_eq_true rfl) (z_S_bestIfLight_0 hr hE)
def e_S_shadeOf_30   (x1 : Int32) (s0 : Int32) (μ : zI) (ν : zJ) : Option (Int32 × zI × zJ) := some (s0, μ, ν)
theorem z_S_shadeOf_30 {l : Launch} {D : va_G} {dA : Nat → ClassId} {ad : Nat → Nat} {sh : List zSE}  (hr : zRo sh)  {x1 : Int32} {s0 : Int32} {μ : zI} {ν : zJ} {out : (Int32 × zI × zJ)} (hF : e_S_shadeOf_30   x1 s0 μ ν = some out) : Z l D dA ad sh m_S_shadeOf (zR 4 0 0) (zS ad) (zOi out) 0 0 0 0 [] 30 [(0, .ref (ad 0)), (1, .int x1)] [.int s0] μ ν := by
  unfold e_S_shadeOf_30 at hF
  cases hF
  exact z_ireturn d_S_shadeOf_30 rfl rfl ⟨rfl, rfl, rfl⟩
def e_S_shadeOf_0   (x1 : Int32) (μ : zI) (ν : zJ) : Option (Int32 × zI × zJ) := Option.bind (E_S_isModule x1 μ ν) fun ty1 => (if ty1.1 = 0 then e_S_shadeOf_30 x1 (-1) ty1.2.1 ty1.2.2 else Option.bind (E_S_bestIfLight x1 100 ty1.2.1 ty1.2.2) fun ty3 => e_S_shadeOf_30 x1 (ty3.1 - (ty3.2.1 (4 + 3) 2)) ty3.2.1 ty3.2.2)
theorem z_S_shadeOf_0 {l : Launch} {D : va_G} {dA : Nat → ClassId} {ad : Nat → Nat} {sh : List zSE}  (hr : zRo sh)  {x1 : Int32} {μ : zI} {ν : zJ} {out : (Int32 × zI × zJ)} (hF : e_S_shadeOf_0   x1 μ ν = some out) : Z l D dA ad sh m_S_shadeOf (zR 4 0 0) (zS ad) (zOi out) 0 0 0 0 [] 0 [(0, .ref (ad 0)), (1, .int x1)] [] μ ν := by
  unfold e_S_shadeOf_0 at hF
  refine z_aload_n d_S_shadeOf_0 0 rfl rfl ?_
  refine z_iload_n d_S_shadeOf_1 1 rfl rfl ?_
  obtain ⟨ty1, hty1, hF⟩ := zh_bind hF
  refine z_callV d_S_shadeOf_2 (c_S_isModule hr hty1) mv_S_isModule l_S_97 (fun _ _ h => h) (hr 0 _ rfl) rfl rfl ⟨Nat.le_of_ble_eq_true rfl, Nat.le_of_ble_eq_true rfl⟩ ⟨Nat.le_of_ble_eq_true rfl, Nat.le_of_ble_eq_true rfl⟩ rfl (Nat.le_of_ble_eq_true rfl) (fun r μ' ν' hq => ?_)
  obtain ⟨rfl, rfl, rfl⟩ := hq
  show Z _ _ _ _ _ _ _ _ _ _ _ 0 0 _ _ _ [.int ty1.1] _ _
  refine z_if_eq d_S_shadeOf_5 (tgt := 29) (by decide) (fun cy2 => ?_) (fun cy2 => ?_)
  · replace hF := zh_t cy2 hF
    refine z_iconst d_S_shadeOf_29 (v := (-1)) (by decide) ?_
    exact z_S_shadeOf_30 hr  hF
  · replace hF := zh_f cy2 hF
    refine z_aload_n d_S_shadeOf_8 0 rfl rfl ?_
    refine z_iload_n d_S_shadeOf_9 1 rfl rfl ?_
    refine z_bipush d_S_shadeOf_10 (v := 100) (by decide) ?_
    obtain ⟨ty3, hty3, hF⟩ := zh_bind hF
    refine z_callV d_S_shadeOf_12 (c_S_bestIfLight hr hty3) mv_S_bestIfLight l_S_202 (fun _ _ h => h) (hr 0 _ rfl) rfl rfl ⟨Nat.le_of_ble_eq_true rfl, Nat.le_of_ble_eq_true rfl⟩ ⟨Nat.le_of_ble_eq_true rfl, Nat.le_of_ble_eq_true rfl⟩ rfl (Nat.le_of_ble_eq_true rfl) (fun r μ' ν' hq => ?_)
    obtain ⟨rfl, rfl, rfl⟩ := hq
    show Z _ _ _ _ _ _ _ _ _ _ _ 0 0 _ _ _ [.int ty3.1] _ _
    refine z_aload_n d_S_shadeOf_15 0 rfl rfl ?_
    refine z_getr d_S_shadeOf_16 (q := 4) f_S_28 (hr 0 _ rfl) rfl ?_
    refine z_getr d_S_shadeOf_19 (q := (4 + 3)) f_S_100 ((zRo_4 hr) 0 _ rfl) rfl ?_
    refine z_get d_S_shadeOf_22 f_S_193 ((zRo_4 hr) 3 _ rfl) rfl ?_
    refine z_isub d_S_shadeOf_25 ?_
    refine z_goto d_S_shadeOf_26 (tgt := 30) (by decide) ?_
    exact z_S_shadeOf_30 hr  hF
def E_S_shadeOf  (x1 : Int32) (μ : zI) (ν : zJ) : Option (Int32 × zI × zJ) := e_S_shadeOf_0 x1 μ ν
theorem c_S_shadeOf {l : Launch} {D : va_G} {dA : Nat → ClassId} {ad : Nat → Nat} {sh : List zSE} {μ : zI} {ν : zJ} {x1 : Int32} (hr : zRo sh) {out : (Int32 × zI × zJ)} (hE : E_S_shadeOf x1 μ ν = some out) : zC l D dA ad sh m_S_shadeOf 4 0 0 [.ref (ad 0), .int x1] μ ν (zOi out) :=
  zC.of (by decide) (Nat.le_of_ble_eq_true rfl) (z_S_shadeOf_0 hr hE)
def e_S_lightFor_18   (x1 : Int32) (x2 : Int32) (μ : zI) (ν : zJ) : Option (Int32 × zI × zJ) := some ((-1), μ, ν)
theorem z_S_lightFor_18 {l : Launch} {D : va_G} {dA : Nat → ClassId} {ad : Nat → Nat} {sh : List zSE}  (hr : zRo sh)  {x1 : Int32} {x2 : Int32} {μ : zI} {ν : zJ} {out : (Int32 × zI × zJ)} (hF : e_S_lightFor_18   x1 x2 μ ν = some out) : Z l D dA ad sh m_S_lightFor (zR 4 0 0) (zS ad) (zOi out) 0 0 0 0 [] 18 [(0, .ref (ad 0)), (1, .int x1), (2, .int x2)] [] μ ν := by
  unfold e_S_lightFor_18 at hF
  refine z_iconst d_S_lightFor_18 (v := (-1)) (by decide) ?_
  cases hF
  exact z_ireturn d_S_lightFor_19 rfl rfl ⟨rfl, rfl, rfl⟩
def e_S_lightFor_87  (r43 : Int32 → Int32 → Int32 → Int32 → Int32 → zI → zJ → Option (Int32 × zI × zJ)) (x1 : Int32) (x2 : Int32) (x3 : Int32) (x4 : Int32) (x5 : Int32) (x6 : Int32) (μ : zI) (ν : zJ) : Option (Int32 × zI × zJ) := r43 x1 x2 x3 x4 (x5 + 1) μ ν
theorem z_S_lightFor_87 {l : Launch} {D : va_G} {dA : Nat → ClassId} {ad : Nat → Nat} {sh : List zSE}  (hr : zRo sh) {r43 : Int32 → Int32 → Int32 → Int32 → Int32 → zI → zJ → Option (Int32 × zI × zJ)} {x1 : Int32} {x2 : Int32} {x3 : Int32} {x4 : Int32} {x5 : Int32} {x6 : Int32} {μ : zI} {ν : zJ} {out : (Int32 × zI × zJ)} (hr43 : ∀ (x1 : Int32) (x2 : Int32) (x3 : Int32) (x4 : Int32) (x5 : Int32) (μ : zI) (ν : zJ), r43 x1 x2 x3 x4 x5 μ ν = some out → Z l D dA ad sh m_S_lightFor (zR 4 0 0) (zS ad) (zOi out) 0 0 0 0 [] 43 [(0, .ref (ad 0)), (1, .int x1), (2, .int x2), (3, .int x3), (4, .int x4), (5, .int x5)] [] μ ν) (hF : e_S_lightFor_87  r43 x1 x2 x3 x4 x5 x6 μ ν = some out) : Z l D dA ad sh m_S_lightFor (zR 4 0 0) (zS ad) (zOi out) 0 0 0 0 [] 87 [(0, .ref (ad 0)), (1, .int x1), (2, .int x2), (3, .int x3), (4, .int x4), (5, .int x5), (6, .int x6)] [] μ ν := by
  unfold e_S_lightFor_87 at hF
  refine z_iinc d_S_lightFor_87 (k := 5) (v := (x5 + 1)) rfl rfl (by decide) (L2 := [(5, .int (x5 + 1)), (0, .ref (ad 0)), (1, .int x1), (2, .int x2), (3, .int x3), (4, .int x4), (6, .int x6)]) rfl ?_
  refine z_goto d_S_lightFor_90 (tgt := 43) (by decide) ?_
  refine z_sub [1, 2, 3, 4, 5, 0] (L' := [(0, .ref (ad 0)), (1, .int x1), (2, .int x2), (3, .int x3), (4, .int x4), (5, .int (x5 + 1))]) rfl ?_
  exact hr43 _ _ _ _ _ _ _ hF
def e_S_lightFor_93   (x1 : Int32) (x2 : Int32) (x3 : Int32) (x4 : Int32) (x5 : Int32) (μ : zI) (ν : zJ) : Option (Int32 × zI × zJ) := some (x4, μ, ν)
theorem z_S_lightFor_93 {l : Launch} {D : va_G} {dA : Nat → ClassId} {ad : Nat → Nat} {sh : List zSE}  (hr : zRo sh)  {x1 : Int32} {x2 : Int32} {x3 : Int32} {x4 : Int32} {x5 : Int32} {μ : zI} {ν : zJ} {out : (Int32 × zI × zJ)} (hF : e_S_lightFor_93   x1 x2 x3 x4 x5 μ ν = some out) : Z l D dA ad sh m_S_lightFor (zR 4 0 0) (zS ad) (zOi out) 0 0 0 0 [] 93 [(0, .ref (ad 0)), (1, .int x1), (2, .int x2), (3, .int x3), (4, .int x4), (5, .int x5)] [] μ ν := by
  unfold e_S_lightFor_93 at hF
  refine z_iload d_S_lightFor_93 4 rfl ?_
  cases hF
  exact z_ireturn d_S_lightFor_95 rfl rfl ⟨rfl, rfl, rfl⟩
def f_S_lightFor_43   : Nat → Int32 → Int32 → Int32 → Int32 → Int32 → zI → zJ → Option (Int32 × zI × zJ)
  | 0, _, _, _, _, _, _, _ => none
  | n + 1, x1, x2, x3, x4, x5, μ, ν => (if 7 ≤ x5 then e_S_lightFor_93 x1 x2 x3 x4 x5 μ ν else (if x4 ≤ x3 then e_S_lightFor_93 x1 x2 x3 x4 x5 μ ν else zlet (α := Int32) ((x3 + x4) / 2) fun y3 => Option.bind (E_S_bestIfLight x1 y3 μ ν) fun ty4 => (if ty4.1 < x2 then zlet (α := Int32) (y3 + 1) fun y6 => e_S_lightFor_87 (f_S_lightFor_43  n) x1 x2 y6 x4 x5 y3 ty4.2.1 ty4.2.2 else e_S_lightFor_87 (f_S_lightFor_43  n) x1 x2 x3 y3 x5 y3 ty4.2.1 ty4.2.2)))
theorem z_S_lightFor_43 {l : Launch} {D : va_G} {dA : Nat → ClassId} {ad : Nat → Nat} {sh : List zSE}  (hr : zRo sh)  {out : (Int32 × zI × zJ)} : ∀ (n : Nat) (x1 : Int32) (x2 : Int32) (x3 : Int32) (x4 : Int32) (x5 : Int32) (μ : zI) (ν : zJ), f_S_lightFor_43   n x1 x2 x3 x4 x5 μ ν = some out → Z l D dA ad sh m_S_lightFor (zR 4 0 0) (zS ad) (zOi out) 0 0 0 0 [] 43 [(0, .ref (ad 0)), (1, .int x1), (2, .int x2), (3, .int x3), (4, .int x4), (5, .int x5)] [] μ ν := by
  intro n
  induction n with
  | zero => intro x1 x2 x3 x4 x5 μ ν hF; cases hF
  | succ n ih =>
    intro x1 x2 x3 x4 x5 μ ν hF
    dsimp only [f_S_lightFor_43] at hF
    refine z_iload d_S_lightFor_43 5 rfl ?_
    refine z_bipush d_S_lightFor_45 (v := 7) (by decide) ?_
    refine z_icmp_ge d_S_lightFor_47 (tgt := 93) (by decide) (fun cy1 => ?_) (fun cy1 => ?_)
    · replace hF := zh_t cy1 hF
      exact z_S_lightFor_93 hr  hF
    · replace hF := zh_f cy1 hF
      refine z_iload_n d_S_lightFor_50 3 rfl rfl ?_
      refine z_iload d_S_lightFor_51 4 rfl ?_
      refine z_icmp_ge d_S_lightFor_53 (tgt := 93) (by decide) (fun cy2 => ?_) (fun cy2 => ?_)
      · replace hF := zh_t cy2 hF
        exact z_S_lightFor_93 hr  hF
      · replace hF := zh_f cy2 hF
        refine z_iload_n d_S_lightFor_56 3 rfl rfl ?_
        refine z_iload d_S_lightFor_57 4 rfl ?_
        refine z_iadd d_S_lightFor_59 ?_
        refine z_iconst d_S_lightFor_60 (v := 2) (by decide) ?_
        refine z_idiv d_S_lightFor_61 (by decide) ?_
        obtain ⟨y3, hy3, hF⟩ := zh_let hF
        refine z_eqi hy3 ?_
        refine z_istore d_S_lightFor_62 (by decide) (L2 := [(6, .int y3), (0, .ref (ad 0)), (1, .int x1), (2, .int x2), (3, .int x3), (4, .int x4), (5, .int x5)]) rfl ?_
        refine z_aload_n d_S_lightFor_64 1 rfl rfl ?_
        refine z_iload_n d_S_lightFor_65 2 rfl rfl ?_
        refine z_iload d_S_lightFor_66 0 rfl ?_
        obtain ⟨ty4, hty4, hF⟩ := zh_bind hF
        refine z_callV d_S_lightFor_68 (c_S_bestIfLight hr hty4) mv_S_bestIfLight l_S_202 (fun _ _ h => h) (hr 0 _ rfl) rfl rfl ⟨Nat.le_of_ble_eq_true rfl, Nat.le_of_ble_eq_true rfl⟩ ⟨Nat.le_of_ble_eq_true rfl, Nat.le_of_ble_eq_true rfl⟩ rfl (Nat.le_of_ble_eq_true rfl) (fun r μ' ν' hq => ?_)
        obtain ⟨rfl, rfl, rfl⟩ := hq
        show Z _ _ _ _ _ _ _ _ _ _ _ 0 0 _ _ _ [.int ty4.1] _ _
        refine z_iload_n d_S_lightFor_71 3 rfl rfl ?_
        refine z_icmp_lt d_S_lightFor_72 (tgt := 82) (by decide) (fun cy5 => ?_) (fun cy5 => ?_)
        · replace hF := zh_t cy5 hF
          refine z_iload d_S_lightFor_82 0 rfl ?_
          refine z_iconst d_S_lightFor_84 (v := 1) (by decide) ?_
          refine z_iadd d_S_lightFor_85 ?_
          obtain ⟨y6, hy6, hF⟩ := zh_let hF
          refine z_eqi hy6 ?_
          refine z_istore_n d_S_lightFor_86 rfl (by decide) (L2 := [(3, .int y6), (6, .int y3), (0, .ref (ad 0)), (1, .int x1), (2, .int x2), (4, .int x4), (5, .int x5)]) rfl ?_
          refine z_sub [2, 3, 4, 0, 5, 6, 1] (L' := [(0, .ref (ad 0)), (1, .int x1), (2, .int x2), (3, .int y6), (4, .int x4), (5, .int x5), (6, .int y3)]) rfl ?_
          exact z_S_lightFor_87 hr (fun a0 a1 a2 a3 a4 a5 a6 => ih a0 a1 a2 a3 a4 a5 a6) hF
        · replace hF := zh_f cy5 hF
          refine z_iload d_S_lightFor_75 0 rfl ?_
          refine z_istore d_S_lightFor_77 (by decide) (L2 := [(4, .int y3), (6, .int y3), (0, .ref (ad 0)), (1, .int x1), (2, .int x2), (3, .int x3), (5, .int x5)]) rfl ?_
          refine z_goto d_S_lightFor_79 (tgt := 87) (by decide) ?_
          refine z_sub [2, 3, 4, 5, 0, 6, 1] (L' := [(0, .ref (ad 0)), (1, .int x1), (2, .int x2), (3, .int x3), (4, .int y3), (5, .int x5), (6, .int y3)]) rfl ?_
          exact z_S_lightFor_87 hr (fun a0 a1 a2 a3 a4 a5 a6 => ih a0 a1 a2 a3 a4 a5 a6) hF
def e_S_lightFor_0   (x1 : Int32) (x2 : Int32) (μ : zI) (ν : zJ) : Option (Int32 × zI × zJ) := Option.bind (E_S_isModule x1 μ ν) fun ty1 => (if ty1.1 = 0 then e_S_lightFor_18 x1 x2 ty1.2.1 ty1.2.2 else Option.bind (E_S_isWithin x2 0 9999999 ty1.2.1 ty1.2.2) fun ty3 => (if ty3.1 = 0 then e_S_lightFor_18 x1 x2 ty3.2.1 ty3.2.2 else Option.bind (E_S_bestIfLight x1 100 ty3.2.1 ty3.2.2) fun ty5 => (if x2 ≤ ty5.1 then f_S_lightFor_43 zFuel x1 x2 0 100 0 ty5.2.1 ty5.2.2 else some ((-2), ty5.2.1, ty5.2.2))))
theorem z_S_lightFor_0 {l : Launch} {D : va_G} {dA : Nat → ClassId} {ad : Nat → Nat} {sh : List zSE}  (hr : zRo sh)  {x1 : Int32} {x2 : Int32} {μ : zI} {ν : zJ} {out : (Int32 × zI × zJ)} (hF : e_S_lightFor_0   x1 x2 μ ν = some out) : Z l D dA ad sh m_S_lightFor (zR 4 0 0) (zS ad) (zOi out) 0 0 0 0 [] 0 [(0, .ref (ad 0)), (1, .int x1), (2, .int x2)] [] μ ν := by
  unfold e_S_lightFor_0 at hF
  refine z_aload_n d_S_lightFor_0 0 rfl rfl ?_
  refine z_iload_n d_S_lightFor_1 1 rfl rfl ?_
  obtain ⟨ty1, hty1, hF⟩ := zh_bind hF
  refine z_callV d_S_lightFor_2 (c_S_isModule hr hty1) mv_S_isModule l_S_97 (fun _ _ h => h) (hr 0 _ rfl) rfl rfl ⟨Nat.le_of_ble_eq_true rfl, Nat.le_of_ble_eq_true rfl⟩ ⟨Nat.le_of_ble_eq_true rfl, Nat.le_of_ble_eq_true rfl⟩ rfl (Nat.le_of_ble_eq_true rfl) (fun r μ' ν' hq => ?_)
  obtain ⟨rfl, rfl, rfl⟩ := hq
  show Z _ _ _ _ _ _ _ _ _ _ _ 0 0 _ _ _ [.int ty1.1] _ _
  refine z_if_eq d_S_lightFor_5 (tgt := 18) (by decide) (fun cy2 => ?_) (fun cy2 => ?_)
  · replace hF := zh_t cy2 hF
    exact z_S_lightFor_18 hr  hF
  · replace hF := zh_f cy2 hF
    refine z_iload_n d_S_lightFor_8 2 rfl rfl ?_
    refine z_iconst d_S_lightFor_9 (v := 0) (by decide) ?_
    refine z_ldc d_S_lightFor_10 k_S_206 ?_
    obtain ⟨ty3, hty3, hF⟩ := zh_bind hF
    refine z_callS d_S_lightFor_12 (c_S_isWithin  hty3) ms_S_isWithin l_S_54 (fun _ _ h => h) rfl ⟨Nat.le_of_ble_eq_true rfl, Nat.le_of_ble_eq_true rfl⟩ ⟨Nat.le_of_ble_eq_true rfl, Nat.le_of_ble_eq_true rfl⟩ rfl (Nat.le_of_ble_eq_true rfl) (fun r μ' ν' hq => ?_)
    obtain ⟨rfl, rfl, rfl⟩ := hq
    show Z _ _ _ _ _ _ _ _ _ _ _ 0 0 _ _ _ [.int ty3.1] _ _
    refine z_if_ne d_S_lightFor_15 (tgt := 20) (by decide) (fun cy4 => ?_) (fun cy4 => ?_)
    · replace hF := zh_f cy4 hF
      refine z_aload_n d_S_lightFor_20 0 rfl rfl ?_
      refine z_iload_n d_S_lightFor_21 1 rfl rfl ?_
      refine z_bipush d_S_lightFor_22 (v := 100) (by decide) ?_
      obtain ⟨ty5, hty5, hF⟩ := zh_bind hF
      refine z_callV d_S_lightFor_24 (c_S_bestIfLight hr hty5) mv_S_bestIfLight l_S_202 (fun _ _ h => h) (hr 0 _ rfl) rfl rfl ⟨Nat.le_of_ble_eq_true rfl, Nat.le_of_ble_eq_true rfl⟩ ⟨Nat.le_of_ble_eq_true rfl, Nat.le_of_ble_eq_true rfl⟩ rfl (Nat.le_of_ble_eq_true rfl) (fun r μ' ν' hq => ?_)
      obtain ⟨rfl, rfl, rfl⟩ := hq
      show Z _ _ _ _ _ _ _ _ _ _ _ 0 0 _ _ _ [.int ty5.1] _ _
      refine z_iload_n d_S_lightFor_27 2 rfl rfl ?_
      refine z_icmp_ge d_S_lightFor_28 (tgt := 34) (by decide) (fun cy6 => ?_) (fun cy6 => ?_)
      · replace hF := zh_t cy6 hF
        refine z_iconst d_S_lightFor_34 (v := 0) (by decide) ?_
        refine z_istore_n d_S_lightFor_35 rfl (by decide) (L2 := [(3, .int 0), (0, .ref (ad 0)), (1, .int x1), (2, .int x2)]) rfl ?_
        refine z_bipush d_S_lightFor_36 (v := 100) (by decide) ?_
        refine z_istore d_S_lightFor_38 (by decide) (L2 := [(4, .int 100), (3, .int 0), (0, .ref (ad 0)), (1, .int x1), (2, .int x2)]) rfl ?_
        refine z_iconst d_S_lightFor_40 (v := 0) (by decide) ?_
        refine z_istore d_S_lightFor_41 (by decide) (L2 := [(5, .int 0), (4, .int 100), (3, .int 0), (0, .ref (ad 0)), (1, .int x1), (2, .int x2)]) rfl ?_
        refine z_sub [3, 4, 5, 2, 1, 0] (L' := [(0, .ref (ad 0)), (1, .int x1), (2, .int x2), (3, .int 0), (4, .int 100), (5, .int 0)]) rfl ?_
        exact z_S_lightFor_43 hr  zFuel _ _ _ _ _ _ _ hF
      · replace hF := zh_f cy6 hF
        refine z_bipush d_S_lightFor_31 (v := (-2)) (by decide) ?_
        cases hF
        exact z_ireturn d_S_lightFor_33 rfl rfl ⟨rfl, rfl, rfl⟩
    · replace hF := zh_t cy4 hF
      exact z_S_lightFor_18 hr  hF
def E_S_lightFor  (x1 : Int32) (x2 : Int32) (μ : zI) (ν : zJ) : Option (Int32 × zI × zJ) := e_S_lightFor_0 x1 x2 μ ν
theorem c_S_lightFor {l : Launch} {D : va_G} {dA : Nat → ClassId} {ad : Nat → Nat} {sh : List zSE} {μ : zI} {ν : zJ} {x1 : Int32} {x2 : Int32} (hr : zRo sh) {out : (Int32 × zI × zJ)} (hE : E_S_lightFor x1 x2 μ ν = some out) : zC l D dA ad sh m_S_lightFor 4 0 0 [.ref (ad 0), .int x1, .int x2] μ ν (zOi out) :=
  zC.of (by decide) (Nat.le_of_ble_eq_true rfl) (z_S_lightFor_0 hr hE)
def e_S_darkest_52  (r7 : Int32 → Int32 → Int32 → zI → zJ → Option (Int32 × zI × zJ)) (x1 : Int32) (x2 : Int32) (x3 : Int32) (x4 : Int32) (μ : zI) (ν : zJ) : Option (Int32 × zI × zJ) := r7 x1 x2 (x3 + 1) μ ν
theorem z_S_darkest_52 {l : Launch} {D : va_G} {dA : Nat → ClassId} {ad : Nat → Nat} {sh : List zSE}  (hr : zRo sh) {r7 : Int32 → Int32 → Int32 → zI → zJ → Option (Int32 × zI × zJ)} {x1 : Int32} {x2 : Int32} {x3 : Int32} {x4 : Int32} {μ : zI} {ν : zJ} {out : (Int32 × zI × zJ)} (hr7 : ∀ (x1 : Int32) (x2 : Int32) (x3 : Int32) (μ : zI) (ν : zJ), r7 x1 x2 x3 μ ν = some out → Z l D dA ad sh m_S_darkest (zR 4 0 0) (zS ad) (zOi out) 0 0 0 0 [] 7 [(0, .ref (ad 0)), (1, .int x1), (2, .int x2), (3, .int x3)] [] μ ν) (hF : e_S_darkest_52  r7 x1 x2 x3 x4 μ ν = some out) : Z l D dA ad sh m_S_darkest (zR 4 0 0) (zS ad) (zOi out) 0 0 0 0 [] 52 [(0, .ref (ad 0)), (1, .int x1), (2, .int x2), (3, .int x3), (4, .int x4)] [] μ ν := by
  unfold e_S_darkest_52 at hF
  refine z_iinc d_S_darkest_52 (k := 3) (v := (x3 + 1)) rfl rfl (by decide) (L2 := [(3, .int (x3 + 1)), (0, .ref (ad 0)), (1, .int x1), (2, .int x2), (4, .int x4)]) rfl ?_
  refine z_goto d_S_darkest_55 (tgt := 7) (by decide) ?_
  refine z_sub [1, 2, 3, 0] (L' := [(0, .ref (ad 0)), (1, .int x1), (2, .int x2), (3, .int (x3 + 1))]) rfl ?_
  exact hr7 _ _ _ _ _ hF
def f_S_darkest_7   : Nat → Int32 → Int32 → Int32 → zI → zJ → Option (Int32 × zI × zJ)
  | 0, _, _, _, _, _ => none
  | n + 1, x1, x2, x3, μ, ν => (if (μ (4 + 3) 0) ≤ x3 then some (x1, μ, ν) else Option.bind (E_S_bestIfLight x3 100 μ ν) fun ty2 => zlet (α := Int32) (ty2.1 - (ty2.2.1 (4 + 3) 2)) fun y3 => (if y3 ≤ x2 then e_S_darkest_52 (f_S_darkest_7  n) x1 x2 x3 y3 ty2.2.1 ty2.2.2 else e_S_darkest_52 (f_S_darkest_7  n) x3 y3 x3 y3 ty2.2.1 ty2.2.2))
theorem z_S_darkest_7 {l : Launch} {D : va_G} {dA : Nat → ClassId} {ad : Nat → Nat} {sh : List zSE}  (hr : zRo sh)  {out : (Int32 × zI × zJ)} : ∀ (n : Nat) (x1 : Int32) (x2 : Int32) (x3 : Int32) (μ : zI) (ν : zJ), f_S_darkest_7   n x1 x2 x3 μ ν = some out → Z l D dA ad sh m_S_darkest (zR 4 0 0) (zS ad) (zOi out) 0 0 0 0 [] 7 [(0, .ref (ad 0)), (1, .int x1), (2, .int x2), (3, .int x3)] [] μ ν := by
  intro n
  induction n with
  | zero => intro x1 x2 x3 μ ν hF; cases hF
  | succ n ih =>
    intro x1 x2 x3 μ ν hF
    dsimp only [f_S_darkest_7] at hF
    refine z_iload_n d_S_darkest_7 3 rfl rfl ?_
    refine z_aload_n d_S_darkest_8 0 rfl rfl ?_
    refine z_getr d_S_darkest_9 (q := 4) f_S_28 (hr 0 _ rfl) rfl ?_
    refine z_getr d_S_darkest_12 (q := (4 + 3)) f_S_100 ((zRo_4 hr) 0 _ rfl) rfl ?_
    refine z_get d_S_darkest_15 f_S_207 ((zRo_4 hr) 3 _ rfl) rfl ?_
    refine z_icmp_ge d_S_darkest_18 (tgt := 58) (by decide) (fun cy1 => ?_) (fun cy1 => ?_)
    · replace hF := zh_t cy1 hF
      refine z_iload_n d_S_darkest_58 1 rfl rfl ?_
      cases hF
      exact z_ireturn d_S_darkest_59 rfl rfl ⟨rfl, rfl, rfl⟩
    · replace hF := zh_f cy1 hF
      refine z_aload_n d_S_darkest_21 0 rfl rfl ?_
      refine z_iload_n d_S_darkest_22 3 rfl rfl ?_
      refine z_bipush d_S_darkest_23 (v := 100) (by decide) ?_
      obtain ⟨ty2, hty2, hF⟩ := zh_bind hF
      refine z_callV d_S_darkest_25 (c_S_bestIfLight hr hty2) mv_S_bestIfLight l_S_202 (fun _ _ h => h) (hr 0 _ rfl) rfl rfl ⟨Nat.le_of_ble_eq_true rfl, Nat.le_of_ble_eq_true rfl⟩ ⟨Nat.le_of_ble_eq_true rfl, Nat.le_of_ble_eq_true rfl⟩ rfl (Nat.le_of_ble_eq_true rfl) (fun r μ' ν' hq => ?_)
      obtain ⟨rfl, rfl, rfl⟩ := hq
      show Z _ _ _ _ _ _ _ _ _ _ _ 0 0 _ _ _ [.int ty2.1] _ _
      refine z_aload_n d_S_darkest_28 0 rfl rfl ?_
      refine z_getr d_S_darkest_29 (q := 4) f_S_28 (hr 0 _ rfl) rfl ?_
      refine z_getr d_S_darkest_32 (q := (4 + 3)) f_S_100 ((zRo_4 hr) 0 _ rfl) rfl ?_
      refine z_get d_S_darkest_35 f_S_193 ((zRo_4 hr) 3 _ rfl) rfl ?_
      refine z_isub d_S_darkest_38 ?_
      obtain ⟨y3, hy3, hF⟩ := zh_let hF
      refine z_eqi hy3 ?_
      refine z_istore d_S_darkest_39 (by decide) (L2 := [(4, .int y3), (0, .ref (ad 0)), (1, .int x1), (2, .int x2), (3, .int x3)]) rfl ?_
      refine z_iload d_S_darkest_41 0 rfl ?_
      refine z_iload_n d_S_darkest_43 3 rfl rfl ?_
      refine z_icmp_le d_S_darkest_44 (tgt := 52) (by decide) (fun cy4 => ?_) (fun cy4 => ?_)
      · replace hF := zh_t cy4 hF
        refine z_sub [1, 2, 3, 4, 0] (L' := [(0, .ref (ad 0)), (1, .int x1), (2, .int x2), (3, .int x3), (4, .int y3)]) rfl ?_
        exact z_S_darkest_52 hr (fun a0 a1 a2 a3 a4 => ih a0 a1 a2 a3 a4) hF
      · replace hF := zh_f cy4 hF
        refine z_iload d_S_darkest_47 0 rfl ?_
        refine z_istore_n d_S_darkest_49 rfl (by decide) (L2 := [(2, .int y3), (4, .int y3), (0, .ref (ad 0)), (1, .int x1), (3, .int x3)]) rfl ?_
        refine z_iload_n d_S_darkest_50 4 rfl rfl ?_
        refine z_istore_n d_S_darkest_51 rfl (by decide) (L2 := [(1, .int x3), (2, .int y3), (4, .int y3), (0, .ref (ad 0)), (3, .int x3)]) rfl ?_
        refine z_sub [3, 0, 1, 4, 2] (L' := [(0, .ref (ad 0)), (1, .int x3), (2, .int y3), (3, .int x3), (4, .int y3)]) rfl ?_
        exact z_S_darkest_52 hr (fun a0 a1 a2 a3 a4 => ih a0 a1 a2 a3 a4) hF
def e_S_darkest_0    (μ : zI) (ν : zJ) : Option (Int32 × zI × zJ) := f_S_darkest_7 zFuel (-2) (-1) 0 μ ν
theorem z_S_darkest_0 {l : Launch} {D : va_G} {dA : Nat → ClassId} {ad : Nat → Nat} {sh : List zSE}  (hr : zRo sh)   {μ : zI} {ν : zJ} {out : (Int32 × zI × zJ)} (hF : e_S_darkest_0    μ ν = some out) : Z l D dA ad sh m_S_darkest (zR 4 0 0) (zS ad) (zOi out) 0 0 0 0 [] 0 [(0, .ref (ad 0))] [] μ ν := by
  unfold e_S_darkest_0 at hF
  refine z_bipush d_S_darkest_0 (v := (-2)) (by decide) ?_
  refine z_istore_n d_S_darkest_2 rfl (by decide) (L2 := [(1, .int (-2)), (0, .ref (ad 0))]) rfl ?_
  refine z_iconst d_S_darkest_3 (v := (-1)) (by decide) ?_
  refine z_istore_n d_S_darkest_4 rfl (by decide) (L2 := [(2, .int (-1)), (1, .int (-2)), (0, .ref (ad 0))]) rfl ?_
  refine z_iconst d_S_darkest_5 (v := 0) (by decide) ?_
  refine z_istore_n d_S_darkest_6 rfl (by decide) (L2 := [(3, .int 0), (2, .int (-1)), (1, .int (-2)), (0, .ref (ad 0))]) rfl ?_
  refine z_sub [3, 2, 1, 0] (L' := [(0, .ref (ad 0)), (1, .int (-2)), (2, .int (-1)), (3, .int 0)]) rfl ?_
  exact z_S_darkest_7 hr  zFuel _ _ _ _ _ hF
def E_S_darkest   (μ : zI) (ν : zJ) : Option (Int32 × zI × zJ) := e_S_darkest_0 μ ν
theorem c_S_darkest {l : Launch} {D : va_G} {dA : Nat → ClassId} {ad : Nat → Nat} {sh : List zSE} {μ : zI} {ν : zJ} (hr : zRo sh) {out : (Int32 × zI × zJ)} (hE : E_S_darkest  μ ν = some out) : zC l D dA ad sh m_S_darkest 4 0 0 [.ref (ad 0)] μ ν (zOi out) :=
  zC.of (by decide) (Nat.le_of_ble_eq_true rfl) (z_S_darkest_0 hr hE)
def e_S_followerNow_0   (x1 : Int32) (μ : zI) (ν : zJ) : Option (Int32 × zI × zJ) := (if x1 = 0 then some ((μ 4 0), μ, ν) else (if x1 = 1 then some ((μ (4 + 11) 0), μ, ν) else (if x1 = 2 then some ((μ (4 + 11) 1), μ, ν) else (if x1 = 3 then some ((μ (4 + 11) 2), μ, ν) else (if x1 = 4 then some ((μ (4 + 11) 3), μ, ν) else (if x1 = 5 then some ((μ (4 + 11) 4), μ, ν) else (if x1 = 6 then Option.bind (E_S_flag (μ (4 + 11) 7) μ ν) fun ty9 => some (ty9.1, ty9.2.1, ty9.2.2) else (if x1 = 7 then some ((μ (4 + 11) 5), μ, ν) else some ((-10), μ, ν)))))))))
theorem z_S_followerNow_0 {l : Launch} {D : va_G} {dA : Nat → ClassId} {ad : Nat → Nat} {sh : List zSE}  (hr : zRo sh)  {x1 : Int32} {μ : zI} {ν : zJ} {out : (Int32 × zI × zJ)} (hF : e_S_followerNow_0   x1 μ ν = some out) : Z l D dA ad sh m_S_followerNow (zR 1 0 0) (zS ad) (zOi out) 0 0 0 0 [] 0 [(0, .ref (ad 0)), (1, .int x1)] [] μ ν := by
  unfold e_S_followerNow_0 at hF
  refine z_aload_n d_S_followerNow_0 0 rfl rfl ?_
  refine z_getr d_S_followerNow_1 (q := 4) f_S_28 (hr 0 _ rfl) rfl ?_
  refine z_getr d_S_followerNow_4 (q := (4 + 11)) f_S_88 ((zRo_4 hr) 0 _ rfl) rfl ?_
  refine z_astore_n d_S_followerNow_7 rfl (by decide) (L2 := [(2, .ref (ad (4 + 11))), (0, .ref (ad 0)), (1, .int x1)]) rfl ?_
  refine z_iload_n d_S_followerNow_8 2 rfl rfl ?_
  by_cases cy1 : x1 = 0
  · replace hF := zh_t cy1 hF
    refine z_tabIn d_S_followerNow_9 (tgt := 56) 0 cy1 (by decide) (by decide) (off := 47) (by decide) (by decide) ?_
    refine z_aload_n d_S_followerNow_56 1 rfl rfl ?_
    refine z_getr d_S_followerNow_57 (q := 4) f_S_28 (hr 0 _ rfl) rfl ?_
    refine z_get d_S_followerNow_60 f_S_75 ((zRo_4 hr) 0 _ rfl) rfl ?_
    cases hF
    exact z_ireturn d_S_followerNow_63 rfl rfl ⟨rfl, rfl, rfl⟩
  · replace hF := zh_f cy1 hF
    by_cases cy2 : x1 = 1
    · replace hF := zh_t cy2 hF
      refine z_tabIn d_S_followerNow_9 (tgt := 64) 1 cy2 (by decide) (by decide) (off := 55) (by decide) (by decide) ?_
      refine z_aload_n d_S_followerNow_64 0 rfl rfl ?_
      refine z_get d_S_followerNow_65 f_S_271 ((zRo_4 hr) 11 _ rfl) rfl ?_
      cases hF
      exact z_ireturn d_S_followerNow_68 rfl rfl ⟨rfl, rfl, rfl⟩
    · replace hF := zh_f cy2 hF
      by_cases cy3 : x1 = 2
      · replace hF := zh_t cy3 hF
        refine z_tabIn d_S_followerNow_9 (tgt := 69) 2 cy3 (by decide) (by decide) (off := 60) (by decide) (by decide) ?_
        refine z_aload_n d_S_followerNow_69 0 rfl rfl ?_
        refine z_get d_S_followerNow_70 f_S_303 ((zRo_4 hr) 11 _ rfl) rfl ?_
        cases hF
        exact z_ireturn d_S_followerNow_73 rfl rfl ⟨rfl, rfl, rfl⟩
      · replace hF := zh_f cy3 hF
        by_cases cy4 : x1 = 3
        · replace hF := zh_t cy4 hF
          refine z_tabIn d_S_followerNow_9 (tgt := 74) 3 cy4 (by decide) (by decide) (off := 65) (by decide) (by decide) ?_
          refine z_aload_n d_S_followerNow_74 0 rfl rfl ?_
          refine z_get d_S_followerNow_75 f_S_287 ((zRo_4 hr) 11 _ rfl) rfl ?_
          cases hF
          exact z_ireturn d_S_followerNow_78 rfl rfl ⟨rfl, rfl, rfl⟩
        · replace hF := zh_f cy4 hF
          by_cases cy5 : x1 = 4
          · replace hF := zh_t cy5 hF
            refine z_tabIn d_S_followerNow_9 (tgt := 79) 4 cy5 (by decide) (by decide) (off := 70) (by decide) (by decide) ?_
            refine z_aload_n d_S_followerNow_79 0 rfl rfl ?_
            refine z_get d_S_followerNow_80 f_S_306 ((zRo_4 hr) 11 _ rfl) rfl ?_
            cases hF
            exact z_ireturn d_S_followerNow_83 rfl rfl ⟨rfl, rfl, rfl⟩
          · replace hF := zh_f cy5 hF
            by_cases cy6 : x1 = 5
            · replace hF := zh_t cy6 hF
              refine z_tabIn d_S_followerNow_9 (tgt := 84) 5 cy6 (by decide) (by decide) (off := 75) (by decide) (by decide) ?_
              refine z_aload_n d_S_followerNow_84 0 rfl rfl ?_
              refine z_get d_S_followerNow_85 f_S_309 ((zRo_4 hr) 11 _ rfl) rfl ?_
              cases hF
              exact z_ireturn d_S_followerNow_88 rfl rfl ⟨rfl, rfl, rfl⟩
            · replace hF := zh_f cy6 hF
              by_cases cy7 : x1 = 6
              · replace hF := zh_t cy7 hF
                refine z_tabIn d_S_followerNow_9 (tgt := 89) 6 cy7 (by decide) (by decide) (off := 80) (by decide) (by decide) ?_
                refine z_aload_n d_S_followerNow_89 0 rfl rfl ?_
                refine z_get d_S_followerNow_90 f_S_131 ((zRo_4 hr) 11 _ rfl) rfl ?_
                obtain ⟨ty9, hty9, hF⟩ := zh_bind hF
                refine z_callS d_S_followerNow_93 (c_S_flag  hty9) ms_S_flag l_S_312 (fun _ _ h => h) rfl ⟨Nat.le_of_ble_eq_true rfl, Nat.le_of_ble_eq_true rfl⟩ ⟨Nat.le_of_ble_eq_true rfl, Nat.le_of_ble_eq_true rfl⟩ rfl (Nat.le_of_ble_eq_true rfl) (fun r μ' ν' hq => ?_)
                obtain ⟨rfl, rfl, rfl⟩ := hq
                show Z _ _ _ _ _ _ _ _ _ _ _ 0 0 _ _ _ [.int ty9.1] _ _
                cases hF
                exact z_ireturn d_S_followerNow_96 rfl rfl ⟨rfl, rfl, rfl⟩
              · replace hF := zh_f cy7 hF
                by_cases cy8 : x1 = 7
                · replace hF := zh_t cy8 hF
                  refine z_tabIn d_S_followerNow_9 (tgt := 97) 7 cy8 (by decide) (by decide) (off := 88) (by decide) (by decide) ?_
                  refine z_aload_n d_S_followerNow_97 0 rfl rfl ?_
                  refine z_get d_S_followerNow_98 f_S_316 ((zRo_4 hr) 11 _ rfl) rfl ?_
                  cases hF
                  exact z_ireturn d_S_followerNow_101 rfl rfl ⟨rfl, rfl, rfl⟩
                · replace hF := zh_f cy8 hF
                  refine z_tabOut d_S_followerNow_9 (tgt := 102) [0, 1, 2, 3, 4, 5, 6, 7] (List.forall_mem_cons.mpr ⟨cy1, List.forall_mem_cons.mpr ⟨cy2, List.forall_mem_cons.mpr ⟨cy3, List.forall_mem_cons.mpr ⟨cy4, List.forall_mem_cons.mpr ⟨cy5, List.forall_mem_cons.mpr ⟨cy6, List.forall_mem_cons.mpr ⟨cy7, List.forall_mem_cons.mpr ⟨cy8, fun _ h => absurd h List.not_mem_nil⟩⟩⟩⟩⟩⟩⟩⟩) (by decide) (by decide) ?_
                  refine z_bipush d_S_followerNow_102 (v := (-10)) (by decide) ?_
                  cases hF
                  exact z_ireturn d_S_followerNow_104 rfl rfl ⟨rfl, rfl, rfl⟩
def E_S_followerNow  (x1 : Int32) (μ : zI) (ν : zJ) : Option (Int32 × zI × zJ) := e_S_followerNow_0 x1 μ ν
theorem c_S_followerNow {l : Launch} {D : va_G} {dA : Nat → ClassId} {ad : Nat → Nat} {sh : List zSE} {μ : zI} {ν : zJ} {x1 : Int32} (hr : zRo sh) {out : (Int32 × zI × zJ)} (hE : E_S_followerNow x1 μ ν = some out) : zC l D dA ad sh m_S_followerNow 1 0 0 [.ref (ad 0), .int x1] μ ν (zOi out) :=
  zC.of (by decide) (Nat.le_of_ble_eq_true rfl) (z_S_followerNow_0 hr hE)
def e_S_behindNow_0   (x1 : Int32) (μ : zI) (ν : zJ) : Option (Int32 × zI × zJ) := (if x1 = 8 then some ((μ (4 + 12) 0), μ, ν) else (if x1 = 9 then some ((μ (4 + 12) 1), μ, ν) else (if x1 = 10 then some ((μ (4 + 12) 2), μ, ν) else (if x1 = 11 then Option.bind (E_S_flag (μ (4 + 13) 0) μ ν) fun ty11 => some (ty11.1, ty11.2.1, ty11.2.2) else (if x1 = 12 then some ((μ (4 + 13) 1), μ, ν) else (if x1 = 13 then some ((μ (4 + 13) 2), μ, ν) else (if x1 = 14 then some ((μ (4 + 13) 3), μ, ν) else (if x1 = 15 then some ((μ (4 + 13) 4), μ, ν) else (if x1 = 16 then some ((μ (4 + 13) 5), μ, ν) else (if x1 = 17 then some ((μ (4 + 13) 6), μ, ν) else some ((-10), μ, ν)))))))))))
theorem z_S_behindNow_0 {l : Launch} {D : va_G} {dA : Nat → ClassId} {ad : Nat → Nat} {sh : List zSE}  (hr : zRo sh)  {x1 : Int32} {μ : zI} {ν : zJ} {out : (Int32 × zI × zJ)} (hF : e_S_behindNow_0   x1 μ ν = some out) : Z l D dA ad sh m_S_behindNow (zR 1 0 0) (zS ad) (zOi out) 0 0 0 0 [] 0 [(0, .ref (ad 0)), (1, .int x1)] [] μ ν := by
  unfold e_S_behindNow_0 at hF
  refine z_aload_n d_S_behindNow_0 0 rfl rfl ?_
  refine z_getr d_S_behindNow_1 (q := 4) f_S_28 (hr 0 _ rfl) rfl ?_
  refine z_getr d_S_behindNow_4 (q := (4 + 12)) f_S_259 ((zRo_4 hr) 0 _ rfl) rfl ?_
  refine z_astore_n d_S_behindNow_7 rfl (by decide) (L2 := [(2, .ref (ad (4 + 12))), (0, .ref (ad 0)), (1, .int x1)]) rfl ?_
  refine z_aload_n d_S_behindNow_8 1 rfl rfl ?_
  refine z_getr d_S_behindNow_9 (q := 4) f_S_28 (hr 0 _ rfl) rfl ?_
  refine z_getr d_S_behindNow_12 (q := (4 + 13)) f_S_117 ((zRo_4 hr) 0 _ rfl) rfl ?_
  refine z_astore_n d_S_behindNow_15 rfl (by decide) (L2 := [(3, .ref (ad (4 + 13))), (2, .ref (ad (4 + 12))), (0, .ref (ad 0)), (1, .int x1)]) rfl ?_
  refine z_iload_n d_S_behindNow_16 3 rfl rfl ?_
  by_cases cy1 : x1 = 8
  · replace hF := zh_t cy1 hF
    refine z_tabIn d_S_behindNow_17 (tgt := 72) 8 cy1 (by decide) (by decide) (off := 55) (by decide) (by decide) ?_
    refine z_aload_n d_S_behindNow_72 1 rfl rfl ?_
    refine z_get d_S_behindNow_73 f_S_263 ((zRo_4 hr) 12 _ rfl) rfl ?_
    cases hF
    exact z_ireturn d_S_behindNow_76 rfl rfl ⟨rfl, rfl, rfl⟩
  · replace hF := zh_f cy1 hF
    by_cases cy2 : x1 = 9
    · replace hF := zh_t cy2 hF
      refine z_tabIn d_S_behindNow_17 (tgt := 77) 9 cy2 (by decide) (by decide) (off := 60) (by decide) (by decide) ?_
      refine z_aload_n d_S_behindNow_77 1 rfl rfl ?_
      refine z_get d_S_behindNow_78 f_S_268 ((zRo_4 hr) 12 _ rfl) rfl ?_
      cases hF
      exact z_ireturn d_S_behindNow_81 rfl rfl ⟨rfl, rfl, rfl⟩
    · replace hF := zh_f cy2 hF
      by_cases cy3 : x1 = 10
      · replace hF := zh_t cy3 hF
        refine z_tabIn d_S_behindNow_17 (tgt := 82) 10 cy3 (by decide) (by decide) (off := 65) (by decide) (by decide) ?_
        refine z_aload_n d_S_behindNow_82 1 rfl rfl ?_
        refine z_get d_S_behindNow_83 f_S_319 ((zRo_4 hr) 12 _ rfl) rfl ?_
        cases hF
        exact z_ireturn d_S_behindNow_86 rfl rfl ⟨rfl, rfl, rfl⟩
      · replace hF := zh_f cy3 hF
        by_cases cy4 : x1 = 11
        · replace hF := zh_t cy4 hF
          refine z_tabIn d_S_behindNow_17 (tgt := 87) 11 cy4 (by decide) (by decide) (off := 70) (by decide) (by decide) ?_
          refine z_aload_n d_S_behindNow_87 0 rfl rfl ?_
          refine z_get d_S_behindNow_88 f_S_322 ((zRo_4 hr) 13 _ rfl) rfl ?_
          obtain ⟨ty11, hty11, hF⟩ := zh_bind hF
          refine z_callS d_S_behindNow_91 (c_S_flag  hty11) ms_S_flag l_S_312 (fun _ _ h => h) rfl ⟨Nat.le_of_ble_eq_true rfl, Nat.le_of_ble_eq_true rfl⟩ ⟨Nat.le_of_ble_eq_true rfl, Nat.le_of_ble_eq_true rfl⟩ rfl (Nat.le_of_ble_eq_true rfl) (fun r μ' ν' hq => ?_)
          obtain ⟨rfl, rfl, rfl⟩ := hq
          show Z _ _ _ _ _ _ _ _ _ _ _ 0 0 _ _ _ [.int ty11.1] _ _
          cases hF
          exact z_ireturn d_S_behindNow_94 rfl rfl ⟨rfl, rfl, rfl⟩
        · replace hF := zh_f cy4 hF
          by_cases cy5 : x1 = 12
          · replace hF := zh_t cy5 hF
            refine z_tabIn d_S_behindNow_17 (tgt := 95) 12 cy5 (by decide) (by decide) (off := 78) (by decide) (by decide) ?_
            refine z_aload_n d_S_behindNow_95 0 rfl rfl ?_
            refine z_get d_S_behindNow_96 f_S_121 ((zRo_4 hr) 13 _ rfl) rfl ?_
            cases hF
            exact z_ireturn d_S_behindNow_99 rfl rfl ⟨rfl, rfl, rfl⟩
          · replace hF := zh_f cy5 hF
            by_cases cy6 : x1 = 13
            · replace hF := zh_t cy6 hF
              refine z_tabIn d_S_behindNow_17 (tgt := 100) 13 cy6 (by decide) (by decide) (off := 83) (by decide) (by decide) ?_
              refine z_aload_n d_S_behindNow_100 0 rfl rfl ?_
              refine z_get d_S_behindNow_101 f_S_128 ((zRo_4 hr) 13 _ rfl) rfl ?_
              cases hF
              exact z_ireturn d_S_behindNow_104 rfl rfl ⟨rfl, rfl, rfl⟩
            · replace hF := zh_f cy6 hF
              by_cases cy7 : x1 = 14
              · replace hF := zh_t cy7 hF
                refine z_tabIn d_S_behindNow_17 (tgt := 105) 14 cy7 (by decide) (by decide) (off := 88) (by decide) (by decide) ?_
                refine z_aload_n d_S_behindNow_105 0 rfl rfl ?_
                refine z_get d_S_behindNow_106 f_S_325 ((zRo_4 hr) 13 _ rfl) rfl ?_
                cases hF
                exact z_ireturn d_S_behindNow_109 rfl rfl ⟨rfl, rfl, rfl⟩
              · replace hF := zh_f cy7 hF
                by_cases cy8 : x1 = 15
                · replace hF := zh_t cy8 hF
                  refine z_tabIn d_S_behindNow_17 (tgt := 110) 15 cy8 (by decide) (by decide) (off := 93) (by decide) (by decide) ?_
                  refine z_aload_n d_S_behindNow_110 0 rfl rfl ?_
                  refine z_get d_S_behindNow_111 f_S_328 ((zRo_4 hr) 13 _ rfl) rfl ?_
                  cases hF
                  exact z_ireturn d_S_behindNow_114 rfl rfl ⟨rfl, rfl, rfl⟩
                · replace hF := zh_f cy8 hF
                  by_cases cy9 : x1 = 16
                  · replace hF := zh_t cy9 hF
                    refine z_tabIn d_S_behindNow_17 (tgt := 115) 16 cy9 (by decide) (by decide) (off := 98) (by decide) (by decide) ?_
                    refine z_aload_n d_S_behindNow_115 0 rfl rfl ?_
                    refine z_get d_S_behindNow_116 f_S_331 ((zRo_4 hr) 13 _ rfl) rfl ?_
                    cases hF
                    exact z_ireturn d_S_behindNow_119 rfl rfl ⟨rfl, rfl, rfl⟩
                  · replace hF := zh_f cy9 hF
                    by_cases cy10 : x1 = 17
                    · replace hF := zh_t cy10 hF
                      refine z_tabIn d_S_behindNow_17 (tgt := 120) 17 cy10 (by decide) (by decide) (off := 103) (by decide) (by decide) ?_
                      refine z_aload_n d_S_behindNow_120 0 rfl rfl ?_
                      refine z_get d_S_behindNow_121 f_S_334 ((zRo_4 hr) 13 _ rfl) rfl ?_
                      cases hF
                      exact z_ireturn d_S_behindNow_124 rfl rfl ⟨rfl, rfl, rfl⟩
                    · replace hF := zh_f cy10 hF
                      refine z_tabOut d_S_behindNow_17 (tgt := 125) [8, 9, 10, 11, 12, 13, 14, 15, 16, 17] (List.forall_mem_cons.mpr ⟨cy1, List.forall_mem_cons.mpr ⟨cy2, List.forall_mem_cons.mpr ⟨cy3, List.forall_mem_cons.mpr ⟨cy4, List.forall_mem_cons.mpr ⟨cy5, List.forall_mem_cons.mpr ⟨cy6, List.forall_mem_cons.mpr ⟨cy7, List.forall_mem_cons.mpr ⟨cy8, List.forall_mem_cons.mpr ⟨cy9, List.forall_mem_cons.mpr ⟨cy10, fun _ h => absurd h List.not_mem_nil⟩⟩⟩⟩⟩⟩⟩⟩⟩⟩) (by decide) (by decide) ?_
                      refine z_bipush d_S_behindNow_125 (v := (-10)) (by decide) ?_
                      cases hF
                      exact z_ireturn d_S_behindNow_127 rfl rfl ⟨rfl, rfl, rfl⟩
def E_S_behindNow  (x1 : Int32) (μ : zI) (ν : zJ) : Option (Int32 × zI × zJ) := e_S_behindNow_0 x1 μ ν
theorem c_S_behindNow {l : Launch} {D : va_G} {dA : Nat → ClassId} {ad : Nat → Nat} {sh : List zSE} {μ : zI} {ν : zJ} {x1 : Int32} (hr : zRo sh) {out : (Int32 × zI × zJ)} (hE : E_S_behindNow x1 μ ν = some out) : zC l D dA ad sh m_S_behindNow 1 0 0 [.ref (ad 0), .int x1] μ ν (zOi out) :=
  zC.of (by decide) (Nat.le_of_ble_eq_true rfl) (z_S_behindNow_0 hr hE)
def e_S_now_23   (x1 : Int32) (s0 : Int32) (μ : zI) (ν : zJ) : Option (Int32 × zI × zJ) := some (s0, μ, ν)
theorem z_S_now_23 {l : Launch} {D : va_G} {dA : Nat → ClassId} {ad : Nat → Nat} {sh : List zSE}  (hr : zRo sh)  {x1 : Int32} {s0 : Int32} {μ : zI} {ν : zJ} {out : (Int32 × zI × zJ)} (hF : e_S_now_23   x1 s0 μ ν = some out) : Z l D dA ad sh m_S_now (zR 2 0 0) (zS ad) (zOi out) 0 0 0 0 [] 23 [(0, .ref (ad 0)), (1, .int x1)] [.int s0] μ ν := by
  unfold e_S_now_23 at hF
  cases hF
  exact z_ireturn d_S_now_23 rfl rfl ⟨rfl, rfl, rfl⟩
def e_S_now_0   (x1 : Int32) (μ : zI) (ν : zJ) : Option (Int32 × zI × zJ) := Option.bind (E_S_isWithin x1 0 7 μ ν) fun ty1 => (if ty1.1 = 0 then Option.bind (E_S_behindNow x1 ty1.2.1 ty1.2.2) fun ty3 => e_S_now_23 x1 ty3.1 ty3.2.1 ty3.2.2 else Option.bind (E_S_followerNow x1 ty1.2.1 ty1.2.2) fun ty4 => e_S_now_23 x1 ty4.1 ty4.2.1 ty4.2.2)
theorem z_S_now_0 {l : Launch} {D : va_G} {dA : Nat → ClassId} {ad : Nat → Nat} {sh : List zSE}  (hr : zRo sh)  {x1 : Int32} {μ : zI} {ν : zJ} {out : (Int32 × zI × zJ)} (hF : e_S_now_0   x1 μ ν = some out) : Z l D dA ad sh m_S_now (zR 2 0 0) (zS ad) (zOi out) 0 0 0 0 [] 0 [(0, .ref (ad 0)), (1, .int x1)] [] μ ν := by
  unfold e_S_now_0 at hF
  refine z_iload_n d_S_now_0 1 rfl rfl ?_
  refine z_iconst d_S_now_1 (v := 0) (by decide) ?_
  refine z_bipush d_S_now_2 (v := 7) (by decide) ?_
  obtain ⟨ty1, hty1, hF⟩ := zh_bind hF
  refine z_callS d_S_now_4 (c_S_isWithin  hty1) ms_S_isWithin l_S_54 (fun _ _ h => h) rfl ⟨Nat.le_of_ble_eq_true rfl, Nat.le_of_ble_eq_true rfl⟩ ⟨Nat.le_of_ble_eq_true rfl, Nat.le_of_ble_eq_true rfl⟩ rfl (Nat.le_of_ble_eq_true rfl) (fun r μ' ν' hq => ?_)
  obtain ⟨rfl, rfl, rfl⟩ := hq
  show Z _ _ _ _ _ _ _ _ _ _ _ 0 0 _ _ _ [.int ty1.1] _ _
  refine z_if_eq d_S_now_7 (tgt := 18) (by decide) (fun cy2 => ?_) (fun cy2 => ?_)
  · replace hF := zh_t cy2 hF
    refine z_aload_n d_S_now_18 0 rfl rfl ?_
    refine z_iload_n d_S_now_19 1 rfl rfl ?_
    obtain ⟨ty3, hty3, hF⟩ := zh_bind hF
    refine z_callV d_S_now_20 (c_S_behindNow hr hty3) mv_S_behindNow l_S_211 (fun _ _ h => h) (hr 0 _ rfl) rfl rfl ⟨Nat.le_of_ble_eq_true rfl, Nat.le_of_ble_eq_true rfl⟩ ⟨Nat.le_of_ble_eq_true rfl, Nat.le_of_ble_eq_true rfl⟩ rfl (Nat.le_of_ble_eq_true rfl) (fun r μ' ν' hq => ?_)
    obtain ⟨rfl, rfl, rfl⟩ := hq
    show Z _ _ _ _ _ _ _ _ _ _ _ 0 0 _ _ _ [.int ty3.1] _ _
    exact z_S_now_23 hr  hF
  · replace hF := zh_f cy2 hF
    refine z_aload_n d_S_now_10 0 rfl rfl ?_
    refine z_iload_n d_S_now_11 1 rfl rfl ?_
    obtain ⟨ty4, hty4, hF⟩ := zh_bind hF
    refine z_callV d_S_now_12 (c_S_followerNow hr hty4) mv_S_followerNow l_S_208 (fun _ _ h => h) (hr 0 _ rfl) rfl rfl ⟨Nat.le_of_ble_eq_true rfl, Nat.le_of_ble_eq_true rfl⟩ ⟨Nat.le_of_ble_eq_true rfl, Nat.le_of_ble_eq_true rfl⟩ rfl (Nat.le_of_ble_eq_true rfl) (fun r μ' ν' hq => ?_)
    obtain ⟨rfl, rfl, rfl⟩ := hq
    show Z _ _ _ _ _ _ _ _ _ _ _ 0 0 _ _ _ [.int ty4.1] _ _
    refine z_goto d_S_now_15 (tgt := 23) (by decide) ?_
    exact z_S_now_23 hr  hF
def E_S_now  (x1 : Int32) (μ : zI) (ν : zJ) : Option (Int32 × zI × zJ) := e_S_now_0 x1 μ ν
theorem c_S_now {l : Launch} {D : va_G} {dA : Nat → ClassId} {ad : Nat → Nat} {sh : List zSE} {μ : zI} {ν : zJ} {x1 : Int32} (hr : zRo sh) {out : (Int32 × zI × zJ)} (hE : E_S_now x1 μ ν = some out) : zC l D dA ad sh m_S_now 2 0 0 [.ref (ad 0), .int x1] μ ν (zOi out) :=
  zC.of (by decide) (Nat.le_of_ble_eq_true rfl) (z_S_now_0 hr hE)
def e_S_sum_25   (x1 : Int32) (v0 : Int64) (μ : zI) (ν : zJ) : Option (Int64 × zI × zJ) := some (v0, μ, ν)
theorem z_S_sum_25 {l : Launch} {D : va_G} {dA : Nat → ClassId} {ad : Nat → Nat} {sh : List zSE}  (hr : zRo sh)  {x1 : Int32} {v0 : Int64} {μ : zI} {ν : zJ} {out : (Int64 × zI × zJ)} (hF : e_S_sum_25   x1 v0 μ ν = some out) : Z l D dA ad sh m_S_sum (zR 2 0 0) (zS ad) (zOl out) 0 0 0 0 [] 25 [(0, .ref (ad 0)), (1, .int x1)] [.long v0] μ ν := by
  unfold e_S_sum_25 at hF
  cases hF
  exact z_lreturn d_S_sum_25 rfl ⟨rfl, rfl, rfl⟩
def e_S_sum_0   (x1 : Int32) (μ : zI) (ν : zJ) : Option (Int64 × zI × zJ) := Option.bind (E_Station_isSum 4 x1 μ ν) fun ty1 => (if ty1.1 = 0 then e_S_sum_25 x1 (-1) ty1.2.1 ty1.2.2 else Option.bind (E_Station_sumOf 4 x1 ty1.2.1 ty1.2.2) fun ty3 => e_S_sum_25 x1 ty3.1 ty3.2.1 ty3.2.2)
theorem z_S_sum_0 {l : Launch} {D : va_G} {dA : Nat → ClassId} {ad : Nat → Nat} {sh : List zSE}  (hr : zRo sh)  {x1 : Int32} {μ : zI} {ν : zJ} {out : (Int64 × zI × zJ)} (hF : e_S_sum_0   x1 μ ν = some out) : Z l D dA ad sh m_S_sum (zR 2 0 0) (zS ad) (zOl out) 0 0 0 0 [] 0 [(0, .ref (ad 0)), (1, .int x1)] [] μ ν := by
  unfold e_S_sum_0 at hF
  refine z_aload_n d_S_sum_0 0 rfl rfl ?_
  refine z_getr d_S_sum_1 (q := 4) f_S_28 (hr 0 _ rfl) rfl ?_
  refine z_iload_n d_S_sum_4 1 rfl rfl ?_
  obtain ⟨ty1, hty1, hF⟩ := zh_bind hF
  refine z_callV d_S_sum_5 (c_Station_isSum (zRo_4 hr) hty1) mv_Station_isSum l_S_214 (fun _ _ h => h) ((zRo_4 hr) 0 _ rfl) rfl rfl ⟨Nat.le_of_ble_eq_true rfl, Nat.le_of_ble_eq_true rfl⟩ ⟨Nat.le_of_ble_eq_true rfl, Nat.le_of_ble_eq_true rfl⟩ rfl (Nat.le_of_ble_eq_true rfl) (fun r μ' ν' hq => ?_)
  obtain ⟨rfl, rfl, rfl⟩ := hq
  show Z _ _ _ _ _ _ _ _ _ _ _ 0 0 _ _ _ [.int ty1.1] _ _
  refine z_if_eq d_S_sum_8 (tgt := 22) (by decide) (fun cy2 => ?_) (fun cy2 => ?_)
  · replace hF := zh_t cy2 hF
    refine z_ldc2 d_S_sum_22 k_S_221 ?_
    exact z_S_sum_25 hr  hF
  · replace hF := zh_f cy2 hF
    refine z_aload_n d_S_sum_11 0 rfl rfl ?_
    refine z_getr d_S_sum_12 (q := 4) f_S_28 (hr 0 _ rfl) rfl ?_
    refine z_iload_n d_S_sum_15 1 rfl rfl ?_
    obtain ⟨ty3, hty3, hF⟩ := zh_bind hF
    refine z_callV d_S_sum_16 (c_Station_sumOf (zRo_4 hr) hty3) mv_Station_sumOf l_S_217 (fun _ _ h => h) ((zRo_4 hr) 0 _ rfl) rfl rfl ⟨Nat.le_of_ble_eq_true rfl, Nat.le_of_ble_eq_true rfl⟩ ⟨Nat.le_of_ble_eq_true rfl, Nat.le_of_ble_eq_true rfl⟩ rfl (Nat.le_of_ble_eq_true rfl) (fun r μ' ν' hq => ?_)
    obtain ⟨rfl, rfl, rfl⟩ := hq
    show Z _ _ _ _ _ _ _ _ _ _ _ 0 0 _ _ _ [.long ty3.1] _ _
    refine z_goto d_S_sum_19 (tgt := 25) (by decide) ?_
    exact z_S_sum_25 hr  hF
def E_S_sum  (x1 : Int32) (μ : zI) (ν : zJ) : Option (Int64 × zI × zJ) := e_S_sum_0 x1 μ ν
theorem c_S_sum {l : Launch} {D : va_G} {dA : Nat → ClassId} {ad : Nat → Nat} {sh : List zSE} {μ : zI} {ν : zJ} {x1 : Int32} (hr : zRo sh) {out : (Int64 × zI × zJ)} (hE : E_S_sum x1 μ ν = some out) : zC l D dA ad sh m_S_sum 2 0 0 [.ref (ad 0), .int x1] μ ν (zOl out) :=
  zC.of (by decide) (Nat.le_of_ble_eq_true rfl) (z_S_sum_0 hr hE)
def e_S_past_14   (x1 : Int32) (x2 : Int32) (μ : zI) (ν : zJ) : Option (Int32 × zI × zJ) := some ((-1), μ, ν)
theorem z_S_past_14 {l : Launch} {D : va_G} {dA : Nat → ClassId} {ad : Nat → Nat} {sh : List zSE}  (hr : zRo sh)  {x1 : Int32} {x2 : Int32} {μ : zI} {ν : zJ} {out : (Int32 × zI × zJ)} (hF : e_S_past_14   x1 x2 μ ν = some out) : Z l D dA ad sh m_S_past (zR 1 0 0) (zS ad) (zOi out) 0 0 0 0 [] 14 [(0, .ref (ad 0)), (1, .int x1), (2, .int x2)] [] μ ν := by
  unfold e_S_past_14 at hF
  refine z_iconst d_S_past_14 (v := (-1)) (by decide) ?_
  cases hF
  exact z_ireturn d_S_past_15 rfl rfl ⟨rfl, rfl, rfl⟩
def e_S_past_41   (x1 : Int32) (x2 : Int32) (s0 : Int32) (μ : zI) (ν : zJ) : Option (Int32 × zI × zJ) := some (s0, μ, ν)
theorem z_S_past_41 {l : Launch} {D : va_G} {dA : Nat → ClassId} {ad : Nat → Nat} {sh : List zSE}  (hr : zRo sh)  {x1 : Int32} {x2 : Int32} {s0 : Int32} {μ : zI} {ν : zJ} {out : (Int32 × zI × zJ)} (hF : e_S_past_41   x1 x2 s0 μ ν = some out) : Z l D dA ad sh m_S_past (zR 1 0 0) (zS ad) (zOi out) 0 0 0 0 [] 41 [(0, .ref (ad 0)), (1, .int x1), (2, .int x2)] [.int s0] μ ν := by
  unfold e_S_past_41 at hF
  cases hF
  exact z_ireturn d_S_past_41 rfl rfl ⟨rfl, rfl, rfl⟩
def e_S_past_0   (x1 : Int32) (x2 : Int32) (μ : zI) (ν : zJ) : Option (Int32 × zI × zJ) := (if x1 < 0 then e_S_past_14 x1 x2 μ ν else Option.bind (E_S_isWithin x2 0 9 μ ν) fun ty2 => (if ty2.1 = 0 then e_S_past_14 x1 x2 ty2.2.1 ty2.2.2 else (if (ty2.2.1 34 0) ≤ x1 then e_S_past_41 x1 x2 (-2) ty2.2.1 ty2.2.2 else Option.bind (E_Log_get x1 x2 ty2.2.1 ty2.2.2) fun ty5 => e_S_past_41 x1 x2 ty5.1 ty5.2.1 ty5.2.2)))
theorem z_S_past_0 {l : Launch} {D : va_G} {dA : Nat → ClassId} {ad : Nat → Nat} {sh : List zSE}  (hr : zRo sh)  {x1 : Int32} {x2 : Int32} {μ : zI} {ν : zJ} {out : (Int32 × zI × zJ)} (hF : e_S_past_0   x1 x2 μ ν = some out) : Z l D dA ad sh m_S_past (zR 1 0 0) (zS ad) (zOi out) 0 0 0 0 [] 0 [(0, .ref (ad 0)), (1, .int x1), (2, .int x2)] [] μ ν := by
  unfold e_S_past_0 at hF
  refine z_iload_n d_S_past_0 1 rfl rfl ?_
  refine z_if_lt d_S_past_1 (tgt := 14) (by decide) (fun cy1 => ?_) (fun cy1 => ?_)
  · replace hF := zh_t cy1 hF
    exact z_S_past_14 hr  hF
  · replace hF := zh_f cy1 hF
    refine z_iload_n d_S_past_4 2 rfl rfl ?_
    refine z_iconst d_S_past_5 (v := 0) (by decide) ?_
    refine z_bipush d_S_past_6 (v := 9) (by decide) ?_
    obtain ⟨ty2, hty2, hF⟩ := zh_bind hF
    refine z_callS d_S_past_8 (c_S_isWithin  hty2) ms_S_isWithin l_S_54 (fun _ _ h => h) rfl ⟨Nat.le_of_ble_eq_true rfl, Nat.le_of_ble_eq_true rfl⟩ ⟨Nat.le_of_ble_eq_true rfl, Nat.le_of_ble_eq_true rfl⟩ rfl (Nat.le_of_ble_eq_true rfl) (fun r μ' ν' hq => ?_)
    obtain ⟨rfl, rfl, rfl⟩ := hq
    show Z _ _ _ _ _ _ _ _ _ _ _ 0 0 _ _ _ [.int ty2.1] _ _
    refine z_if_ne d_S_past_11 (tgt := 16) (by decide) (fun cy3 => ?_) (fun cy3 => ?_)
    · replace hF := zh_f cy3 hF
      refine z_iload_n d_S_past_16 1 rfl rfl ?_
      refine z_aload_n d_S_past_17 0 rfl rfl ?_
      refine z_getr d_S_past_18 (q := 34) f_S_38 (hr 0 _ rfl) rfl ?_
      refine z_get d_S_past_21 f_S_66 (hr 34 _ rfl) rfl ?_
      refine z_icmp_ge d_S_past_24 (tgt := 39) (by decide) (fun cy4 => ?_) (fun cy4 => ?_)
      · replace hF := zh_t cy4 hF
        refine z_bipush d_S_past_39 (v := (-2)) (by decide) ?_
        exact z_S_past_41 hr  hF
      · replace hF := zh_f cy4 hF
        refine z_aload_n d_S_past_27 0 rfl rfl ?_
        refine z_getr d_S_past_28 (q := 34) f_S_38 (hr 0 _ rfl) rfl ?_
        refine z_iload_n d_S_past_31 1 rfl rfl ?_
        refine z_iload_n d_S_past_32 2 rfl rfl ?_
        obtain ⟨ty5, hty5, hF⟩ := zh_bind hF
        refine z_callV d_S_past_33 (c_Log_get hr hty5) mv_Log_get l_S_223 (fun _ _ h => h) (hr 34 _ rfl) rfl rfl ⟨Nat.le_of_ble_eq_true rfl, Nat.le_of_ble_eq_true rfl⟩ ⟨Nat.le_of_ble_eq_true rfl, Nat.le_of_ble_eq_true rfl⟩ rfl (Nat.le_of_ble_eq_true rfl) (fun r μ' ν' hq => ?_)
        obtain ⟨rfl, rfl, rfl⟩ := hq
        show Z _ _ _ _ _ _ _ _ _ _ _ 0 0 _ _ _ [.int ty5.1] _ _
        refine z_goto d_S_past_36 (tgt := 41) (by decide) ?_
        exact z_S_past_41 hr  hF
    · replace hF := zh_t cy3 hF
      exact z_S_past_14 hr  hF
def E_S_past  (x1 : Int32) (x2 : Int32) (μ : zI) (ν : zJ) : Option (Int32 × zI × zJ) := e_S_past_0 x1 x2 μ ν
theorem c_S_past {l : Launch} {D : va_G} {dA : Nat → ClassId} {ad : Nat → Nat} {sh : List zSE} {μ : zI} {ν : zJ} {x1 : Int32} {x2 : Int32} (hr : zRo sh) {out : (Int32 × zI × zJ)} (hE : E_S_past x1 x2 μ ν = some out) : zC l D dA ad sh m_S_past 1 0 0 [.ref (ad 0), .int x1, .int x2] μ ν (zOi out) :=
  zC.of (by decide) (Nat.le_of_ble_eq_true rfl) (z_S_past_0 hr hE)
def e_S_near_42  (r16 : Int32 → Int32 → Int32 → zI → zJ → Option (Int32 × zI × zJ)) (x1 : Int32) (x2 : Int32) (x3 : Int32) (μ : zI) (ν : zJ) : Option (Int32 × zI × zJ) := r16 x1 x2 (x3 + 1) μ ν
theorem z_S_near_42 {l : Launch} {D : va_G} {dA : Nat → ClassId} {ad : Nat → Nat} {sh : List zSE}  (hr : zRo sh) {r16 : Int32 → Int32 → Int32 → zI → zJ → Option (Int32 × zI × zJ)} {x1 : Int32} {x2 : Int32} {x3 : Int32} {μ : zI} {ν : zJ} {out : (Int32 × zI × zJ)} (hr16 : ∀ (x1 : Int32) (x2 : Int32) (x3 : Int32) (μ : zI) (ν : zJ), r16 x1 x2 x3 μ ν = some out → Z l D dA ad sh m_S_near (zR 2 0 0) (zS ad) (zOi out) 0 0 0 0 [] 16 [(0, .ref (ad 0)), (1, .int x1), (2, .int x2), (3, .int x3)] [] μ ν) (hF : e_S_near_42  r16 x1 x2 x3 μ ν = some out) : Z l D dA ad sh m_S_near (zR 2 0 0) (zS ad) (zOi out) 0 0 0 0 [] 42 [(0, .ref (ad 0)), (1, .int x1), (2, .int x2), (3, .int x3)] [] μ ν := by
  unfold e_S_near_42 at hF
  refine z_iinc d_S_near_42 (k := 3) (v := (x3 + 1)) rfl rfl (by decide) (L2 := [(3, .int (x3 + 1)), (0, .ref (ad 0)), (1, .int x1), (2, .int x2)]) rfl ?_
  refine z_goto d_S_near_45 (tgt := 16) (by decide) ?_
  refine z_sub [1, 2, 3, 0] (L' := [(0, .ref (ad 0)), (1, .int x1), (2, .int x2), (3, .int (x3 + 1))]) rfl ?_
  exact hr16 _ _ _ _ _ hF
def f_S_near_16   : Nat → Int32 → Int32 → Int32 → zI → zJ → Option (Int32 × zI × zJ)
  | 0, _, _, _, _, _ => none
  | n + 1, x1, x2, x3, μ, ν => (if (μ 34 0) ≤ x3 then some (x2, μ, ν) else Option.bind (E_Log_wasNear x3 x1 μ ν) fun ty2 => (if ty2.1 = 0 then e_S_near_42 (f_S_near_16  n) x1 x2 x3 ty2.2.1 ty2.2.2 else e_S_near_42 (f_S_near_16  n) x1 (x2 + 1) x3 ty2.2.1 ty2.2.2))
theorem z_S_near_16 {l : Launch} {D : va_G} {dA : Nat → ClassId} {ad : Nat → Nat} {sh : List zSE}  (hr : zRo sh)  {out : (Int32 × zI × zJ)} : ∀ (n : Nat) (x1 : Int32) (x2 : Int32) (x3 : Int32) (μ : zI) (ν : zJ), f_S_near_16   n x1 x2 x3 μ ν = some out → Z l D dA ad sh m_S_near (zR 2 0 0) (zS ad) (zOi out) 0 0 0 0 [] 16 [(0, .ref (ad 0)), (1, .int x1), (2, .int x2), (3, .int x3)] [] μ ν := by
  intro n
  induction n with
  | zero => intro x1 x2 x3 μ ν hF; cases hF
  | succ n ih =>
    intro x1 x2 x3 μ ν hF
    dsimp only [f_S_near_16] at hF
    refine z_iload_n d_S_near_16 3 rfl rfl ?_
    refine z_aload_n d_S_near_17 0 rfl rfl ?_
    refine z_getr d_S_near_18 (q := 34) f_S_38 (hr 0 _ rfl) rfl ?_
    refine z_get d_S_near_21 f_S_66 (hr 34 _ rfl) rfl ?_
    refine z_icmp_ge d_S_near_24 (tgt := 48) (by decide) (fun cy1 => ?_) (fun cy1 => ?_)
    · replace hF := zh_t cy1 hF
      refine z_iload_n d_S_near_48 2 rfl rfl ?_
      cases hF
      exact z_ireturn d_S_near_49 rfl rfl ⟨rfl, rfl, rfl⟩
    · replace hF := zh_f cy1 hF
      refine z_aload_n d_S_near_27 0 rfl rfl ?_
      refine z_getr d_S_near_28 (q := 34) f_S_38 (hr 0 _ rfl) rfl ?_
      refine z_iload_n d_S_near_31 3 rfl rfl ?_
      refine z_iload_n d_S_near_32 1 rfl rfl ?_
      obtain ⟨ty2, hty2, hF⟩ := zh_bind hF
      refine z_callV d_S_near_33 (c_Log_wasNear hr hty2) mv_Log_wasNear l_S_225 (fun _ _ h => h) (hr 34 _ rfl) rfl rfl ⟨Nat.le_of_ble_eq_true rfl, Nat.le_of_ble_eq_true rfl⟩ ⟨Nat.le_of_ble_eq_true rfl, Nat.le_of_ble_eq_true rfl⟩ rfl (Nat.le_of_ble_eq_true rfl) (fun r μ' ν' hq => ?_)
      obtain ⟨rfl, rfl, rfl⟩ := hq
      show Z _ _ _ _ _ _ _ _ _ _ _ 0 0 _ _ _ [.int ty2.1] _ _
      refine z_if_eq d_S_near_36 (tgt := 42) (by decide) (fun cy3 => ?_) (fun cy3 => ?_)
      · replace hF := zh_t cy3 hF
        exact z_S_near_42 hr (fun a0 a1 a2 a3 a4 => ih a0 a1 a2 a3 a4) hF
      · replace hF := zh_f cy3 hF
        refine z_iinc d_S_near_39 (k := 2) (v := (x2 + 1)) rfl rfl (by decide) (L2 := [(2, .int (x2 + 1)), (0, .ref (ad 0)), (1, .int x1), (3, .int x3)]) rfl ?_
        refine z_sub [1, 2, 0, 3] (L' := [(0, .ref (ad 0)), (1, .int x1), (2, .int (x2 + 1)), (3, .int x3)]) rfl ?_
        exact z_S_near_42 hr (fun a0 a1 a2 a3 a4 => ih a0 a1 a2 a3 a4) hF
def e_S_near_0   (x1 : Int32) (μ : zI) (ν : zJ) : Option (Int32 × zI × zJ) := Option.bind (E_S_isWithin x1 0 100 μ ν) fun ty1 => (if ty1.1 = 0 then some ((-1), ty1.2.1, ty1.2.2) else f_S_near_16 zFuel x1 0 0 ty1.2.1 ty1.2.2)
theorem z_S_near_0 {l : Launch} {D : va_G} {dA : Nat → ClassId} {ad : Nat → Nat} {sh : List zSE}  (hr : zRo sh)  {x1 : Int32} {μ : zI} {ν : zJ} {out : (Int32 × zI × zJ)} (hF : e_S_near_0   x1 μ ν = some out) : Z l D dA ad sh m_S_near (zR 2 0 0) (zS ad) (zOi out) 0 0 0 0 [] 0 [(0, .ref (ad 0)), (1, .int x1)] [] μ ν := by
  unfold e_S_near_0 at hF
  refine z_iload_n d_S_near_0 1 rfl rfl ?_
  refine z_iconst d_S_near_1 (v := 0) (by decide) ?_
  refine z_bipush d_S_near_2 (v := 100) (by decide) ?_
  obtain ⟨ty1, hty1, hF⟩ := zh_bind hF
  refine z_callS d_S_near_4 (c_S_isWithin  hty1) ms_S_isWithin l_S_54 (fun _ _ h => h) rfl ⟨Nat.le_of_ble_eq_true rfl, Nat.le_of_ble_eq_true rfl⟩ ⟨Nat.le_of_ble_eq_true rfl, Nat.le_of_ble_eq_true rfl⟩ rfl (Nat.le_of_ble_eq_true rfl) (fun r μ' ν' hq => ?_)
  obtain ⟨rfl, rfl, rfl⟩ := hq
  show Z _ _ _ _ _ _ _ _ _ _ _ 0 0 _ _ _ [.int ty1.1] _ _
  refine z_if_ne d_S_near_7 (tgt := 12) (by decide) (fun cy2 => ?_) (fun cy2 => ?_)
  · replace hF := zh_f cy2 hF
    refine z_iconst d_S_near_12 (v := 0) (by decide) ?_
    refine z_istore_n d_S_near_13 rfl (by decide) (L2 := [(2, .int 0), (0, .ref (ad 0)), (1, .int x1)]) rfl ?_
    refine z_iconst d_S_near_14 (v := 0) (by decide) ?_
    refine z_istore_n d_S_near_15 rfl (by decide) (L2 := [(3, .int 0), (2, .int 0), (0, .ref (ad 0)), (1, .int x1)]) rfl ?_
    refine z_sub [2, 3, 1, 0] (L' := [(0, .ref (ad 0)), (1, .int x1), (2, .int 0), (3, .int 0)]) rfl ?_
    exact z_S_near_16 hr  zFuel _ _ _ _ _ hF
  · replace hF := zh_t cy2 hF
    refine z_iconst d_S_near_10 (v := (-1)) (by decide) ?_
    cases hF
    exact z_ireturn d_S_near_11 rfl rfl ⟨rfl, rfl, rfl⟩
def E_S_near  (x1 : Int32) (μ : zI) (ν : zJ) : Option (Int32 × zI × zJ) := e_S_near_0 x1 μ ν
theorem c_S_near {l : Launch} {D : va_G} {dA : Nat → ClassId} {ad : Nat → Nat} {sh : List zSE} {μ : zI} {ν : zJ} {x1 : Int32} (hr : zRo sh) {out : (Int32 × zI × zJ)} (hE : E_S_near x1 μ ν = some out) : zC l D dA ad sh m_S_near 2 0 0 [.ref (ad 0), .int x1] μ ν (zOi out) :=
  zC.of (by decide) (Nat.le_of_ble_eq_true rfl) (z_S_near_0 hr hE)
def e_S_longestAway_51  (r19 : Int32 → Int32 → Int32 → Int32 → zI → zJ → Option (Int32 × zI × zJ)) (x1 : Int32) (x2 : Int32) (x3 : Int32) (x4 : Int32) (s0 : Int32) (μ : zI) (ν : zJ) : Option (Int32 × zI × zJ) := zlet (α := Int32) (zMax x2 s0) fun y1 => r19 x1 y1 s0 (x4 + 1) μ ν
theorem z_S_longestAway_51 {l : Launch} {D : va_G} {dA : Nat → ClassId} {ad : Nat → Nat} {sh : List zSE}  (hr : zRo sh) {r19 : Int32 → Int32 → Int32 → Int32 → zI → zJ → Option (Int32 × zI × zJ)} {x1 : Int32} {x2 : Int32} {x3 : Int32} {x4 : Int32} {s0 : Int32} {μ : zI} {ν : zJ} {out : (Int32 × zI × zJ)} (hr19 : ∀ (x1 : Int32) (x2 : Int32) (x3 : Int32) (x4 : Int32) (μ : zI) (ν : zJ), r19 x1 x2 x3 x4 μ ν = some out → Z l D dA ad sh m_S_longestAway (zR 2 0 0) (zS ad) (zOi out) 0 0 0 0 [] 19 [(0, .ref (ad 0)), (1, .int x1), (2, .int x2), (3, .int x3), (4, .int x4)] [] μ ν) (hF : e_S_longestAway_51  r19 x1 x2 x3 x4 s0 μ ν = some out) : Z l D dA ad sh m_S_longestAway (zR 2 0 0) (zS ad) (zOi out) 0 0 0 0 [] 51 [(0, .ref (ad 0)), (1, .int x1), (2, .int x2), (3, .int x3), (4, .int x4)] [.int s0] μ ν := by
  unfold e_S_longestAway_51 at hF
  refine z_istore_n d_S_longestAway_51 rfl (by decide) (L2 := [(3, .int s0), (0, .ref (ad 0)), (1, .int x1), (2, .int x2), (4, .int x4)]) rfl ?_
  refine z_iload_n d_S_longestAway_52 3 rfl rfl ?_
  refine z_iload_n d_S_longestAway_53 0 rfl rfl ?_
  refine z_max d_S_longestAway_54 l_S_228 ma_max_s ma_i ma_max_c ⟨Nat.le_of_ble_eq_true rfl, Nat.le_of_ble_eq_true rfl, Nat.zero_le _, Nat.zero_le _⟩ ?_
  obtain ⟨y1, hy1, hF⟩ := zh_let hF
  refine z_eqi hy1 ?_
  refine z_istore_n d_S_longestAway_57 rfl (by decide) (L2 := [(2, .int y1), (3, .int s0), (0, .ref (ad 0)), (1, .int x1), (4, .int x4)]) rfl ?_
  refine z_iinc d_S_longestAway_58 (k := 4) (v := (x4 + 1)) rfl rfl (by decide) (L2 := [(4, .int (x4 + 1)), (2, .int y1), (3, .int s0), (0, .ref (ad 0)), (1, .int x1)]) rfl ?_
  refine z_goto d_S_longestAway_61 (tgt := 19) (by decide) ?_
  refine z_sub [3, 4, 1, 2, 0] (L' := [(0, .ref (ad 0)), (1, .int x1), (2, .int y1), (3, .int s0), (4, .int (x4 + 1))]) rfl ?_
  exact hr19 _ _ _ _ _ _ hF
def f_S_longestAway_19   : Nat → Int32 → Int32 → Int32 → Int32 → zI → zJ → Option (Int32 × zI × zJ)
  | 0, _, _, _, _, _, _ => none
  | n + 1, x1, x2, x3, x4, μ, ν => (if (μ 34 0) ≤ x4 then some (x2, μ, ν) else Option.bind (E_Log_wasNear x4 x1 μ ν) fun ty2 => (if ty2.1 = 0 then e_S_longestAway_51 (f_S_longestAway_19  n) x1 x2 x3 x4 (x3 + 1) ty2.2.1 ty2.2.2 else e_S_longestAway_51 (f_S_longestAway_19  n) x1 x2 x3 x4 0 ty2.2.1 ty2.2.2))
theorem z_S_longestAway_19 {l : Launch} {D : va_G} {dA : Nat → ClassId} {ad : Nat → Nat} {sh : List zSE}  (hr : zRo sh)  {out : (Int32 × zI × zJ)} : ∀ (n : Nat) (x1 : Int32) (x2 : Int32) (x3 : Int32) (x4 : Int32) (μ : zI) (ν : zJ), f_S_longestAway_19   n x1 x2 x3 x4 μ ν = some out → Z l D dA ad sh m_S_longestAway (zR 2 0 0) (zS ad) (zOi out) 0 0 0 0 [] 19 [(0, .ref (ad 0)), (1, .int x1), (2, .int x2), (3, .int x3), (4, .int x4)] [] μ ν := by
  intro n
  induction n with
  | zero => intro x1 x2 x3 x4 μ ν hF; cases hF
  | succ n ih =>
    intro x1 x2 x3 x4 μ ν hF
    dsimp only [f_S_longestAway_19] at hF
    refine z_iload d_S_longestAway_19 4 rfl ?_
    refine z_aload_n d_S_longestAway_21 0 rfl rfl ?_
    refine z_getr d_S_longestAway_22 (q := 34) f_S_38 (hr 0 _ rfl) rfl ?_
    refine z_get d_S_longestAway_25 f_S_66 (hr 34 _ rfl) rfl ?_
    refine z_icmp_ge d_S_longestAway_28 (tgt := 64) (by decide) (fun cy1 => ?_) (fun cy1 => ?_)
    · replace hF := zh_t cy1 hF
      refine z_iload_n d_S_longestAway_64 2 rfl rfl ?_
      cases hF
      exact z_ireturn d_S_longestAway_65 rfl rfl ⟨rfl, rfl, rfl⟩
    · replace hF := zh_f cy1 hF
      refine z_aload_n d_S_longestAway_31 0 rfl rfl ?_
      refine z_getr d_S_longestAway_32 (q := 34) f_S_38 (hr 0 _ rfl) rfl ?_
      refine z_iload d_S_longestAway_35 4 rfl ?_
      refine z_iload_n d_S_longestAway_37 1 rfl rfl ?_
      obtain ⟨ty2, hty2, hF⟩ := zh_bind hF
      refine z_callV d_S_longestAway_38 (c_Log_wasNear hr hty2) mv_Log_wasNear l_S_225 (fun _ _ h => h) (hr 34 _ rfl) rfl rfl ⟨Nat.le_of_ble_eq_true rfl, Nat.le_of_ble_eq_true rfl⟩ ⟨Nat.le_of_ble_eq_true rfl, Nat.le_of_ble_eq_true rfl⟩ rfl (Nat.le_of_ble_eq_true rfl) (fun r μ' ν' hq => ?_)
      obtain ⟨rfl, rfl, rfl⟩ := hq
      show Z _ _ _ _ _ _ _ _ _ _ _ 0 0 _ _ _ [.int ty2.1] _ _
      refine z_if_eq d_S_longestAway_41 (tgt := 48) (by decide) (fun cy3 => ?_) (fun cy3 => ?_)
      · replace hF := zh_t cy3 hF
        refine z_iload_n d_S_longestAway_48 3 rfl rfl ?_
        refine z_iconst d_S_longestAway_49 (v := 1) (by decide) ?_
        refine z_iadd d_S_longestAway_50 ?_
        exact z_S_longestAway_51 hr (fun a0 a1 a2 a3 a4 a5 => ih a0 a1 a2 a3 a4 a5) hF
      · replace hF := zh_f cy3 hF
        refine z_iconst d_S_longestAway_44 (v := 0) (by decide) ?_
        refine z_goto d_S_longestAway_45 (tgt := 51) (by decide) ?_
        exact z_S_longestAway_51 hr (fun a0 a1 a2 a3 a4 a5 => ih a0 a1 a2 a3 a4 a5) hF
def e_S_longestAway_0   (x1 : Int32) (μ : zI) (ν : zJ) : Option (Int32 × zI × zJ) := Option.bind (E_S_isWithin x1 0 100 μ ν) fun ty1 => (if ty1.1 = 0 then some ((-1), ty1.2.1, ty1.2.2) else f_S_longestAway_19 zFuel x1 0 0 0 ty1.2.1 ty1.2.2)
theorem z_S_longestAway_0 {l : Launch} {D : va_G} {dA : Nat → ClassId} {ad : Nat → Nat} {sh : List zSE}  (hr : zRo sh)  {x1 : Int32} {μ : zI} {ν : zJ} {out : (Int32 × zI × zJ)} (hF : e_S_longestAway_0   x1 μ ν = some out) : Z l D dA ad sh m_S_longestAway (zR 2 0 0) (zS ad) (zOi out) 0 0 0 0 [] 0 [(0, .ref (ad 0)), (1, .int x1)] [] μ ν := by
  unfold e_S_longestAway_0 at hF
  refine z_iload_n d_S_longestAway_0 1 rfl rfl ?_
  refine z_iconst d_S_longestAway_1 (v := 0) (by decide) ?_
  refine z_bipush d_S_longestAway_2 (v := 100) (by decide) ?_
  obtain ⟨ty1, hty1, hF⟩ := zh_bind hF
  refine z_callS d_S_longestAway_4 (c_S_isWithin  hty1) ms_S_isWithin l_S_54 (fun _ _ h => h) rfl ⟨Nat.le_of_ble_eq_true rfl, Nat.le_of_ble_eq_true rfl⟩ ⟨Nat.le_of_ble_eq_true rfl, Nat.le_of_ble_eq_true rfl⟩ rfl (Nat.le_of_ble_eq_true rfl) (fun r μ' ν' hq => ?_)
  obtain ⟨rfl, rfl, rfl⟩ := hq
  show Z _ _ _ _ _ _ _ _ _ _ _ 0 0 _ _ _ [.int ty1.1] _ _
  refine z_if_ne d_S_longestAway_7 (tgt := 12) (by decide) (fun cy2 => ?_) (fun cy2 => ?_)
  · replace hF := zh_f cy2 hF
    refine z_iconst d_S_longestAway_12 (v := 0) (by decide) ?_
    refine z_istore_n d_S_longestAway_13 rfl (by decide) (L2 := [(2, .int 0), (0, .ref (ad 0)), (1, .int x1)]) rfl ?_
    refine z_iconst d_S_longestAway_14 (v := 0) (by decide) ?_
    refine z_istore_n d_S_longestAway_15 rfl (by decide) (L2 := [(3, .int 0), (2, .int 0), (0, .ref (ad 0)), (1, .int x1)]) rfl ?_
    refine z_iconst d_S_longestAway_16 (v := 0) (by decide) ?_
    refine z_istore d_S_longestAway_17 (by decide) (L2 := [(4, .int 0), (3, .int 0), (2, .int 0), (0, .ref (ad 0)), (1, .int x1)]) rfl ?_
    refine z_sub [3, 4, 2, 1, 0] (L' := [(0, .ref (ad 0)), (1, .int x1), (2, .int 0), (3, .int 0), (4, .int 0)]) rfl ?_
    exact z_S_longestAway_19 hr  zFuel _ _ _ _ _ _ hF
  · replace hF := zh_t cy2 hF
    refine z_iconst d_S_longestAway_10 (v := (-1)) (by decide) ?_
    cases hF
    exact z_ireturn d_S_longestAway_11 rfl rfl ⟨rfl, rfl, rfl⟩
def E_S_longestAway  (x1 : Int32) (μ : zI) (ν : zJ) : Option (Int32 × zI × zJ) := e_S_longestAway_0 x1 μ ν
theorem c_S_longestAway {l : Launch} {D : va_G} {dA : Nat → ClassId} {ad : Nat → Nat} {sh : List zSE} {μ : zI} {ν : zJ} {x1 : Int32} (hr : zRo sh) {out : (Int32 × zI × zJ)} (hE : E_S_longestAway x1 μ ν = some out) : zC l D dA ad sh m_S_longestAway 2 0 0 [.ref (ad 0), .int x1] μ ν (zOi out) :=
  zC.of (by decide) (Nat.le_of_ble_eq_true rfl) (z_S_longestAway_0 hr hE)
def e_S_ripple_90   (x1 : Int32) (x2 : Int32) (x3 : Int32) (x4 : Int32) (μ : zI) (ν : zJ) : Option (Int32 × zI × zJ) := some ((x3 - x2), μ, ν)
theorem z_S_ripple_90 {l : Launch} {D : va_G} {dA : Nat → ClassId} {ad : Nat → Nat} {sh : List zSE}  (hr : zRo sh)  {x1 : Int32} {x2 : Int32} {x3 : Int32} {x4 : Int32} {μ : zI} {ν : zJ} {out : (Int32 × zI × zJ)} (hF : e_S_ripple_90   x1 x2 x3 x4 μ ν = some out) : Z l D dA ad sh m_S_ripple (zR 1 0 0) (zS ad) (zOi out) 0 0 0 0 [] 90 [(0, .ref (ad 0)), (1, .int x1), (2, .int x2), (3, .int x3), (4, .int x4)] [] μ ν := by
  unfold e_S_ripple_90 at hF
  refine z_iload_n d_S_ripple_90 3 rfl rfl ?_
  refine z_iload_n d_S_ripple_91 2 rfl rfl ?_
  refine z_isub d_S_ripple_92 ?_
  cases hF
  exact z_ireturn d_S_ripple_93 rfl rfl ⟨rfl, rfl, rfl⟩
def f_S_ripple_40   : Nat → Int32 → Int32 → Int32 → Int32 → zI → zJ → Option (Int32 × zI × zJ)
  | 0, _, _, _, _, _, _ => none
  | n + 1, x1, x2, x3, x4, μ, ν => (if x1 ≤ x4 then e_S_ripple_90 x1 x2 x3 x4 μ ν else (if (μ 34 0) ≤ x4 then e_S_ripple_90 x1 x2 x3 x4 μ ν else Option.bind (E_Log_get x4 0 μ ν) fun ty3 => zlet (α := Int32) ty3.1 fun y4 => zlet (α := Int32) (zMin x2 y4) fun y5 => zlet (α := Int32) (zMax x3 y4) fun y6 => (f_S_ripple_40  n) x1 y5 y6 (x4 + 1) ty3.2.1 ty3.2.2))
theorem z_S_ripple_40 {l : Launch} {D : va_G} {dA : Nat → ClassId} {ad : Nat → Nat} {sh : List zSE}  (hr : zRo sh)  {out : (Int32 × zI × zJ)} : ∀ (n : Nat) (x1 : Int32) (x2 : Int32) (x3 : Int32) (x4 : Int32) (μ : zI) (ν : zJ), f_S_ripple_40   n x1 x2 x3 x4 μ ν = some out → Z l D dA ad sh m_S_ripple (zR 1 0 0) (zS ad) (zOi out) 0 0 0 0 [] 40 [(0, .ref (ad 0)), (1, .int x1), (2, .int x2), (3, .int x3), (4, .int x4)] [] μ ν := by
  intro n
  induction n with
  | zero => intro x1 x2 x3 x4 μ ν hF; cases hF
  | succ n ih =>
    intro x1 x2 x3 x4 μ ν hF
    dsimp only [f_S_ripple_40] at hF
    refine z_iload d_S_ripple_40 4 rfl ?_
    refine z_iload_n d_S_ripple_42 1 rfl rfl ?_
    refine z_icmp_ge d_S_ripple_43 (tgt := 90) (by decide) (fun cy1 => ?_) (fun cy1 => ?_)
    · replace hF := zh_t cy1 hF
      exact z_S_ripple_90 hr  hF
    · replace hF := zh_f cy1 hF
      refine z_iload d_S_ripple_46 4 rfl ?_
      refine z_aload_n d_S_ripple_48 0 rfl rfl ?_
      refine z_getr d_S_ripple_49 (q := 34) f_S_38 (hr 0 _ rfl) rfl ?_
      refine z_get d_S_ripple_52 f_S_66 (hr 34 _ rfl) rfl ?_
      refine z_icmp_ge d_S_ripple_55 (tgt := 90) (by decide) (fun cy2 => ?_) (fun cy2 => ?_)
      · replace hF := zh_t cy2 hF
        exact z_S_ripple_90 hr  hF
      · replace hF := zh_f cy2 hF
        refine z_aload_n d_S_ripple_58 0 rfl rfl ?_
        refine z_getr d_S_ripple_59 (q := 34) f_S_38 (hr 0 _ rfl) rfl ?_
        refine z_iload d_S_ripple_62 4 rfl ?_
        refine z_iconst d_S_ripple_64 (v := 0) (by decide) ?_
        obtain ⟨ty3, hty3, hF⟩ := zh_bind hF
        refine z_callV d_S_ripple_65 (c_Log_get hr hty3) mv_Log_get l_S_223 (fun _ _ h => h) (hr 34 _ rfl) rfl rfl ⟨Nat.le_of_ble_eq_true rfl, Nat.le_of_ble_eq_true rfl⟩ ⟨Nat.le_of_ble_eq_true rfl, Nat.le_of_ble_eq_true rfl⟩ rfl (Nat.le_of_ble_eq_true rfl) (fun r μ' ν' hq => ?_)
        obtain ⟨rfl, rfl, rfl⟩ := hq
        show Z _ _ _ _ _ _ _ _ _ _ _ 0 0 _ _ _ [.int ty3.1] _ _
        obtain ⟨y4, hy4, hF⟩ := zh_let hF
        refine z_eqi hy4 ?_
        refine z_istore d_S_ripple_68 (by decide) (L2 := [(5, .int y4), (0, .ref (ad 0)), (1, .int x1), (2, .int x2), (3, .int x3), (4, .int x4)]) rfl ?_
        refine z_iload_n d_S_ripple_70 3 rfl rfl ?_
        refine z_iload d_S_ripple_71 0 rfl ?_
        refine z_min d_S_ripple_73 l_S_233 ma_min_s ma_i ma_min_c ⟨Nat.le_of_ble_eq_true rfl, Nat.le_of_ble_eq_true rfl, Nat.zero_le _, Nat.zero_le _⟩ ?_
        obtain ⟨y5, hy5, hF⟩ := zh_let hF
        refine z_eqi hy5 ?_
        refine z_istore_n d_S_ripple_76 rfl (by decide) (L2 := [(2, .int y5), (5, .int y4), (0, .ref (ad 0)), (1, .int x1), (3, .int x3), (4, .int x4)]) rfl ?_
        refine z_iload_n d_S_ripple_77 4 rfl rfl ?_
        refine z_iload d_S_ripple_78 1 rfl ?_
        refine z_max d_S_ripple_80 l_S_228 ma_max_s ma_i ma_max_c ⟨Nat.le_of_ble_eq_true rfl, Nat.le_of_ble_eq_true rfl, Nat.zero_le _, Nat.zero_le _⟩ ?_
        obtain ⟨y6, hy6, hF⟩ := zh_let hF
        refine z_eqi hy6 ?_
        refine z_istore_n d_S_ripple_83 rfl (by decide) (L2 := [(3, .int y6), (2, .int y5), (5, .int y4), (0, .ref (ad 0)), (1, .int x1), (4, .int x4)]) rfl ?_
        refine z_iinc d_S_ripple_84 (k := 5) (v := (x4 + 1)) rfl rfl (by decide) (L2 := [(4, .int (x4 + 1)), (3, .int y6), (2, .int y5), (5, .int y4), (0, .ref (ad 0)), (1, .int x1)]) rfl ?_
        refine z_goto d_S_ripple_87 (tgt := 40) (by decide) ?_
        refine z_sub [4, 5, 2, 1, 0] (L' := [(0, .ref (ad 0)), (1, .int x1), (2, .int y5), (3, .int y6), (4, .int (x4 + 1))]) rfl ?_
        exact ih _ _ _ _ _ _ hF
def e_S_ripple_0   (x1 : Int32) (μ : zI) (ν : zJ) : Option (Int32 × zI × zJ) := Option.bind (E_S_isWithin x1 1 100 μ ν) fun ty1 => (if ty1.1 = 0 then some ((-1), ty1.2.1, ty1.2.2) else (if (ty1.2.1 34 0) = 0 then some ((-2), ty1.2.1, ty1.2.2) else Option.bind (E_Log_get 0 0 ty1.2.1 ty1.2.2) fun ty4 => zlet (α := Int32) ty4.1 fun y5 => f_S_ripple_40 zFuel x1 y5 y5 1 ty4.2.1 ty4.2.2))
theorem z_S_ripple_0 {l : Launch} {D : va_G} {dA : Nat → ClassId} {ad : Nat → Nat} {sh : List zSE}  (hr : zRo sh)  {x1 : Int32} {μ : zI} {ν : zJ} {out : (Int32 × zI × zJ)} (hF : e_S_ripple_0   x1 μ ν = some out) : Z l D dA ad sh m_S_ripple (zR 1 0 0) (zS ad) (zOi out) 0 0 0 0 [] 0 [(0, .ref (ad 0)), (1, .int x1)] [] μ ν := by
  unfold e_S_ripple_0 at hF
  refine z_iload_n d_S_ripple_0 1 rfl rfl ?_
  refine z_iconst d_S_ripple_1 (v := 1) (by decide) ?_
  refine z_bipush d_S_ripple_2 (v := 100) (by decide) ?_
  obtain ⟨ty1, hty1, hF⟩ := zh_bind hF
  refine z_callS d_S_ripple_4 (c_S_isWithin  hty1) ms_S_isWithin l_S_54 (fun _ _ h => h) rfl ⟨Nat.le_of_ble_eq_true rfl, Nat.le_of_ble_eq_true rfl⟩ ⟨Nat.le_of_ble_eq_true rfl, Nat.le_of_ble_eq_true rfl⟩ rfl (Nat.le_of_ble_eq_true rfl) (fun r μ' ν' hq => ?_)
  obtain ⟨rfl, rfl, rfl⟩ := hq
  show Z _ _ _ _ _ _ _ _ _ _ _ 0 0 _ _ _ [.int ty1.1] _ _
  refine z_if_ne d_S_ripple_7 (tgt := 12) (by decide) (fun cy2 => ?_) (fun cy2 => ?_)
  · replace hF := zh_f cy2 hF
    refine z_aload_n d_S_ripple_12 0 rfl rfl ?_
    refine z_getr d_S_ripple_13 (q := 34) f_S_38 (hr 0 _ rfl) rfl ?_
    refine z_get d_S_ripple_16 f_S_66 (hr 34 _ rfl) rfl ?_
    refine z_if_ne d_S_ripple_19 (tgt := 25) (by decide) (fun cy3 => ?_) (fun cy3 => ?_)
    · replace hF := zh_f cy3 hF
      refine z_aload_n d_S_ripple_25 0 rfl rfl ?_
      refine z_getr d_S_ripple_26 (q := 34) f_S_38 (hr 0 _ rfl) rfl ?_
      refine z_iconst d_S_ripple_29 (v := 0) (by decide) ?_
      refine z_iconst d_S_ripple_30 (v := 0) (by decide) ?_
      obtain ⟨ty4, hty4, hF⟩ := zh_bind hF
      refine z_callV d_S_ripple_31 (c_Log_get hr hty4) mv_Log_get l_S_223 (fun _ _ h => h) (hr 34 _ rfl) rfl rfl ⟨Nat.le_of_ble_eq_true rfl, Nat.le_of_ble_eq_true rfl⟩ ⟨Nat.le_of_ble_eq_true rfl, Nat.le_of_ble_eq_true rfl⟩ rfl (Nat.le_of_ble_eq_true rfl) (fun r μ' ν' hq => ?_)
      obtain ⟨rfl, rfl, rfl⟩ := hq
      show Z _ _ _ _ _ _ _ _ _ _ _ 0 0 _ _ _ [.int ty4.1] _ _
      obtain ⟨y5, hy5, hF⟩ := zh_let hF
      refine z_eqi hy5 ?_
      refine z_istore_n d_S_ripple_34 rfl (by decide) (L2 := [(2, .int y5), (0, .ref (ad 0)), (1, .int x1)]) rfl ?_
      refine z_iload_n d_S_ripple_35 0 rfl rfl ?_
      refine z_istore_n d_S_ripple_36 rfl (by decide) (L2 := [(3, .int y5), (2, .int y5), (0, .ref (ad 0)), (1, .int x1)]) rfl ?_
      refine z_iconst d_S_ripple_37 (v := 1) (by decide) ?_
      refine z_istore d_S_ripple_38 (by decide) (L2 := [(4, .int 1), (3, .int y5), (2, .int y5), (0, .ref (ad 0)), (1, .int x1)]) rfl ?_
      refine z_sub [3, 4, 2, 1, 0] (L' := [(0, .ref (ad 0)), (1, .int x1), (2, .int y5), (3, .int y5), (4, .int 1)]) rfl ?_
      exact z_S_ripple_40 hr  zFuel _ _ _ _ _ _ hF
    · replace hF := zh_t cy3 hF
      refine z_bipush d_S_ripple_22 (v := (-2)) (by decide) ?_
      cases hF
      exact z_ireturn d_S_ripple_24 rfl rfl ⟨rfl, rfl, rfl⟩
  · replace hF := zh_t cy2 hF
    refine z_iconst d_S_ripple_10 (v := (-1)) (by decide) ?_
    cases hF
    exact z_ireturn d_S_ripple_11 rfl rfl ⟨rfl, rfl, rfl⟩
def E_S_ripple  (x1 : Int32) (μ : zI) (ν : zJ) : Option (Int32 × zI × zJ) := e_S_ripple_0 x1 μ ν
theorem c_S_ripple {l : Launch} {D : va_G} {dA : Nat → ClassId} {ad : Nat → Nat} {sh : List zSE} {μ : zI} {ν : zJ} {x1 : Int32} (hr : zRo sh) {out : (Int32 × zI × zJ)} (hE : E_S_ripple x1 μ ν = some out) : zC l D dA ad sh m_S_ripple 1 0 0 [.ref (ad 0), .int x1] μ ν (zOi out) :=
  zC.of (by decide) (Nat.le_of_ble_eq_true rfl) (z_S_ripple_0 hr hE)
def f_S_average_36   : Nat → Int32 → Int32 → Int32 → Int32 → zI → zJ → Option (Int32 × zI × zJ)
  | 0, _, _, _, _, _, _ => none
  | n + 1, x1, x2, x3, x4, μ, ν => (if x2 ≤ x4 then (if x2 = 0 then none else some ((x3 / x2), μ, ν)) else Option.bind (E_Log_get x4 1 μ ν) fun ty3 => zlet (α := Int32) (x3 + ty3.1) fun y4 => (f_S_average_36  n) x1 x2 y4 (x4 + 1) ty3.2.1 ty3.2.2)
theorem z_S_average_36 {l : Launch} {D : va_G} {dA : Nat → ClassId} {ad : Nat → Nat} {sh : List zSE}  (hr : zRo sh)  {out : (Int32 × zI × zJ)} : ∀ (n : Nat) (x1 : Int32) (x2 : Int32) (x3 : Int32) (x4 : Int32) (μ : zI) (ν : zJ), f_S_average_36   n x1 x2 x3 x4 μ ν = some out → Z l D dA ad sh m_S_average (zR 1 0 0) (zS ad) (zOi out) 0 0 0 0 [] 36 [(0, .ref (ad 0)), (1, .int x1), (2, .int x2), (3, .int x3), (4, .int x4)] [] μ ν := by
  intro n
  induction n with
  | zero => intro x1 x2 x3 x4 μ ν hF; cases hF
  | succ n ih =>
    intro x1 x2 x3 x4 μ ν hF
    dsimp only [f_S_average_36] at hF
    refine z_iload d_S_average_36 4 rfl ?_
    refine z_iload_n d_S_average_38 2 rfl rfl ?_
    refine z_icmp_ge d_S_average_39 (tgt := 61) (by decide) (fun cy1 => ?_) (fun cy1 => ?_)
    · replace hF := zh_t cy1 hF
      refine z_iload_n d_S_average_61 3 rfl rfl ?_
      refine z_iload_n d_S_average_62 2 rfl rfl ?_
      obtain ⟨hy2, hF⟩ := zh_ne hF
      refine z_idiv d_S_average_63 hy2 ?_
      cases hF
      exact z_ireturn d_S_average_64 rfl rfl ⟨rfl, rfl, rfl⟩
    · replace hF := zh_f cy1 hF
      refine z_iload_n d_S_average_42 3 rfl rfl ?_
      refine z_aload_n d_S_average_43 0 rfl rfl ?_
      refine z_getr d_S_average_44 (q := 34) f_S_38 (hr 0 _ rfl) rfl ?_
      refine z_iload d_S_average_47 4 rfl ?_
      refine z_iconst d_S_average_49 (v := 1) (by decide) ?_
      obtain ⟨ty3, hty3, hF⟩ := zh_bind hF
      refine z_callV d_S_average_50 (c_Log_get hr hty3) mv_Log_get l_S_223 (fun _ _ h => h) (hr 34 _ rfl) rfl rfl ⟨Nat.le_of_ble_eq_true rfl, Nat.le_of_ble_eq_true rfl⟩ ⟨Nat.le_of_ble_eq_true rfl, Nat.le_of_ble_eq_true rfl⟩ rfl (Nat.le_of_ble_eq_true rfl) (fun r μ' ν' hq => ?_)
      obtain ⟨rfl, rfl, rfl⟩ := hq
      show Z _ _ _ _ _ _ _ _ _ _ _ 0 0 _ _ _ [.int ty3.1, .int x3] _ _
      refine z_iadd d_S_average_53 ?_
      obtain ⟨y4, hy4, hF⟩ := zh_let hF
      refine z_eqi hy4 ?_
      refine z_istore_n d_S_average_54 rfl (by decide) (L2 := [(3, .int y4), (0, .ref (ad 0)), (1, .int x1), (2, .int x2), (4, .int x4)]) rfl ?_
      refine z_iinc d_S_average_55 (k := 4) (v := (x4 + 1)) rfl rfl (by decide) (L2 := [(4, .int (x4 + 1)), (3, .int y4), (0, .ref (ad 0)), (1, .int x1), (2, .int x2)]) rfl ?_
      refine z_goto d_S_average_58 (tgt := 36) (by decide) ?_
      refine z_sub [2, 3, 4, 1, 0] (L' := [(0, .ref (ad 0)), (1, .int x1), (2, .int x2), (3, .int y4), (4, .int (x4 + 1))]) rfl ?_
      exact ih _ _ _ _ _ _ hF
def e_S_average_0   (x1 : Int32) (μ : zI) (ν : zJ) : Option (Int32 × zI × zJ) := Option.bind (E_S_isWithin x1 1 100 μ ν) fun ty1 => (if ty1.1 = 0 then some ((-1), ty1.2.1, ty1.2.2) else zlet (α := Int32) (zMin x1 (ty1.2.1 34 0)) fun y3 => (if y3 = 0 then some ((-2), ty1.2.1, ty1.2.2) else f_S_average_36 zFuel x1 y3 0 0 ty1.2.1 ty1.2.2))
theorem z_S_average_0 {l : Launch} {D : va_G} {dA : Nat → ClassId} {ad : Nat → Nat} {sh : List zSE}  (hr : zRo sh)  {x1 : Int32} {μ : zI} {ν : zJ} {out : (Int32 × zI × zJ)} (hF : e_S_average_0   x1 μ ν = some out) : Z l D dA ad sh m_S_average (zR 1 0 0) (zS ad) (zOi out) 0 0 0 0 [] 0 [(0, .ref (ad 0)), (1, .int x1)] [] μ ν := by
  unfold e_S_average_0 at hF
  refine z_iload_n d_S_average_0 1 rfl rfl ?_
  refine z_iconst d_S_average_1 (v := 1) (by decide) ?_
  refine z_bipush d_S_average_2 (v := 100) (by decide) ?_
  obtain ⟨ty1, hty1, hF⟩ := zh_bind hF
  refine z_callS d_S_average_4 (c_S_isWithin  hty1) ms_S_isWithin l_S_54 (fun _ _ h => h) rfl ⟨Nat.le_of_ble_eq_true rfl, Nat.le_of_ble_eq_true rfl⟩ ⟨Nat.le_of_ble_eq_true rfl, Nat.le_of_ble_eq_true rfl⟩ rfl (Nat.le_of_ble_eq_true rfl) (fun r μ' ν' hq => ?_)
  obtain ⟨rfl, rfl, rfl⟩ := hq
  show Z _ _ _ _ _ _ _ _ _ _ _ 0 0 _ _ _ [.int ty1.1] _ _
  refine z_if_ne d_S_average_7 (tgt := 12) (by decide) (fun cy2 => ?_) (fun cy2 => ?_)
  · replace hF := zh_f cy2 hF
    refine z_iload_n d_S_average_12 1 rfl rfl ?_
    refine z_aload_n d_S_average_13 0 rfl rfl ?_
    refine z_getr d_S_average_14 (q := 34) f_S_38 (hr 0 _ rfl) rfl ?_
    refine z_get d_S_average_17 f_S_66 (hr 34 _ rfl) rfl ?_
    refine z_min d_S_average_20 l_S_233 ma_min_s ma_i ma_min_c ⟨Nat.le_of_ble_eq_true rfl, Nat.le_of_ble_eq_true rfl, Nat.zero_le _, Nat.zero_le _⟩ ?_
    obtain ⟨y3, hy3, hF⟩ := zh_let hF
    refine z_eqi hy3 ?_
    refine z_istore_n d_S_average_23 rfl (by decide) (L2 := [(2, .int y3), (0, .ref (ad 0)), (1, .int x1)]) rfl ?_
    refine z_iload_n d_S_average_24 0 rfl rfl ?_
    refine z_if_ne d_S_average_25 (tgt := 31) (by decide) (fun cy4 => ?_) (fun cy4 => ?_)
    · replace hF := zh_f cy4 hF
      refine z_iconst d_S_average_31 (v := 0) (by decide) ?_
      refine z_istore_n d_S_average_32 rfl (by decide) (L2 := [(3, .int 0), (2, .int y3), (0, .ref (ad 0)), (1, .int x1)]) rfl ?_
      refine z_iconst d_S_average_33 (v := 0) (by decide) ?_
      refine z_istore d_S_average_34 (by decide) (L2 := [(4, .int 0), (3, .int 0), (2, .int y3), (0, .ref (ad 0)), (1, .int x1)]) rfl ?_
      refine z_sub [3, 4, 2, 1, 0] (L' := [(0, .ref (ad 0)), (1, .int x1), (2, .int y3), (3, .int 0), (4, .int 0)]) rfl ?_
      exact z_S_average_36 hr  zFuel _ _ _ _ _ _ hF
    · replace hF := zh_t cy4 hF
      refine z_bipush d_S_average_28 (v := (-2)) (by decide) ?_
      cases hF
      exact z_ireturn d_S_average_30 rfl rfl ⟨rfl, rfl, rfl⟩
  · replace hF := zh_t cy2 hF
    refine z_iconst d_S_average_10 (v := (-1)) (by decide) ?_
    cases hF
    exact z_ireturn d_S_average_11 rfl rfl ⟨rfl, rfl, rfl⟩
def E_S_average  (x1 : Int32) (μ : zI) (ν : zJ) : Option (Int32 × zI × zJ) := e_S_average_0 x1 μ ν
theorem c_S_average {l : Launch} {D : va_G} {dA : Nat → ClassId} {ad : Nat → Nat} {sh : List zSE} {μ : zI} {ν : zJ} {x1 : Int32} (hr : zRo sh) {out : (Int32 × zI × zJ)} (hE : E_S_average x1 μ ν = some out) : zC l D dA ad sh m_S_average 1 0 0 [.ref (ad 0), .int x1] μ ν (zOi out) :=
  zC.of (by decide) (Nat.le_of_ble_eq_true rfl) (z_S_average_0 hr hE)
def e_S_worst_78  (r31 : Int32 → Int32 → Int32 → Int32 → zI → zJ → Option (Int32 × zI × zJ)) (x1 : Int32) (x2 : Int32) (x3 : Int32) (x4 : Int32) (x5 : Int32) (μ : zI) (ν : zJ) : Option (Int32 × zI × zJ) := r31 x1 x2 x3 (x4 + 1) μ ν
theorem z_S_worst_78 {l : Launch} {D : va_G} {dA : Nat → ClassId} {ad : Nat → Nat} {sh : List zSE}  (hr : zRo sh) {r31 : Int32 → Int32 → Int32 → Int32 → zI → zJ → Option (Int32 × zI × zJ)} {x1 : Int32} {x2 : Int32} {x3 : Int32} {x4 : Int32} {x5 : Int32} {μ : zI} {ν : zJ} {out : (Int32 × zI × zJ)} (hr31 : ∀ (x1 : Int32) (x2 : Int32) (x3 : Int32) (x4 : Int32) (μ : zI) (ν : zJ), r31 x1 x2 x3 x4 μ ν = some out → Z l D dA ad sh m_S_worst (zR 1 0 0) (zS ad) (zOi out) 0 0 0 0 [] 31 [(0, .ref (ad 0)), (1, .int x1), (2, .int x2), (3, .int x3), (4, .int x4)] [] μ ν) (hF : e_S_worst_78  r31 x1 x2 x3 x4 x5 μ ν = some out) : Z l D dA ad sh m_S_worst (zR 1 0 0) (zS ad) (zOi out) 0 0 0 0 [] 78 [(0, .ref (ad 0)), (1, .int x1), (2, .int x2), (3, .int x3), (4, .int x4), (5, .int x5)] [] μ ν := by
  unfold e_S_worst_78 at hF
  refine z_iinc d_S_worst_78 (k := 4) (v := (x4 + 1)) rfl rfl (by decide) (L2 := [(4, .int (x4 + 1)), (0, .ref (ad 0)), (1, .int x1), (2, .int x2), (3, .int x3), (5, .int x5)]) rfl ?_
  refine z_goto d_S_worst_81 (tgt := 31) (by decide) ?_
  refine z_sub [1, 2, 3, 4, 0] (L' := [(0, .ref (ad 0)), (1, .int x1), (2, .int x2), (3, .int x3), (4, .int (x4 + 1))]) rfl ?_
  exact hr31 _ _ _ _ _ _ hF
def e_S_worst_93   (x1 : Int32) (x2 : Int32) (x3 : Int32) (x4 : Int32) (s0 : Int32) (μ : zI) (ν : zJ) : Option (Int32 × zI × zJ) := some (s0, μ, ν)
theorem z_S_worst_93 {l : Launch} {D : va_G} {dA : Nat → ClassId} {ad : Nat → Nat} {sh : List zSE}  (hr : zRo sh)  {x1 : Int32} {x2 : Int32} {x3 : Int32} {x4 : Int32} {s0 : Int32} {μ : zI} {ν : zJ} {out : (Int32 × zI × zJ)} (hF : e_S_worst_93   x1 x2 x3 x4 s0 μ ν = some out) : Z l D dA ad sh m_S_worst (zR 1 0 0) (zS ad) (zOi out) 0 0 0 0 [] 93 [(0, .ref (ad 0)), (1, .int x1), (2, .int x2), (3, .int x3), (4, .int x4)] [.int s0] μ ν := by
  unfold e_S_worst_93 at hF
  cases hF
  exact z_ireturn d_S_worst_93 rfl rfl ⟨rfl, rfl, rfl⟩
def f_S_worst_31   : Nat → Int32 → Int32 → Int32 → Int32 → zI → zJ → Option (Int32 × zI × zJ)
  | 0, _, _, _, _, _, _ => none
  | n + 1, x1, x2, x3, x4, μ, ν => (if (μ 34 0) ≤ x4 then (if x1 = 0 then e_S_worst_93 x1 x2 x3 x4 x2 μ ν else e_S_worst_93 x1 x2 x3 x4 x3 μ ν) else Option.bind (E_Log_get x4 2 μ ν) fun ty3 => Option.bind (E_Log_get x4 1 ty3.2.1 ty3.2.2) fun ty4 => zlet (α := Int32) (ty3.1 - ty4.1) fun y5 => (if y5 ≤ x3 then e_S_worst_78 (f_S_worst_31  n) x1 x2 x3 x4 y5 ty4.2.1 ty4.2.2 else e_S_worst_78 (f_S_worst_31  n) x1 x4 y5 x4 y5 ty4.2.1 ty4.2.2))
theorem z_S_worst_31 {l : Launch} {D : va_G} {dA : Nat → ClassId} {ad : Nat → Nat} {sh : List zSE}  (hr : zRo sh)  {out : (Int32 × zI × zJ)} : ∀ (n : Nat) (x1 : Int32) (x2 : Int32) (x3 : Int32) (x4 : Int32) (μ : zI) (ν : zJ), f_S_worst_31   n x1 x2 x3 x4 μ ν = some out → Z l D dA ad sh m_S_worst (zR 1 0 0) (zS ad) (zOi out) 0 0 0 0 [] 31 [(0, .ref (ad 0)), (1, .int x1), (2, .int x2), (3, .int x3), (4, .int x4)] [] μ ν := by
  intro n
  induction n with
  | zero => intro x1 x2 x3 x4 μ ν hF; cases hF
  | succ n ih =>
    intro x1 x2 x3 x4 μ ν hF
    dsimp only [f_S_worst_31] at hF
    refine z_iload d_S_worst_31 4 rfl ?_
    refine z_aload_n d_S_worst_33 0 rfl rfl ?_
    refine z_getr d_S_worst_34 (q := 34) f_S_38 (hr 0 _ rfl) rfl ?_
    refine z_get d_S_worst_37 f_S_66 (hr 34 _ rfl) rfl ?_
    refine z_icmp_ge d_S_worst_40 (tgt := 84) (by decide) (fun cy1 => ?_) (fun cy1 => ?_)
    · replace hF := zh_t cy1 hF
      refine z_iload_n d_S_worst_84 1 rfl rfl ?_
      refine z_if_ne d_S_worst_85 (tgt := 92) (by decide) (fun cy2 => ?_) (fun cy2 => ?_)
      · replace hF := zh_f cy2 hF
        refine z_iload_n d_S_worst_92 3 rfl rfl ?_
        exact z_S_worst_93 hr  hF
      · replace hF := zh_t cy2 hF
        refine z_iload_n d_S_worst_88 2 rfl rfl ?_
        refine z_goto d_S_worst_89 (tgt := 93) (by decide) ?_
        exact z_S_worst_93 hr  hF
    · replace hF := zh_f cy1 hF
      refine z_aload_n d_S_worst_43 0 rfl rfl ?_
      refine z_getr d_S_worst_44 (q := 34) f_S_38 (hr 0 _ rfl) rfl ?_
      refine z_iload d_S_worst_47 4 rfl ?_
      refine z_iconst d_S_worst_49 (v := 2) (by decide) ?_
      obtain ⟨ty3, hty3, hF⟩ := zh_bind hF
      refine z_callV d_S_worst_50 (c_Log_get hr hty3) mv_Log_get l_S_223 (fun _ _ h => h) (hr 34 _ rfl) rfl rfl ⟨Nat.le_of_ble_eq_true rfl, Nat.le_of_ble_eq_true rfl⟩ ⟨Nat.le_of_ble_eq_true rfl, Nat.le_of_ble_eq_true rfl⟩ rfl (Nat.le_of_ble_eq_true rfl) (fun r μ' ν' hq => ?_)
      obtain ⟨rfl, rfl, rfl⟩ := hq
      show Z _ _ _ _ _ _ _ _ _ _ _ 0 0 _ _ _ [.int ty3.1] _ _
      refine z_aload_n d_S_worst_53 0 rfl rfl ?_
      refine z_getr d_S_worst_54 (q := 34) f_S_38 (hr 0 _ rfl) rfl ?_
      refine z_iload d_S_worst_57 4 rfl ?_
      refine z_iconst d_S_worst_59 (v := 1) (by decide) ?_
      obtain ⟨ty4, hty4, hF⟩ := zh_bind hF
      refine z_callV d_S_worst_60 (c_Log_get hr hty4) mv_Log_get l_S_223 (fun _ _ h => h) (hr 34 _ rfl) rfl rfl ⟨Nat.le_of_ble_eq_true rfl, Nat.le_of_ble_eq_true rfl⟩ ⟨Nat.le_of_ble_eq_true rfl, Nat.le_of_ble_eq_true rfl⟩ rfl (Nat.le_of_ble_eq_true rfl) (fun r μ' ν' hq => ?_)
      obtain ⟨rfl, rfl, rfl⟩ := hq
      show Z _ _ _ _ _ _ _ _ _ _ _ 0 0 _ _ _ [.int ty4.1, .int ty3.1] _ _
      refine z_isub d_S_worst_63 ?_
      obtain ⟨y5, hy5, hF⟩ := zh_let hF
      refine z_eqi hy5 ?_
      refine z_istore d_S_worst_64 (by decide) (L2 := [(5, .int y5), (0, .ref (ad 0)), (1, .int x1), (2, .int x2), (3, .int x3), (4, .int x4)]) rfl ?_
      refine z_iload d_S_worst_66 0 rfl ?_
      refine z_iload_n d_S_worst_68 4 rfl rfl ?_
      refine z_icmp_le d_S_worst_69 (tgt := 78) (by decide) (fun cy6 => ?_) (fun cy6 => ?_)
      · replace hF := zh_t cy6 hF
        refine z_sub [1, 2, 3, 4, 5, 0] (L' := [(0, .ref (ad 0)), (1, .int x1), (2, .int x2), (3, .int x3), (4, .int x4), (5, .int y5)]) rfl ?_
        exact z_S_worst_78 hr (fun a0 a1 a2 a3 a4 a5 => ih a0 a1 a2 a3 a4 a5) hF
      · replace hF := zh_f cy6 hF
        refine z_iload d_S_worst_72 0 rfl ?_
        refine z_istore_n d_S_worst_74 rfl (by decide) (L2 := [(3, .int y5), (5, .int y5), (0, .ref (ad 0)), (1, .int x1), (2, .int x2), (4, .int x4)]) rfl ?_
        refine z_iload d_S_worst_75 5 rfl ?_
        refine z_istore_n d_S_worst_77 rfl (by decide) (L2 := [(2, .int x4), (3, .int y5), (5, .int y5), (0, .ref (ad 0)), (1, .int x1), (4, .int x4)]) rfl ?_
        refine z_sub [3, 4, 0, 1, 5, 2] (L' := [(0, .ref (ad 0)), (1, .int x1), (2, .int x4), (3, .int y5), (4, .int x4), (5, .int y5)]) rfl ?_
        exact z_S_worst_78 hr (fun a0 a1 a2 a3 a4 a5 => ih a0 a1 a2 a3 a4 a5) hF
def e_S_worst_0   (x1 : Int32) (μ : zI) (ν : zJ) : Option (Int32 × zI × zJ) := Option.bind (E_S_isWithin x1 0 1 μ ν) fun ty1 => (if ty1.1 = 0 then some ((-1), ty1.2.1, ty1.2.2) else (if (ty1.2.1 34 0) = 0 then some ((-2), ty1.2.1, ty1.2.2) else f_S_worst_31 zFuel x1 0 (-1) 0 ty1.2.1 ty1.2.2))
theorem z_S_worst_0 {l : Launch} {D : va_G} {dA : Nat → ClassId} {ad : Nat → Nat} {sh : List zSE}  (hr : zRo sh)  {x1 : Int32} {μ : zI} {ν : zJ} {out : (Int32 × zI × zJ)} (hF : e_S_worst_0   x1 μ ν = some out) : Z l D dA ad sh m_S_worst (zR 1 0 0) (zS ad) (zOi out) 0 0 0 0 [] 0 [(0, .ref (ad 0)), (1, .int x1)] [] μ ν := by
  unfold e_S_worst_0 at hF
  refine z_iload_n d_S_worst_0 1 rfl rfl ?_
  refine z_iconst d_S_worst_1 (v := 0) (by decide) ?_
  refine z_iconst d_S_worst_2 (v := 1) (by decide) ?_
  obtain ⟨ty1, hty1, hF⟩ := zh_bind hF
  refine z_callS d_S_worst_3 (c_S_isWithin  hty1) ms_S_isWithin l_S_54 (fun _ _ h => h) rfl ⟨Nat.le_of_ble_eq_true rfl, Nat.le_of_ble_eq_true rfl⟩ ⟨Nat.le_of_ble_eq_true rfl, Nat.le_of_ble_eq_true rfl⟩ rfl (Nat.le_of_ble_eq_true rfl) (fun r μ' ν' hq => ?_)
  obtain ⟨rfl, rfl, rfl⟩ := hq
  show Z _ _ _ _ _ _ _ _ _ _ _ 0 0 _ _ _ [.int ty1.1] _ _
  refine z_if_ne d_S_worst_6 (tgt := 11) (by decide) (fun cy2 => ?_) (fun cy2 => ?_)
  · replace hF := zh_f cy2 hF
    refine z_aload_n d_S_worst_11 0 rfl rfl ?_
    refine z_getr d_S_worst_12 (q := 34) f_S_38 (hr 0 _ rfl) rfl ?_
    refine z_get d_S_worst_15 f_S_66 (hr 34 _ rfl) rfl ?_
    refine z_if_ne d_S_worst_18 (tgt := 24) (by decide) (fun cy3 => ?_) (fun cy3 => ?_)
    · replace hF := zh_f cy3 hF
      refine z_iconst d_S_worst_24 (v := 0) (by decide) ?_
      refine z_istore_n d_S_worst_25 rfl (by decide) (L2 := [(2, .int 0), (0, .ref (ad 0)), (1, .int x1)]) rfl ?_
      refine z_iconst d_S_worst_26 (v := (-1)) (by decide) ?_
      refine z_istore_n d_S_worst_27 rfl (by decide) (L2 := [(3, .int (-1)), (2, .int 0), (0, .ref (ad 0)), (1, .int x1)]) rfl ?_
      refine z_iconst d_S_worst_28 (v := 0) (by decide) ?_
      refine z_istore d_S_worst_29 (by decide) (L2 := [(4, .int 0), (3, .int (-1)), (2, .int 0), (0, .ref (ad 0)), (1, .int x1)]) rfl ?_
      refine z_sub [3, 4, 2, 1, 0] (L' := [(0, .ref (ad 0)), (1, .int x1), (2, .int 0), (3, .int (-1)), (4, .int 0)]) rfl ?_
      exact z_S_worst_31 hr  zFuel _ _ _ _ _ _ hF
    · replace hF := zh_t cy3 hF
      refine z_bipush d_S_worst_21 (v := (-2)) (by decide) ?_
      cases hF
      exact z_ireturn d_S_worst_23 rfl rfl ⟨rfl, rfl, rfl⟩
  · replace hF := zh_t cy2 hF
    refine z_iconst d_S_worst_9 (v := (-1)) (by decide) ?_
    cases hF
    exact z_ireturn d_S_worst_10 rfl rfl ⟨rfl, rfl, rfl⟩
def E_S_worst  (x1 : Int32) (μ : zI) (ν : zJ) : Option (Int32 × zI × zJ) := e_S_worst_0 x1 μ ν
theorem c_S_worst {l : Launch} {D : va_G} {dA : Nat → ClassId} {ad : Nat → Nat} {sh : List zSE} {μ : zI} {ν : zJ} {x1 : Int32} (hr : zRo sh) {out : (Int32 × zI × zJ)} (hE : E_S_worst x1 μ ν = some out) : zC l D dA ad sh m_S_worst 1 0 0 [.ref (ad 0), .int x1] μ ν (zOi out) :=
  zC.of (by decide) (Nat.le_of_ble_eq_true rfl) (z_S_worst_0 hr hE)
def e_S_comes_13   (x1 : Int32) (x2 : Int32) (μ : zI) (ν : zJ) : Option (Int32 × zI × zJ) := some ((-1), μ, ν)
theorem z_S_comes_13 {l : Launch} {D : va_G} {dA : Nat → ClassId} {ad : Nat → Nat} {sh : List zSE}  (hr : zRo sh)  {x1 : Int32} {x2 : Int32} {μ : zI} {ν : zJ} {out : (Int32 × zI × zJ)} (hF : e_S_comes_13   x1 x2 μ ν = some out) : Z l D dA ad sh m_S_comes (zR 2 0 0) (zS ad) (zOi out) 0 0 0 0 [] 13 [(0, .ref (ad 0)), (1, .int x1), (2, .int x2)] [] μ ν := by
  unfold e_S_comes_13 at hF
  refine z_iconst d_S_comes_13 (v := (-1)) (by decide) ?_
  cases hF
  exact z_ireturn d_S_comes_14 rfl rfl ⟨rfl, rfl, rfl⟩
def e_S_comes_46   (x1 : Int32) (x2 : Int32) (s0 : Int32) (μ : zI) (ν : zJ) : Option (Int32 × zI × zJ) := some (s0, μ, ν)
theorem z_S_comes_46 {l : Launch} {D : va_G} {dA : Nat → ClassId} {ad : Nat → Nat} {sh : List zSE}  (hr : zRo sh)  {x1 : Int32} {x2 : Int32} {s0 : Int32} {μ : zI} {ν : zJ} {out : (Int32 × zI × zJ)} (hF : e_S_comes_46   x1 x2 s0 μ ν = some out) : Z l D dA ad sh m_S_comes (zR 2 0 0) (zS ad) (zOi out) 0 0 0 0 [] 46 [(0, .ref (ad 0)), (1, .int x1), (2, .int x2)] [.int s0] μ ν := by
  unfold e_S_comes_46 at hF
  cases hF
  exact z_ireturn d_S_comes_46 rfl rfl ⟨rfl, rfl, rfl⟩
def e_S_comes_0   (x1 : Int32) (x2 : Int32) (μ : zI) (ν : zJ) : Option (Int32 × zI × zJ) := (if x1 < 0 then e_S_comes_13 x1 x2 μ ν else Option.bind (E_S_isWithin x2 0 3 μ ν) fun ty2 => (if ty2.1 = 0 then e_S_comes_13 x1 x2 ty2.2.1 ty2.2.2 else Option.bind (E_Schedule_left 4 ty2.2.1 ty2.2.2) fun ty4 => (if ty4.1 ≤ x1 then e_S_comes_46 x1 x2 (-2) ty4.2.1 ty4.2.2 else Option.bind (E_Schedule_get 4 x1 x2 ty4.2.1 ty4.2.2) fun ty6 => e_S_comes_46 x1 x2 ty6.1 ty6.2.1 ty6.2.2)))
theorem z_S_comes_0 {l : Launch} {D : va_G} {dA : Nat → ClassId} {ad : Nat → Nat} {sh : List zSE}  (hr : zRo sh)  {x1 : Int32} {x2 : Int32} {μ : zI} {ν : zJ} {out : (Int32 × zI × zJ)} (hF : e_S_comes_0   x1 x2 μ ν = some out) : Z l D dA ad sh m_S_comes (zR 2 0 0) (zS ad) (zOi out) 0 0 0 0 [] 0 [(0, .ref (ad 0)), (1, .int x1), (2, .int x2)] [] μ ν := by
  unfold e_S_comes_0 at hF
  refine z_iload_n d_S_comes_0 1 rfl rfl ?_
  refine z_if_lt d_S_comes_1 (tgt := 13) (by decide) (fun cy1 => ?_) (fun cy1 => ?_)
  · replace hF := zh_t cy1 hF
    exact z_S_comes_13 hr  hF
  · replace hF := zh_f cy1 hF
    refine z_iload_n d_S_comes_4 2 rfl rfl ?_
    refine z_iconst d_S_comes_5 (v := 0) (by decide) ?_
    refine z_iconst d_S_comes_6 (v := 3) (by decide) ?_
    obtain ⟨ty2, hty2, hF⟩ := zh_bind hF
    refine z_callS d_S_comes_7 (c_S_isWithin  hty2) ms_S_isWithin l_S_54 (fun _ _ h => h) rfl ⟨Nat.le_of_ble_eq_true rfl, Nat.le_of_ble_eq_true rfl⟩ ⟨Nat.le_of_ble_eq_true rfl, Nat.le_of_ble_eq_true rfl⟩ rfl (Nat.le_of_ble_eq_true rfl) (fun r μ' ν' hq => ?_)
    obtain ⟨rfl, rfl, rfl⟩ := hq
    show Z _ _ _ _ _ _ _ _ _ _ _ 0 0 _ _ _ [.int ty2.1] _ _
    refine z_if_ne d_S_comes_10 (tgt := 15) (by decide) (fun cy3 => ?_) (fun cy3 => ?_)
    · replace hF := zh_f cy3 hF
      refine z_iload_n d_S_comes_15 1 rfl rfl ?_
      refine z_aload_n d_S_comes_16 0 rfl rfl ?_
      refine z_getr d_S_comes_17 (q := 4) f_S_28 (hr 0 _ rfl) rfl ?_
      refine z_getr d_S_comes_20 (q := (4 + 9)) f_S_238 ((zRo_4 hr) 0 _ rfl) rfl ?_
      obtain ⟨ty4, hty4, hF⟩ := zh_bind hF
      refine z_callV d_S_comes_23 (c_Schedule_left (zRo_4 hr) hty4) mv_Schedule_left l_S_242 (fun _ _ h => h) ((zRo_4 hr) 9 _ rfl) rfl rfl ⟨Nat.le_of_ble_eq_true rfl, Nat.le_of_ble_eq_true rfl⟩ ⟨Nat.le_of_ble_eq_true rfl, Nat.le_of_ble_eq_true rfl⟩ rfl (Nat.le_of_ble_eq_true rfl) (fun r μ' ν' hq => ?_)
      obtain ⟨rfl, rfl, rfl⟩ := hq
      show Z _ _ _ _ _ _ _ _ _ _ _ 0 0 _ _ _ [.int ty4.1, .int x1] _ _
      refine z_icmp_ge d_S_comes_26 (tgt := 44) (by decide) (fun cy5 => ?_) (fun cy5 => ?_)
      · replace hF := zh_t cy5 hF
        refine z_bipush d_S_comes_44 (v := (-2)) (by decide) ?_
        exact z_S_comes_46 hr  hF
      · replace hF := zh_f cy5 hF
        refine z_aload_n d_S_comes_29 0 rfl rfl ?_
        refine z_getr d_S_comes_30 (q := 4) f_S_28 (hr 0 _ rfl) rfl ?_
        refine z_getr d_S_comes_33 (q := (4 + 9)) f_S_238 ((zRo_4 hr) 0 _ rfl) rfl ?_
        refine z_iload_n d_S_comes_36 1 rfl rfl ?_
        refine z_iload_n d_S_comes_37 2 rfl rfl ?_
        obtain ⟨ty6, hty6, hF⟩ := zh_bind hF
        refine z_callV d_S_comes_38 (c_Schedule_get (zRo_4 hr) hty6) mv_Schedule_get l_S_246 (fun _ _ h => h) ((zRo_4 hr) 9 _ rfl) rfl rfl ⟨Nat.le_of_ble_eq_true rfl, Nat.le_of_ble_eq_true rfl⟩ ⟨Nat.le_of_ble_eq_true rfl, Nat.le_of_ble_eq_true rfl⟩ rfl (Nat.le_of_ble_eq_true rfl) (fun r μ' ν' hq => ?_)
        obtain ⟨rfl, rfl, rfl⟩ := hq
        show Z _ _ _ _ _ _ _ _ _ _ _ 0 0 _ _ _ [.int ty6.1] _ _
        refine z_goto d_S_comes_41 (tgt := 46) (by decide) ?_
        exact z_S_comes_46 hr  hF
    · replace hF := zh_t cy3 hF
      exact z_S_comes_13 hr  hF
def E_S_comes  (x1 : Int32) (x2 : Int32) (μ : zI) (ν : zJ) : Option (Int32 × zI × zJ) := e_S_comes_0 x1 x2 μ ν
theorem c_S_comes {l : Launch} {D : va_G} {dA : Nat → ClassId} {ad : Nat → Nat} {sh : List zSE} {μ : zI} {ν : zJ} {x1 : Int32} {x2 : Int32} (hr : zRo sh) {out : (Int32 × zI × zJ)} (hE : E_S_comes x1 x2 μ ν = some out) : zC l D dA ad sh m_S_comes 2 0 0 [.ref (ad 0), .int x1, .int x2] μ ν (zOi out) :=
  zC.of (by decide) (Nat.le_of_ble_eq_true rfl) (z_S_comes_0 hr hE)
def e_S_cancel_0   (x1 : Int32) (μ : zI) (ν : zJ) : Option (Int32 × zI × zJ) := (if 0 ≤ x1 then Option.bind (E_Schedule_left 4 μ ν) fun ty2 => (if x1 < ty2.1 then Option.bind (E_Schedule_drop 4 x1 ty2.2.1 ty2.2.2) fun ty4 => Option.bind (E_Schedule_left 4 ty4.1 ty4.2) fun ty5 => some (ty5.1, ty5.2.1, ty5.2.2) else some ((-2), ty2.2.1, ty2.2.2)) else some ((-1), μ, ν))
theorem z_S_cancel_0 {l : Launch} {D : va_G} {dA : Nat → ClassId} {ad : Nat → Nat} {sh : List zSE}  (hr : zRo sh)  {x1 : Int32} {μ : zI} {ν : zJ} {out : (Int32 × zI × zJ)} (hF : e_S_cancel_0   x1 μ ν = some out) : Z l D dA ad sh m_S_cancel (zR 2 0 0) (zS ad) (zOi out) 0 0 0 0 [] 0 [(0, .ref (ad 0)), (1, .int x1)] [] μ ν := by
  unfold e_S_cancel_0 at hF
  refine z_iload_n d_S_cancel_0 1 rfl rfl ?_
  refine z_if_ge d_S_cancel_1 (tgt := 6) (by decide) (fun cy1 => ?_) (fun cy1 => ?_)
  · replace hF := zh_t cy1 hF
    refine z_iload_n d_S_cancel_6 1 rfl rfl ?_
    refine z_aload_n d_S_cancel_7 0 rfl rfl ?_
    refine z_getr d_S_cancel_8 (q := 4) f_S_28 (hr 0 _ rfl) rfl ?_
    refine z_getr d_S_cancel_11 (q := (4 + 9)) f_S_238 ((zRo_4 hr) 0 _ rfl) rfl ?_
    obtain ⟨ty2, hty2, hF⟩ := zh_bind hF
    refine z_callV d_S_cancel_14 (c_Schedule_left (zRo_4 hr) hty2) mv_Schedule_left l_S_242 (fun _ _ h => h) ((zRo_4 hr) 9 _ rfl) rfl rfl ⟨Nat.le_of_ble_eq_true rfl, Nat.le_of_ble_eq_true rfl⟩ ⟨Nat.le_of_ble_eq_true rfl, Nat.le_of_ble_eq_true rfl⟩ rfl (Nat.le_of_ble_eq_true rfl) (fun r μ' ν' hq => ?_)
    obtain ⟨rfl, rfl, rfl⟩ := hq
    show Z _ _ _ _ _ _ _ _ _ _ _ 0 0 _ _ _ [.int ty2.1, .int x1] _ _
    refine z_icmp_lt d_S_cancel_17 (tgt := 23) (by decide) (fun cy3 => ?_) (fun cy3 => ?_)
    · replace hF := zh_t cy3 hF
      refine z_aload_n d_S_cancel_23 0 rfl rfl ?_
      refine z_getr d_S_cancel_24 (q := 4) f_S_28 (hr 0 _ rfl) rfl ?_
      refine z_getr d_S_cancel_27 (q := (4 + 9)) f_S_238 ((zRo_4 hr) 0 _ rfl) rfl ?_
      refine z_iload_n d_S_cancel_30 1 rfl rfl ?_
      obtain ⟨ty4, hty4, hF⟩ := zh_bind hF
      refine z_callV d_S_cancel_31 (c_Schedule_drop (zRo_4 hr) hty4) mv_Schedule_drop l_S_247 (fun _ _ h => h) ((zRo_4 hr) 9 _ rfl) rfl rfl ⟨Nat.le_of_ble_eq_true rfl, Nat.le_of_ble_eq_true rfl⟩ ⟨Nat.le_of_ble_eq_true rfl, Nat.le_of_ble_eq_true rfl⟩ rfl (Nat.le_of_ble_eq_true rfl) (fun r μ' ν' hq => ?_)
      obtain ⟨rfl, rfl, rfl⟩ := hq
      show Z _ _ _ _ _ _ _ _ _ _ _ 0 0 _ _ _ [] _ _
      refine z_aload_n d_S_cancel_34 0 rfl rfl ?_
      refine z_getr d_S_cancel_35 (q := 4) f_S_28 (hr 0 _ rfl) rfl ?_
      refine z_getr d_S_cancel_38 (q := (4 + 9)) f_S_238 ((zRo_4 hr) 0 _ rfl) rfl ?_
      obtain ⟨ty5, hty5, hF⟩ := zh_bind hF
      refine z_callV d_S_cancel_41 (c_Schedule_left (zRo_4 hr) hty5) mv_Schedule_left l_S_242 (fun _ _ h => h) ((zRo_4 hr) 9 _ rfl) rfl rfl ⟨Nat.le_of_ble_eq_true rfl, Nat.le_of_ble_eq_true rfl⟩ ⟨Nat.le_of_ble_eq_true rfl, Nat.le_of_ble_eq_true rfl⟩ rfl (Nat.le_of_ble_eq_true rfl) (fun r μ' ν' hq => ?_)
      obtain ⟨rfl, rfl, rfl⟩ := hq
      show Z _ _ _ _ _ _ _ _ _ _ _ 0 0 _ _ _ [.int ty5.1] _ _
      cases hF
      exact z_ireturn d_S_cancel_44 rfl rfl ⟨rfl, rfl, rfl⟩
    · replace hF := zh_f cy3 hF
      refine z_bipush d_S_cancel_20 (v := (-2)) (by decide) ?_
      cases hF
      exact z_ireturn d_S_cancel_22 rfl rfl ⟨rfl, rfl, rfl⟩
  · replace hF := zh_f cy1 hF
    refine z_iconst d_S_cancel_4 (v := (-1)) (by decide) ?_
    cases hF
    exact z_ireturn d_S_cancel_5 rfl rfl ⟨rfl, rfl, rfl⟩
def E_S_cancel  (x1 : Int32) (μ : zI) (ν : zJ) : Option (Int32 × zI × zJ) := e_S_cancel_0 x1 μ ν
theorem c_S_cancel {l : Launch} {D : va_G} {dA : Nat → ClassId} {ad : Nat → Nat} {sh : List zSE} {μ : zI} {ν : zJ} {x1 : Int32} (hr : zRo sh) {out : (Int32 × zI × zJ)} (hE : E_S_cancel x1 μ ν = some out) : zC l D dA ad sh m_S_cancel 2 0 0 [.ref (ad 0), .int x1] μ ν (zOi out) :=
  zC.of (by decide) (Nat.le_of_ble_eq_true rfl) (z_S_cancel_0 hr hE)
def e_S_mayTry_23   (x1 : Int32) (s0 : Int32) (μ : zI) (ν : zJ) : Option (Int32 × zI × zJ) := (if zb s0 = true then some (s0, μ, ν) else none)
theorem z_S_mayTry_23 {l : Launch} {D : va_G} {dA : Nat → ClassId} {ad : Nat → Nat} {sh : List zSE}  (hr : zRo sh)  {x1 : Int32} {s0 : Int32} {μ : zI} {ν : zJ} {out : (Int32 × zI × zJ)} (hF : e_S_mayTry_23   x1 s0 μ ν = some out) : Z l D dA ad sh m_S_mayTry (zR 1 0 0) (zS ad) (zOi out) 0 0 0 0 [] 23 [(0, .ref (ad 0)), (1, .int x1)] [.int s0] μ ν := by
  unfold e_S_mayTry_23 at hF
  obtain ⟨hy1, hF⟩ := zh_if hF
  cases hF
  exact z_ireturn d_S_mayTry_23 rfl (zb_n hy1) ⟨rfl, rfl, rfl⟩
def e_S_mayTry_22   (x1 : Int32) (μ : zI) (ν : zJ) : Option (Int32 × zI × zJ) := e_S_mayTry_23 x1 0 μ ν
theorem z_S_mayTry_22 {l : Launch} {D : va_G} {dA : Nat → ClassId} {ad : Nat → Nat} {sh : List zSE}  (hr : zRo sh)  {x1 : Int32} {μ : zI} {ν : zJ} {out : (Int32 × zI × zJ)} (hF : e_S_mayTry_22   x1 μ ν = some out) : Z l D dA ad sh m_S_mayTry (zR 1 0 0) (zS ad) (zOi out) 0 0 0 0 [] 22 [(0, .ref (ad 0)), (1, .int x1)] [] μ ν := by
  unfold e_S_mayTry_22 at hF
  refine z_iconst d_S_mayTry_22 (v := 0) (by decide) ?_
  exact z_S_mayTry_23 hr  hF
def e_S_mayTry_0   (x1 : Int32) (μ : zI) (ν : zJ) : Option (Int32 × zI × zJ) := Option.bind (E_S_isWithin x1 1 300 μ ν) fun ty1 => (if ty1.1 = 0 then e_S_mayTry_22 x1 ty1.2.1 ty1.2.2 else Option.bind (E_S_hasModules ty1.2.1 ty1.2.2) fun ty3 => (if ty3.1 = 0 then e_S_mayTry_22 x1 ty3.2.1 ty3.2.2 else e_S_mayTry_23 x1 1 ty3.2.1 ty3.2.2))
theorem z_S_mayTry_0 {l : Launch} {D : va_G} {dA : Nat → ClassId} {ad : Nat → Nat} {sh : List zSE}  (hr : zRo sh)  {x1 : Int32} {μ : zI} {ν : zJ} {out : (Int32 × zI × zJ)} (hF : e_S_mayTry_0   x1 μ ν = some out) : Z l D dA ad sh m_S_mayTry (zR 1 0 0) (zS ad) (zOi out) 0 0 0 0 [] 0 [(0, .ref (ad 0)), (1, .int x1)] [] μ ν := by
  unfold e_S_mayTry_0 at hF
  refine z_iload_n d_S_mayTry_0 1 rfl rfl ?_
  refine z_iconst d_S_mayTry_1 (v := 1) (by decide) ?_
  refine z_sipush d_S_mayTry_2 (v := 300) (by decide) ?_
  obtain ⟨ty1, hty1, hF⟩ := zh_bind hF
  refine z_callS d_S_mayTry_5 (c_S_isWithin  hty1) ms_S_isWithin l_S_54 (fun _ _ h => h) rfl ⟨Nat.le_of_ble_eq_true rfl, Nat.le_of_ble_eq_true rfl⟩ ⟨Nat.le_of_ble_eq_true rfl, Nat.le_of_ble_eq_true rfl⟩ rfl (Nat.le_of_ble_eq_true rfl) (fun r μ' ν' hq => ?_)
  obtain ⟨rfl, rfl, rfl⟩ := hq
  show Z _ _ _ _ _ _ _ _ _ _ _ 0 0 _ _ _ [.int ty1.1] _ _
  refine z_if_eq d_S_mayTry_8 (tgt := 22) (by decide) (fun cy2 => ?_) (fun cy2 => ?_)
  · replace hF := zh_t cy2 hF
    exact z_S_mayTry_22 hr  hF
  · replace hF := zh_f cy2 hF
    refine z_aload_n d_S_mayTry_11 0 rfl rfl ?_
    obtain ⟨ty3, hty3, hF⟩ := zh_bind hF
    refine z_callV d_S_mayTry_12 (c_S_hasModules hr hty3) mv_S_hasModules l_S_78 (fun _ _ h => h) (hr 0 _ rfl) rfl rfl ⟨Nat.le_of_ble_eq_true rfl, Nat.le_of_ble_eq_true rfl⟩ ⟨Nat.le_of_ble_eq_true rfl, Nat.le_of_ble_eq_true rfl⟩ rfl (Nat.le_of_ble_eq_true rfl) (fun r μ' ν' hq => ?_)
    obtain ⟨rfl, rfl, rfl⟩ := hq
    show Z _ _ _ _ _ _ _ _ _ _ _ 0 0 _ _ _ [.int ty3.1] _ _
    refine z_if_eq d_S_mayTry_15 (tgt := 22) (by decide) (fun cy4 => ?_) (fun cy4 => ?_)
    · replace hF := zh_t cy4 hF
      exact z_S_mayTry_22 hr  hF
    · replace hF := zh_f cy4 hF
      refine z_iconst d_S_mayTry_18 (v := 1) (by decide) ?_
      refine z_goto d_S_mayTry_19 (tgt := 23) (by decide) ?_
      exact z_S_mayTry_23 hr  hF
def E_S_mayTry  (x1 : Int32) (μ : zI) (ν : zJ) : Option (Int32 × zI × zJ) := e_S_mayTry_0 x1 μ ν
theorem c_S_mayTry {l : Launch} {D : va_G} {dA : Nat → ClassId} {ad : Nat → Nat} {sh : List zSE} {μ : zI} {ν : zJ} {x1 : Int32} (hr : zRo sh) {out : (Int32 × zI × zJ)} (hE : E_S_mayTry x1 μ ν = some out) : zC l D dA ad sh m_S_mayTry 1 0 0 [.ref (ad 0), .int x1] μ ν (zOi out) :=
  zC.of (by decide) (Nat.le_of_ble_eq_true rfl) (z_S_mayTry_0 hr hE)
def e_S_beginTrial_0    (μ : zI) (ν : zJ) : Option (zI × zJ) := Option.bind (E_Station_copyFrom 19 4 μ ν) fun ty1 => Option.bind (E_Station_clearSums 19 ty1.1 ty1.2) fun ty2 => some (ty2.1, ty2.2)
theorem z_S_beginTrial_0 {l : Launch} {D : va_G} {dA : Nat → ClassId} {ad : Nat → Nat} {sh : List zSE}  (hr : zRo sh)   {μ : zI} {ν : zJ} {out : (zI × zJ)} (hF : e_S_beginTrial_0    μ ν = some out) : Z l D dA ad sh m_S_beginTrial (zR 3 0 0) (zS ad) (zOv out) 0 0 0 0 [] 0 [(0, .ref (ad 0))] [] μ ν := by
  unfold e_S_beginTrial_0 at hF
  refine z_aload_n d_S_beginTrial_0 0 rfl rfl ?_
  refine z_getr d_S_beginTrial_1 (q := 19) f_S_32 (hr 0 _ rfl) rfl ?_
  refine z_aload_n d_S_beginTrial_4 0 rfl rfl ?_
  refine z_getr d_S_beginTrial_5 (q := 4) f_S_28 (hr 0 _ rfl) rfl ?_
  obtain ⟨ty1, hty1, hF⟩ := zh_bind hF
  refine z_callV d_S_beginTrial_8 (c_Station_copyFrom (zRo_19 hr) (zRo_4 hr) hty1) mv_Station_copyFrom l_S_62 (fun _ _ h => h) ((zRo_19 hr) 0 _ rfl) rfl rfl ⟨Nat.le_of_ble_eq_true rfl, Nat.le_of_ble_eq_true rfl⟩ ⟨Nat.le_of_ble_eq_true rfl, Nat.le_of_ble_eq_true rfl⟩ rfl (Nat.le_of_ble_eq_true rfl) (fun r μ' ν' hq => ?_)
  obtain ⟨rfl, rfl, rfl⟩ := hq
  show Z _ _ _ _ _ _ _ _ _ _ _ 0 0 _ _ _ [] _ _
  refine z_aload_n d_S_beginTrial_11 0 rfl rfl ?_
  refine z_getr d_S_beginTrial_12 (q := 19) f_S_32 (hr 0 _ rfl) rfl ?_
  obtain ⟨ty2, hty2, hF⟩ := zh_bind hF
  refine z_callV d_S_beginTrial_15 (c_Station_clearSums (zRo_19 hr) hty2) mv_Station_clearSums l_S_294 (fun _ _ h => h) ((zRo_19 hr) 0 _ rfl) rfl rfl ⟨Nat.le_of_ble_eq_true rfl, Nat.le_of_ble_eq_true rfl⟩ ⟨Nat.le_of_ble_eq_true rfl, Nat.le_of_ble_eq_true rfl⟩ rfl (Nat.le_of_ble_eq_true rfl) (fun r μ' ν' hq => ?_)
  obtain ⟨rfl, rfl, rfl⟩ := hq
  show Z _ _ _ _ _ _ _ _ _ _ _ 0 0 _ _ _ [] _ _
  cases hF
  exact z_return d_S_beginTrial_18 rfl ⟨rfl, rfl, rfl⟩
def E_S_beginTrial   (μ : zI) (ν : zJ) : Option (zI × zJ) := e_S_beginTrial_0 μ ν
theorem c_S_beginTrial {l : Launch} {D : va_G} {dA : Nat → ClassId} {ad : Nat → Nat} {sh : List zSE} {μ : zI} {ν : zJ} (hr : zRo sh) {out : (zI × zJ)} (hE : E_S_beginTrial  μ ν = some out) : zC l D dA ad sh m_S_beginTrial 3 0 0 [.ref (ad 0)] μ ν (zOv out) :=
  zC.of (by decide) (Nat.le_of_ble_eq_true rfl) (z_S_beginTrial_0 hr hE)
def e_S_ifTicks_18   (x1 : Int32) (x2 : Int32) (μ : zI) (ν : zJ) : Option (Int32 × zI × zJ) := some ((-1), μ, ν)
theorem z_S_ifTicks_18 {l : Launch} {D : va_G} {dA : Nat → ClassId} {ad : Nat → Nat} {sh : List zSE}  (hr : zRo sh)  {x1 : Int32} {x2 : Int32} {μ : zI} {ν : zJ} {out : (Int32 × zI × zJ)} (hF : e_S_ifTicks_18   x1 x2 μ ν = some out) : Z l D dA ad sh m_S_ifTicks (zR 6 0 0) (zS ad) (zOi out) 0 0 0 0 [] 18 [(0, .ref (ad 0)), (1, .int x1), (2, .int x2)] [] μ ν := by
  unfold e_S_ifTicks_18 at hF
  refine z_iconst d_S_ifTicks_18 (v := (-1)) (by decide) ?_
  cases hF
  exact z_ireturn d_S_ifTicks_19 rfl rfl ⟨rfl, rfl, rfl⟩
def e_S_ifTicks_0   (x1 : Int32) (x2 : Int32) (μ : zI) (ν : zJ) : Option (Int32 × zI × zJ) := Option.bind (E_S_mayTry x1 μ ν) fun ty1 => (if ty1.1 = 0 then e_S_ifTicks_18 x1 x2 ty1.2.1 ty1.2.2 else Option.bind (E_S_isWithin x2 0 7 ty1.2.1 ty1.2.2) fun ty3 => (if ty3.1 = 0 then e_S_ifTicks_18 x1 x2 ty3.2.1 ty3.2.2 else Option.bind (E_S_beginTrial ty3.2.1 ty3.2.2) fun ty5 => Option.bind (E_Station_advanceBy 19 x1 ty5.1 ty5.2) fun ty6 => (if x2 = 0 then Option.bind (E_Station_sumOf 19 0 ty6.1 ty6.2) fun ty14 => some ((Int64.toInt32 ty14.1), ty14.2.1, ty14.2.2) else (if x2 = 1 then Option.bind (E_Station_sumOf 19 2 ty6.1 ty6.2) fun ty15 => some ((Int64.toInt32 ty15.1), ty15.2.1, ty15.2.2) else (if x2 = 2 then Option.bind (E_Station_sumOf 19 3 ty6.1 ty6.2) fun ty16 => some ((Int64.toInt32 ty16.1), ty16.2.1, ty16.2.2) else (if x2 = 3 then Option.bind (E_Station_sumOf 19 4 ty6.1 ty6.2) fun ty17 => some ((Int64.toInt32 ty17.1), ty17.2.1, ty17.2.2) else (if x2 = 4 then some ((ty6.1 (19 + 12) 0), ty6.1, ty6.2) else (if x2 = 5 then some ((ty6.1 (19 + 12) 1), ty6.1, ty6.2) else (if x2 = 6 then Option.bind (E_Station_sumOf 19 6 ty6.1 ty6.2) fun ty18 => some ((Int64.toInt32 ty18.1), ty18.2.1, ty18.2.2) else some ((ty6.1 (19 + 11) 0), ty6.1, ty6.2))))))))))
theorem z_S_ifTicks_0 {l : Launch} {D : va_G} {dA : Nat → ClassId} {ad : Nat → Nat} {sh : List zSE}  (hr : zRo sh)  {x1 : Int32} {x2 : Int32} {μ : zI} {ν : zJ} {out : (Int32 × zI × zJ)} (hF : e_S_ifTicks_0   x1 x2 μ ν = some out) : Z l D dA ad sh m_S_ifTicks (zR 6 0 0) (zS ad) (zOi out) 0 0 0 0 [] 0 [(0, .ref (ad 0)), (1, .int x1), (2, .int x2)] [] μ ν := by
  unfold e_S_ifTicks_0 at hF
  refine z_aload_n d_S_ifTicks_0 0 rfl rfl ?_
  refine z_iload_n d_S_ifTicks_1 1 rfl rfl ?_
  obtain ⟨ty1, hty1, hF⟩ := zh_bind hF
  refine z_callV d_S_ifTicks_2 (c_S_mayTry hr hty1) mv_S_mayTry l_S_250 (fun _ _ h => h) (hr 0 _ rfl) rfl rfl ⟨Nat.le_of_ble_eq_true rfl, Nat.le_of_ble_eq_true rfl⟩ ⟨Nat.le_of_ble_eq_true rfl, Nat.le_of_ble_eq_true rfl⟩ rfl (Nat.le_of_ble_eq_true rfl) (fun r μ' ν' hq => ?_)
  obtain ⟨rfl, rfl, rfl⟩ := hq
  show Z _ _ _ _ _ _ _ _ _ _ _ 0 0 _ _ _ [.int ty1.1] _ _
  refine z_if_eq d_S_ifTicks_5 (tgt := 18) (by decide) (fun cy2 => ?_) (fun cy2 => ?_)
  · replace hF := zh_t cy2 hF
    exact z_S_ifTicks_18 hr  hF
  · replace hF := zh_f cy2 hF
    refine z_iload_n d_S_ifTicks_8 2 rfl rfl ?_
    refine z_iconst d_S_ifTicks_9 (v := 0) (by decide) ?_
    refine z_bipush d_S_ifTicks_10 (v := 7) (by decide) ?_
    obtain ⟨ty3, hty3, hF⟩ := zh_bind hF
    refine z_callS d_S_ifTicks_12 (c_S_isWithin  hty3) ms_S_isWithin l_S_54 (fun _ _ h => h) rfl ⟨Nat.le_of_ble_eq_true rfl, Nat.le_of_ble_eq_true rfl⟩ ⟨Nat.le_of_ble_eq_true rfl, Nat.le_of_ble_eq_true rfl⟩ rfl (Nat.le_of_ble_eq_true rfl) (fun r μ' ν' hq => ?_)
    obtain ⟨rfl, rfl, rfl⟩ := hq
    show Z _ _ _ _ _ _ _ _ _ _ _ 0 0 _ _ _ [.int ty3.1] _ _
    refine z_if_ne d_S_ifTicks_15 (tgt := 20) (by decide) (fun cy4 => ?_) (fun cy4 => ?_)
    · replace hF := zh_f cy4 hF
      refine z_aload_n d_S_ifTicks_20 0 rfl rfl ?_
      obtain ⟨ty5, hty5, hF⟩ := zh_bind hF
      refine z_callV d_S_ifTicks_21 (c_S_beginTrial hr hty5) mv_S_beginTrial l_S_253 (fun _ _ h => h) (hr 0 _ rfl) rfl rfl ⟨Nat.le_of_ble_eq_true rfl, Nat.le_of_ble_eq_true rfl⟩ ⟨Nat.le_of_ble_eq_true rfl, Nat.le_of_ble_eq_true rfl⟩ rfl (Nat.le_of_ble_eq_true rfl) (fun r μ' ν' hq => ?_)
      obtain ⟨rfl, rfl, rfl⟩ := hq
      show Z _ _ _ _ _ _ _ _ _ _ _ 0 0 _ _ _ [] _ _
      refine z_aload_n d_S_ifTicks_24 0 rfl rfl ?_
      refine z_getr d_S_ifTicks_25 (q := 19) f_S_32 (hr 0 _ rfl) rfl ?_
      refine z_iload_n d_S_ifTicks_28 1 rfl rfl ?_
      obtain ⟨ty6, hty6, hF⟩ := zh_bind hF
      refine z_callV d_S_ifTicks_29 (c_Station_advanceBy (zRo_19 hr) hty6) mv_Station_advanceBy l_S_256 (fun _ _ h => h) ((zRo_19 hr) 0 _ rfl) rfl rfl ⟨Nat.le_of_ble_eq_true rfl, Nat.le_of_ble_eq_true rfl⟩ ⟨Nat.le_of_ble_eq_true rfl, Nat.le_of_ble_eq_true rfl⟩ rfl (Nat.le_of_ble_eq_true rfl) (fun r μ' ν' hq => ?_)
      obtain ⟨rfl, rfl, rfl⟩ := hq
      show Z _ _ _ _ _ _ _ _ _ _ _ 0 0 _ _ _ [] _ _
      refine z_iload_n d_S_ifTicks_32 2 rfl rfl ?_
      by_cases cy7 : x2 = 0
      · replace hF := zh_t cy7 hF
        refine z_tabIn d_S_ifTicks_33 (tgt := 76) 0 cy7 (by decide) (by decide) (off := 43) (by decide) (by decide) ?_
        refine z_aload_n d_S_ifTicks_76 0 rfl rfl ?_
        refine z_getr d_S_ifTicks_77 (q := 19) f_S_32 (hr 0 _ rfl) rfl ?_
        refine z_iconst d_S_ifTicks_80 (v := 0) (by decide) ?_
        obtain ⟨ty14, hty14, hF⟩ := zh_bind hF
        refine z_callV d_S_ifTicks_81 (c_Station_sumOf (zRo_19 hr) hty14) mv_Station_sumOf l_S_217 (fun _ _ h => h) ((zRo_19 hr) 0 _ rfl) rfl rfl ⟨Nat.le_of_ble_eq_true rfl, Nat.le_of_ble_eq_true rfl⟩ ⟨Nat.le_of_ble_eq_true rfl, Nat.le_of_ble_eq_true rfl⟩ rfl (Nat.le_of_ble_eq_true rfl) (fun r μ' ν' hq => ?_)
        obtain ⟨rfl, rfl, rfl⟩ := hq
        show Z _ _ _ _ _ _ _ _ _ _ _ 0 0 _ _ _ [.long ty14.1] _ _
        refine z_l2i d_S_ifTicks_84 ?_
        cases hF
        exact z_ireturn d_S_ifTicks_85 rfl rfl ⟨rfl, rfl, rfl⟩
      · replace hF := zh_f cy7 hF
        by_cases cy8 : x2 = 1
        · replace hF := zh_t cy8 hF
          refine z_tabIn d_S_ifTicks_33 (tgt := 86) 1 cy8 (by decide) (by decide) (off := 53) (by decide) (by decide) ?_
          refine z_aload_n d_S_ifTicks_86 0 rfl rfl ?_
          refine z_getr d_S_ifTicks_87 (q := 19) f_S_32 (hr 0 _ rfl) rfl ?_
          refine z_iconst d_S_ifTicks_90 (v := 2) (by decide) ?_
          obtain ⟨ty15, hty15, hF⟩ := zh_bind hF
          refine z_callV d_S_ifTicks_91 (c_Station_sumOf (zRo_19 hr) hty15) mv_Station_sumOf l_S_217 (fun _ _ h => h) ((zRo_19 hr) 0 _ rfl) rfl rfl ⟨Nat.le_of_ble_eq_true rfl, Nat.le_of_ble_eq_true rfl⟩ ⟨Nat.le_of_ble_eq_true rfl, Nat.le_of_ble_eq_true rfl⟩ rfl (Nat.le_of_ble_eq_true rfl) (fun r μ' ν' hq => ?_)
          obtain ⟨rfl, rfl, rfl⟩ := hq
          show Z _ _ _ _ _ _ _ _ _ _ _ 0 0 _ _ _ [.long ty15.1] _ _
          refine z_l2i d_S_ifTicks_94 ?_
          cases hF
          exact z_ireturn d_S_ifTicks_95 rfl rfl ⟨rfl, rfl, rfl⟩
        · replace hF := zh_f cy8 hF
          by_cases cy9 : x2 = 2
          · replace hF := zh_t cy9 hF
            refine z_tabIn d_S_ifTicks_33 (tgt := 96) 2 cy9 (by decide) (by decide) (off := 63) (by decide) (by decide) ?_
            refine z_aload_n d_S_ifTicks_96 0 rfl rfl ?_
            refine z_getr d_S_ifTicks_97 (q := 19) f_S_32 (hr 0 _ rfl) rfl ?_
            refine z_iconst d_S_ifTicks_100 (v := 3) (by decide) ?_
            obtain ⟨ty16, hty16, hF⟩ := zh_bind hF
            refine z_callV d_S_ifTicks_101 (c_Station_sumOf (zRo_19 hr) hty16) mv_Station_sumOf l_S_217 (fun _ _ h => h) ((zRo_19 hr) 0 _ rfl) rfl rfl ⟨Nat.le_of_ble_eq_true rfl, Nat.le_of_ble_eq_true rfl⟩ ⟨Nat.le_of_ble_eq_true rfl, Nat.le_of_ble_eq_true rfl⟩ rfl (Nat.le_of_ble_eq_true rfl) (fun r μ' ν' hq => ?_)
            obtain ⟨rfl, rfl, rfl⟩ := hq
            show Z _ _ _ _ _ _ _ _ _ _ _ 0 0 _ _ _ [.long ty16.1] _ _
            refine z_l2i d_S_ifTicks_104 ?_
            cases hF
            exact z_ireturn d_S_ifTicks_105 rfl rfl ⟨rfl, rfl, rfl⟩
          · replace hF := zh_f cy9 hF
            by_cases cy10 : x2 = 3
            · replace hF := zh_t cy10 hF
              refine z_tabIn d_S_ifTicks_33 (tgt := 106) 3 cy10 (by decide) (by decide) (off := 73) (by decide) (by decide) ?_
              refine z_aload_n d_S_ifTicks_106 0 rfl rfl ?_
              refine z_getr d_S_ifTicks_107 (q := 19) f_S_32 (hr 0 _ rfl) rfl ?_
              refine z_iconst d_S_ifTicks_110 (v := 4) (by decide) ?_
              obtain ⟨ty17, hty17, hF⟩ := zh_bind hF
              refine z_callV d_S_ifTicks_111 (c_Station_sumOf (zRo_19 hr) hty17) mv_Station_sumOf l_S_217 (fun _ _ h => h) ((zRo_19 hr) 0 _ rfl) rfl rfl ⟨Nat.le_of_ble_eq_true rfl, Nat.le_of_ble_eq_true rfl⟩ ⟨Nat.le_of_ble_eq_true rfl, Nat.le_of_ble_eq_true rfl⟩ rfl (Nat.le_of_ble_eq_true rfl) (fun r μ' ν' hq => ?_)
              obtain ⟨rfl, rfl, rfl⟩ := hq
              show Z _ _ _ _ _ _ _ _ _ _ _ 0 0 _ _ _ [.long ty17.1] _ _
              refine z_l2i d_S_ifTicks_114 ?_
              cases hF
              exact z_ireturn d_S_ifTicks_115 rfl rfl ⟨rfl, rfl, rfl⟩
            · replace hF := zh_f cy10 hF
              by_cases cy11 : x2 = 4
              · replace hF := zh_t cy11 hF
                refine z_tabIn d_S_ifTicks_33 (tgt := 116) 4 cy11 (by decide) (by decide) (off := 83) (by decide) (by decide) ?_
                refine z_aload_n d_S_ifTicks_116 0 rfl rfl ?_
                refine z_getr d_S_ifTicks_117 (q := 19) f_S_32 (hr 0 _ rfl) rfl ?_
                refine z_getr d_S_ifTicks_120 (q := (19 + 12)) f_S_259 ((zRo_19 hr) 0 _ rfl) rfl ?_
                refine z_get d_S_ifTicks_123 f_S_263 ((zRo_19 hr) 12 _ rfl) rfl ?_
                cases hF
                exact z_ireturn d_S_ifTicks_126 rfl rfl ⟨rfl, rfl, rfl⟩
              · replace hF := zh_f cy11 hF
                by_cases cy12 : x2 = 5
                · replace hF := zh_t cy12 hF
                  refine z_tabIn d_S_ifTicks_33 (tgt := 127) 5 cy12 (by decide) (by decide) (off := 94) (by decide) (by decide) ?_
                  refine z_aload_n d_S_ifTicks_127 0 rfl rfl ?_
                  refine z_getr d_S_ifTicks_128 (q := 19) f_S_32 (hr 0 _ rfl) rfl ?_
                  refine z_getr d_S_ifTicks_131 (q := (19 + 12)) f_S_259 ((zRo_19 hr) 0 _ rfl) rfl ?_
                  refine z_get d_S_ifTicks_134 f_S_268 ((zRo_19 hr) 12 _ rfl) rfl ?_
                  cases hF
                  exact z_ireturn d_S_ifTicks_137 rfl rfl ⟨rfl, rfl, rfl⟩
                · replace hF := zh_f cy12 hF
                  by_cases cy13 : x2 = 6
                  · replace hF := zh_t cy13 hF
                    refine z_tabIn d_S_ifTicks_33 (tgt := 138) 6 cy13 (by decide) (by decide) (off := 105) (by decide) (by decide) ?_
                    refine z_aload_n d_S_ifTicks_138 0 rfl rfl ?_
                    refine z_getr d_S_ifTicks_139 (q := 19) f_S_32 (hr 0 _ rfl) rfl ?_
                    refine z_bipush d_S_ifTicks_142 (v := 6) (by decide) ?_
                    obtain ⟨ty18, hty18, hF⟩ := zh_bind hF
                    refine z_callV d_S_ifTicks_144 (c_Station_sumOf (zRo_19 hr) hty18) mv_Station_sumOf l_S_217 (fun _ _ h => h) ((zRo_19 hr) 0 _ rfl) rfl rfl ⟨Nat.le_of_ble_eq_true rfl, Nat.le_of_ble_eq_true rfl⟩ ⟨Nat.le_of_ble_eq_true rfl, Nat.le_of_ble_eq_true rfl⟩ rfl (Nat.le_of_ble_eq_true rfl) (fun r μ' ν' hq => ?_)
                    obtain ⟨rfl, rfl, rfl⟩ := hq
                    show Z _ _ _ _ _ _ _ _ _ _ _ 0 0 _ _ _ [.long ty18.1] _ _
                    refine z_l2i d_S_ifTicks_147 ?_
                    cases hF
                    exact z_ireturn d_S_ifTicks_148 rfl rfl ⟨rfl, rfl, rfl⟩
                  · replace hF := zh_f cy13 hF
                    refine z_tabOut d_S_ifTicks_33 (tgt := 149) [0, 1, 2, 3, 4, 5, 6] (List.forall_mem_cons.mpr ⟨cy7, List.forall_mem_cons.mpr ⟨cy8, List.forall_mem_cons.mpr ⟨cy9, List.forall_mem_cons.mpr ⟨cy10, List.forall_mem_cons.mpr ⟨cy11, List.forall_mem_cons.mpr ⟨cy12, List.forall_mem_cons.mpr ⟨cy13, fun _ h => absurd h List.not_mem_nil⟩⟩⟩⟩⟩⟩⟩) (by decide) (by decide) ?_
                    refine z_aload_n d_S_ifTicks_149 0 rfl rfl ?_
                    refine z_getr d_S_ifTicks_150 (q := 19) f_S_32 (hr 0 _ rfl) rfl ?_
                    refine z_getr d_S_ifTicks_153 (q := (19 + 11)) f_S_88 ((zRo_19 hr) 0 _ rfl) rfl ?_
                    refine z_get d_S_ifTicks_156 f_S_271 ((zRo_19 hr) 11 _ rfl) rfl ?_
                    cases hF
                    exact z_ireturn d_S_ifTicks_159 rfl rfl ⟨rfl, rfl, rfl⟩
    · replace hF := zh_t cy4 hF
      exact z_S_ifTicks_18 hr  hF
def E_S_ifTicks  (x1 : Int32) (x2 : Int32) (μ : zI) (ν : zJ) : Option (Int32 × zI × zJ) := e_S_ifTicks_0 x1 x2 μ ν
theorem c_S_ifTicks {l : Launch} {D : va_G} {dA : Nat → ClassId} {ad : Nat → Nat} {sh : List zSE} {μ : zI} {ν : zJ} {x1 : Int32} {x2 : Int32} (hr : zRo sh) {out : (Int32 × zI × zJ)} (hE : E_S_ifTicks x1 x2 μ ν = some out) : zC l D dA ad sh m_S_ifTicks 6 0 0 [.ref (ad 0), .int x1, .int x2] μ ν (zOi out) :=
  zC.of (by decide) (Nat.le_of_ble_eq_true rfl) (z_S_ifTicks_0 hr hE)
def f_S_firstTick_6   : Nat → Int32 → Int32 → Int32 → zI → zJ → Option (Int32 × zI × zJ)
  | 0, _, _, _, _, _ => none
  | n + 1, x1, x2, x3, μ, ν => (if x1 < x3 then some ((-2), μ, ν) else Option.bind (E_Station_advance 19 μ ν) fun ty2 => Option.bind (E_Station_holds 19 x2 ty2.1 ty2.2) fun ty3 => (if ty3.1 = 0 then (f_S_firstTick_6  n) x1 x2 (x3 + 1) ty3.2.1 ty3.2.2 else some (x3, ty3.2.1, ty3.2.2)))
theorem z_S_firstTick_6 {l : Launch} {D : va_G} {dA : Nat → ClassId} {ad : Nat → Nat} {sh : List zSE}  (hr : zRo sh)  {out : (Int32 × zI × zJ)} : ∀ (n : Nat) (x1 : Int32) (x2 : Int32) (x3 : Int32) (μ : zI) (ν : zJ), f_S_firstTick_6   n x1 x2 x3 μ ν = some out → Z l D dA ad sh m_S_firstTick (zR 5 0 0) (zS ad) (zOi out) 0 0 0 0 [] 6 [(0, .ref (ad 0)), (1, .int x1), (2, .int x2), (3, .int x3)] [] μ ν := by
  intro n
  induction n with
  | zero => intro x1 x2 x3 μ ν hF; cases hF
  | succ n ih =>
    intro x1 x2 x3 μ ν hF
    dsimp only [f_S_firstTick_6] at hF
    refine z_iload_n d_S_firstTick_6 3 rfl rfl ?_
    refine z_iload_n d_S_firstTick_7 1 rfl rfl ?_
    refine z_icmp_gt d_S_firstTick_8 (tgt := 37) (by decide) (fun cy1 => ?_) (fun cy1 => ?_)
    · replace hF := zh_t cy1 hF
      refine z_bipush d_S_firstTick_37 (v := (-2)) (by decide) ?_
      cases hF
      exact z_ireturn d_S_firstTick_39 rfl rfl ⟨rfl, rfl, rfl⟩
    · replace hF := zh_f cy1 hF
      refine z_aload_n d_S_firstTick_11 0 rfl rfl ?_
      refine z_getr d_S_firstTick_12 (q := 19) f_S_32 (hr 0 _ rfl) rfl ?_
      obtain ⟨ty2, hty2, hF⟩ := zh_bind hF
      refine z_callV d_S_firstTick_15 (c_Station_advance (zRo_19 hr) hty2) mv_Station_advance l_S_82 (fun _ _ h => h) ((zRo_19 hr) 0 _ rfl) rfl rfl ⟨Nat.le_of_ble_eq_true rfl, Nat.le_of_ble_eq_true rfl⟩ ⟨Nat.le_of_ble_eq_true rfl, Nat.le_of_ble_eq_true rfl⟩ rfl (Nat.le_of_ble_eq_true rfl) (fun r μ' ν' hq => ?_)
      obtain ⟨rfl, rfl, rfl⟩ := hq
      show Z _ _ _ _ _ _ _ _ _ _ _ 0 0 _ _ _ [] _ _
      refine z_aload_n d_S_firstTick_18 0 rfl rfl ?_
      refine z_getr d_S_firstTick_19 (q := 19) f_S_32 (hr 0 _ rfl) rfl ?_
      refine z_iload_n d_S_firstTick_22 2 rfl rfl ?_
      obtain ⟨ty3, hty3, hF⟩ := zh_bind hF
      refine z_callV d_S_firstTick_23 (c_Station_holds (zRo_19 hr) hty3) mv_Station_holds l_S_297 (fun _ _ h => h) ((zRo_19 hr) 0 _ rfl) rfl rfl ⟨Nat.le_of_ble_eq_true rfl, Nat.le_of_ble_eq_true rfl⟩ ⟨Nat.le_of_ble_eq_true rfl, Nat.le_of_ble_eq_true rfl⟩ rfl (Nat.le_of_ble_eq_true rfl) (fun r μ' ν' hq => ?_)
      obtain ⟨rfl, rfl, rfl⟩ := hq
      show Z _ _ _ _ _ _ _ _ _ _ _ 0 0 _ _ _ [.int ty3.1] _ _
      refine z_if_eq d_S_firstTick_26 (tgt := 31) (by decide) (fun cy4 => ?_) (fun cy4 => ?_)
      · replace hF := zh_t cy4 hF
        refine z_iinc d_S_firstTick_31 (k := 3) (v := (x3 + 1)) rfl rfl (by decide) (L2 := [(3, .int (x3 + 1)), (0, .ref (ad 0)), (1, .int x1), (2, .int x2)]) rfl ?_
        refine z_goto d_S_firstTick_34 (tgt := 6) (by decide) ?_
        refine z_sub [1, 2, 3, 0] (L' := [(0, .ref (ad 0)), (1, .int x1), (2, .int x2), (3, .int (x3 + 1))]) rfl ?_
        exact ih _ _ _ _ _ hF
      · replace hF := zh_f cy4 hF
        refine z_iload_n d_S_firstTick_29 3 rfl rfl ?_
        cases hF
        exact z_ireturn d_S_firstTick_30 rfl rfl ⟨rfl, rfl, rfl⟩
def e_S_firstTick_0   (x1 : Int32) (x2 : Int32) (μ : zI) (ν : zJ) : Option (Int32 × zI × zJ) := Option.bind (E_S_beginTrial μ ν) fun ty1 => f_S_firstTick_6 zFuel x1 x2 1 ty1.1 ty1.2
theorem z_S_firstTick_0 {l : Launch} {D : va_G} {dA : Nat → ClassId} {ad : Nat → Nat} {sh : List zSE}  (hr : zRo sh)  {x1 : Int32} {x2 : Int32} {μ : zI} {ν : zJ} {out : (Int32 × zI × zJ)} (hF : e_S_firstTick_0   x1 x2 μ ν = some out) : Z l D dA ad sh m_S_firstTick (zR 5 0 0) (zS ad) (zOi out) 0 0 0 0 [] 0 [(0, .ref (ad 0)), (1, .int x1), (2, .int x2)] [] μ ν := by
  unfold e_S_firstTick_0 at hF
  refine z_aload_n d_S_firstTick_0 0 rfl rfl ?_
  obtain ⟨ty1, hty1, hF⟩ := zh_bind hF
  refine z_callV d_S_firstTick_1 (c_S_beginTrial hr hty1) mv_S_beginTrial l_S_253 (fun _ _ h => h) (hr 0 _ rfl) rfl rfl ⟨Nat.le_of_ble_eq_true rfl, Nat.le_of_ble_eq_true rfl⟩ ⟨Nat.le_of_ble_eq_true rfl, Nat.le_of_ble_eq_true rfl⟩ rfl (Nat.le_of_ble_eq_true rfl) (fun r μ' ν' hq => ?_)
  obtain ⟨rfl, rfl, rfl⟩ := hq
  show Z _ _ _ _ _ _ _ _ _ _ _ 0 0 _ _ _ [] _ _
  refine z_iconst d_S_firstTick_4 (v := 1) (by decide) ?_
  refine z_istore_n d_S_firstTick_5 rfl (by decide) (L2 := [(3, .int 1), (0, .ref (ad 0)), (1, .int x1), (2, .int x2)]) rfl ?_
  refine z_sub [1, 2, 3, 0] (L' := [(0, .ref (ad 0)), (1, .int x1), (2, .int x2), (3, .int 1)]) rfl ?_
  exact z_S_firstTick_6 hr  zFuel _ _ _ _ _ hF
def E_S_firstTick  (x1 : Int32) (x2 : Int32) (μ : zI) (ν : zJ) : Option (Int32 × zI × zJ) := e_S_firstTick_0 x1 x2 μ ν
theorem c_S_firstTick {l : Launch} {D : va_G} {dA : Nat → ClassId} {ad : Nat → Nat} {sh : List zSE} {μ : zI} {ν : zJ} {x1 : Int32} {x2 : Int32} (hr : zRo sh) {out : (Int32 × zI × zJ)} (hE : E_S_firstTick x1 x2 μ ν = some out) : zC l D dA ad sh m_S_firstTick 5 0 0 [.ref (ad 0), .int x1, .int x2] μ ν (zOi out) :=
  zC.of (by decide) (Nat.le_of_ble_eq_true rfl) (z_S_firstTick_0 hr hE)
def e_S_firstSeen_18   (x1 : Int32) (s0 : Int32) (μ : zI) (ν : zJ) : Option (Int32 × zI × zJ) := some (s0, μ, ν)
theorem z_S_firstSeen_18 {l : Launch} {D : va_G} {dA : Nat → ClassId} {ad : Nat → Nat} {sh : List zSE}  (hr : zRo sh)  {x1 : Int32} {s0 : Int32} {μ : zI} {ν : zJ} {out : (Int32 × zI × zJ)} (hF : e_S_firstSeen_18   x1 s0 μ ν = some out) : Z l D dA ad sh m_S_firstSeen (zR 6 0 0) (zS ad) (zOi out) 0 0 0 0 [] 18 [(0, .ref (ad 0)), (1, .int x1)] [.int s0] μ ν := by
  unfold e_S_firstSeen_18 at hF
  cases hF
  exact z_ireturn d_S_firstSeen_18 rfl rfl ⟨rfl, rfl, rfl⟩
def e_S_firstSeen_0   (x1 : Int32) (μ : zI) (ν : zJ) : Option (Int32 × zI × zJ) := Option.bind (E_S_mayTry x1 μ ν) fun ty1 => (if ty1.1 = 0 then e_S_firstSeen_18 x1 (-1) ty1.2.1 ty1.2.2 else Option.bind (E_S_firstTick x1 0 ty1.2.1 ty1.2.2) fun ty3 => e_S_firstSeen_18 x1 ty3.1 ty3.2.1 ty3.2.2)
theorem z_S_firstSeen_0 {l : Launch} {D : va_G} {dA : Nat → ClassId} {ad : Nat → Nat} {sh : List zSE}  (hr : zRo sh)  {x1 : Int32} {μ : zI} {ν : zJ} {out : (Int32 × zI × zJ)} (hF : e_S_firstSeen_0   x1 μ ν = some out) : Z l D dA ad sh m_S_firstSeen (zR 6 0 0) (zS ad) (zOi out) 0 0 0 0 [] 0 [(0, .ref (ad 0)), (1, .int x1)] [] μ ν := by
  unfold e_S_firstSeen_0 at hF
  refine z_aload_n d_S_firstSeen_0 0 rfl rfl ?_
  refine z_iload_n d_S_firstSeen_1 1 rfl rfl ?_
  obtain ⟨ty1, hty1, hF⟩ := zh_bind hF
  refine z_callV d_S_firstSeen_2 (c_S_mayTry hr hty1) mv_S_mayTry l_S_250 (fun _ _ h => h) (hr 0 _ rfl) rfl rfl ⟨Nat.le_of_ble_eq_true rfl, Nat.le_of_ble_eq_true rfl⟩ ⟨Nat.le_of_ble_eq_true rfl, Nat.le_of_ble_eq_true rfl⟩ rfl (Nat.le_of_ble_eq_true rfl) (fun r μ' ν' hq => ?_)
  obtain ⟨rfl, rfl, rfl⟩ := hq
  show Z _ _ _ _ _ _ _ _ _ _ _ 0 0 _ _ _ [.int ty1.1] _ _
  refine z_if_eq d_S_firstSeen_5 (tgt := 17) (by decide) (fun cy2 => ?_) (fun cy2 => ?_)
  · replace hF := zh_t cy2 hF
    refine z_iconst d_S_firstSeen_17 (v := (-1)) (by decide) ?_
    exact z_S_firstSeen_18 hr  hF
  · replace hF := zh_f cy2 hF
    refine z_aload_n d_S_firstSeen_8 0 rfl rfl ?_
    refine z_iload_n d_S_firstSeen_9 1 rfl rfl ?_
    refine z_iconst d_S_firstSeen_10 (v := 0) (by decide) ?_
    obtain ⟨ty3, hty3, hF⟩ := zh_bind hF
    refine z_callV d_S_firstSeen_11 (c_S_firstTick hr hty3) mv_S_firstTick l_S_274 (fun _ _ h => h) (hr 0 _ rfl) rfl rfl ⟨Nat.le_of_ble_eq_true rfl, Nat.le_of_ble_eq_true rfl⟩ ⟨Nat.le_of_ble_eq_true rfl, Nat.le_of_ble_eq_true rfl⟩ rfl (Nat.le_of_ble_eq_true rfl) (fun r μ' ν' hq => ?_)
    obtain ⟨rfl, rfl, rfl⟩ := hq
    show Z _ _ _ _ _ _ _ _ _ _ _ 0 0 _ _ _ [.int ty3.1] _ _
    refine z_goto d_S_firstSeen_14 (tgt := 18) (by decide) ?_
    exact z_S_firstSeen_18 hr  hF
def E_S_firstSeen  (x1 : Int32) (μ : zI) (ν : zJ) : Option (Int32 × zI × zJ) := e_S_firstSeen_0 x1 μ ν
theorem c_S_firstSeen {l : Launch} {D : va_G} {dA : Nat → ClassId} {ad : Nat → Nat} {sh : List zSE} {μ : zI} {ν : zJ} {x1 : Int32} (hr : zRo sh) {out : (Int32 × zI × zJ)} (hE : E_S_firstSeen x1 μ ν = some out) : zC l D dA ad sh m_S_firstSeen 6 0 0 [.ref (ad 0), .int x1] μ ν (zOi out) :=
  zC.of (by decide) (Nat.le_of_ble_eq_true rfl) (z_S_firstSeen_0 hr hE)
def e_S_firstFloat_18   (x1 : Int32) (s0 : Int32) (μ : zI) (ν : zJ) : Option (Int32 × zI × zJ) := some (s0, μ, ν)
theorem z_S_firstFloat_18 {l : Launch} {D : va_G} {dA : Nat → ClassId} {ad : Nat → Nat} {sh : List zSE}  (hr : zRo sh)  {x1 : Int32} {s0 : Int32} {μ : zI} {ν : zJ} {out : (Int32 × zI × zJ)} (hF : e_S_firstFloat_18   x1 s0 μ ν = some out) : Z l D dA ad sh m_S_firstFloat (zR 6 0 0) (zS ad) (zOi out) 0 0 0 0 [] 18 [(0, .ref (ad 0)), (1, .int x1)] [.int s0] μ ν := by
  unfold e_S_firstFloat_18 at hF
  cases hF
  exact z_ireturn d_S_firstFloat_18 rfl rfl ⟨rfl, rfl, rfl⟩
def e_S_firstFloat_0   (x1 : Int32) (μ : zI) (ν : zJ) : Option (Int32 × zI × zJ) := Option.bind (E_S_mayTry x1 μ ν) fun ty1 => (if ty1.1 = 0 then e_S_firstFloat_18 x1 (-1) ty1.2.1 ty1.2.2 else Option.bind (E_S_firstTick x1 1 ty1.2.1 ty1.2.2) fun ty3 => e_S_firstFloat_18 x1 ty3.1 ty3.2.1 ty3.2.2)
theorem z_S_firstFloat_0 {l : Launch} {D : va_G} {dA : Nat → ClassId} {ad : Nat → Nat} {sh : List zSE}  (hr : zRo sh)  {x1 : Int32} {μ : zI} {ν : zJ} {out : (Int32 × zI × zJ)} (hF : e_S_firstFloat_0   x1 μ ν = some out) : Z l D dA ad sh m_S_firstFloat (zR 6 0 0) (zS ad) (zOi out) 0 0 0 0 [] 0 [(0, .ref (ad 0)), (1, .int x1)] [] μ ν := by
  unfold e_S_firstFloat_0 at hF
  refine z_aload_n d_S_firstFloat_0 0 rfl rfl ?_
  refine z_iload_n d_S_firstFloat_1 1 rfl rfl ?_
  obtain ⟨ty1, hty1, hF⟩ := zh_bind hF
  refine z_callV d_S_firstFloat_2 (c_S_mayTry hr hty1) mv_S_mayTry l_S_250 (fun _ _ h => h) (hr 0 _ rfl) rfl rfl ⟨Nat.le_of_ble_eq_true rfl, Nat.le_of_ble_eq_true rfl⟩ ⟨Nat.le_of_ble_eq_true rfl, Nat.le_of_ble_eq_true rfl⟩ rfl (Nat.le_of_ble_eq_true rfl) (fun r μ' ν' hq => ?_)
  obtain ⟨rfl, rfl, rfl⟩ := hq
  show Z _ _ _ _ _ _ _ _ _ _ _ 0 0 _ _ _ [.int ty1.1] _ _
  refine z_if_eq d_S_firstFloat_5 (tgt := 17) (by decide) (fun cy2 => ?_) (fun cy2 => ?_)
  · replace hF := zh_t cy2 hF
    refine z_iconst d_S_firstFloat_17 (v := (-1)) (by decide) ?_
    exact z_S_firstFloat_18 hr  hF
  · replace hF := zh_f cy2 hF
    refine z_aload_n d_S_firstFloat_8 0 rfl rfl ?_
    refine z_iload_n d_S_firstFloat_9 1 rfl rfl ?_
    refine z_iconst d_S_firstFloat_10 (v := 1) (by decide) ?_
    obtain ⟨ty3, hty3, hF⟩ := zh_bind hF
    refine z_callV d_S_firstFloat_11 (c_S_firstTick hr hty3) mv_S_firstTick l_S_274 (fun _ _ h => h) (hr 0 _ rfl) rfl rfl ⟨Nat.le_of_ble_eq_true rfl, Nat.le_of_ble_eq_true rfl⟩ ⟨Nat.le_of_ble_eq_true rfl, Nat.le_of_ble_eq_true rfl⟩ rfl (Nat.le_of_ble_eq_true rfl) (fun r μ' ν' hq => ?_)
    obtain ⟨rfl, rfl, rfl⟩ := hq
    show Z _ _ _ _ _ _ _ _ _ _ _ 0 0 _ _ _ [.int ty3.1] _ _
    refine z_goto d_S_firstFloat_14 (tgt := 18) (by decide) ?_
    exact z_S_firstFloat_18 hr  hF
def E_S_firstFloat  (x1 : Int32) (μ : zI) (ν : zJ) : Option (Int32 × zI × zJ) := e_S_firstFloat_0 x1 μ ν
theorem c_S_firstFloat {l : Launch} {D : va_G} {dA : Nat → ClassId} {ad : Nat → Nat} {sh : List zSE} {μ : zI} {ν : zJ} {x1 : Int32} (hr : zRo sh) {out : (Int32 × zI × zJ)} (hE : E_S_firstFloat x1 μ ν = some out) : zC l D dA ad sh m_S_firstFloat 6 0 0 [.ref (ad 0), .int x1] μ ν (zOi out) :=
  zC.of (by decide) (Nat.le_of_ble_eq_true rfl) (z_S_firstFloat_0 hr hE)
def f_S_leastPush_19   : Nat → Int32 → Int32 → zI → zJ → Option (Int32 × zI × zJ)
  | 0, _, _, _, _ => none
  | n + 1, x1, x2, μ, ν => Option.bind (E_Told_mostOf 9 μ ν) fun ty1 => (if ty1.1 < x2 then some ((-2), ty1.2.1, ty1.2.2) else Option.bind (E_Inverter_firstAlone 4 (ty1.2.1 (4 + 13) 2) x2 x1 ty1.2.1 ty1.2.2) fun ty3 => (if ty3.1 = (-2) then (f_S_leastPush_19  n) x1 (x2 + 1) ty3.2.1 ty3.2.2 else some (x2, ty3.2.1, ty3.2.2)))
theorem z_S_leastPush_19 {l : Launch} {D : va_G} {dA : Nat → ClassId} {ad : Nat → Nat} {sh : List zSE}  (hr : zRo sh)  {out : (Int32 × zI × zJ)} : ∀ (n : Nat) (x1 : Int32) (x2 : Int32) (μ : zI) (ν : zJ), f_S_leastPush_19   n x1 x2 μ ν = some out → Z l D dA ad sh m_S_leastPush (zR 3 0 0) (zS ad) (zOi out) 0 0 0 0 [] 19 [(0, .ref (ad 0)), (1, .int x1), (2, .int x2)] [] μ ν := by
  intro n
  induction n with
  | zero => intro x1 x2 μ ν hF; cases hF
  | succ n ih =>
    intro x1 x2 μ ν hF
    dsimp only [f_S_leastPush_19] at hF
    refine z_iload_n d_S_leastPush_19 2 rfl rfl ?_
    refine z_bipush d_S_leastPush_20 (v := 9) (by decide) ?_
    obtain ⟨ty1, hty1, hF⟩ := zh_bind hF
    refine z_callS d_S_leastPush_22 (c_Told_mostOf  hty1) ms_Told_mostOf l_S_280 (fun _ _ h => h) rfl ⟨Nat.le_of_ble_eq_true rfl, Nat.le_of_ble_eq_true rfl⟩ ⟨Nat.le_of_ble_eq_true rfl, Nat.le_of_ble_eq_true rfl⟩ rfl (Nat.le_of_ble_eq_true rfl) (fun r μ' ν' hq => ?_)
    obtain ⟨rfl, rfl, rfl⟩ := hq
    show Z _ _ _ _ _ _ _ _ _ _ _ 0 0 _ _ _ [.int ty1.1, .int x2] _ _
    refine z_icmp_gt d_S_leastPush_25 (tgt := 70) (by decide) (fun cy2 => ?_) (fun cy2 => ?_)
    · replace hF := zh_t cy2 hF
      refine z_bipush d_S_leastPush_70 (v := (-2)) (by decide) ?_
      cases hF
      exact z_ireturn d_S_leastPush_72 rfl rfl ⟨rfl, rfl, rfl⟩
    · replace hF := zh_f cy2 hF
      refine z_aload_n d_S_leastPush_28 0 rfl rfl ?_
      refine z_getr d_S_leastPush_29 (q := 4) f_S_28 (hr 0 _ rfl) rfl ?_
      refine z_getr d_S_leastPush_32 (q := (4 + 13)) f_S_117 ((zRo_4 hr) 0 _ rfl) rfl ?_
      refine z_aload_n d_S_leastPush_35 0 rfl rfl ?_
      refine z_getr d_S_leastPush_36 (q := 4) f_S_28 (hr 0 _ rfl) rfl ?_
      refine z_getr d_S_leastPush_39 (q := (4 + 13)) f_S_117 ((zRo_4 hr) 0 _ rfl) rfl ?_
      refine z_get d_S_leastPush_42 f_S_128 ((zRo_4 hr) 13 _ rfl) rfl ?_
      refine z_iload_n d_S_leastPush_45 2 rfl rfl ?_
      refine z_iload_n d_S_leastPush_46 1 rfl rfl ?_
      refine z_aload_n d_S_leastPush_47 0 rfl rfl ?_
      refine z_getr d_S_leastPush_48 (q := 4) f_S_28 (hr 0 _ rfl) rfl ?_
      refine z_getr d_S_leastPush_51 (q := (4 + 1)) f_S_143 ((zRo_4 hr) 0 _ rfl) rfl ?_
      obtain ⟨ty3, hty3, hF⟩ := zh_bind hF
      refine z_callV d_S_leastPush_54 (c_Inverter_firstAlone (zRo_4 hr) hty3) mv_Inverter_firstAlone l_S_283 (fun _ _ h => h) ((zRo_4 hr) 13 _ rfl) rfl rfl ⟨Nat.le_of_ble_eq_true rfl, Nat.le_of_ble_eq_true rfl⟩ ⟨Nat.le_of_ble_eq_true rfl, Nat.le_of_ble_eq_true rfl⟩ rfl (Nat.le_of_ble_eq_true rfl) (fun r μ' ν' hq => ?_)
      obtain ⟨rfl, rfl, rfl⟩ := hq
      show Z _ _ _ _ _ _ _ _ _ _ _ 0 0 _ _ _ [.int ty3.1] _ _
      refine z_bipush d_S_leastPush_57 (v := (-2)) (by decide) ?_
      refine z_icmp_eq d_S_leastPush_59 (tgt := 64) (by decide) (fun cy4 => ?_) (fun cy4 => ?_)
      · replace hF := zh_t cy4 hF
        refine z_iinc d_S_leastPush_64 (k := 2) (v := (x2 + 1)) rfl rfl (by decide) (L2 := [(2, .int (x2 + 1)), (0, .ref (ad 0)), (1, .int x1)]) rfl ?_
        refine z_goto d_S_leastPush_67 (tgt := 19) (by decide) ?_
        refine z_sub [1, 2, 0] (L' := [(0, .ref (ad 0)), (1, .int x1), (2, .int (x2 + 1))]) rfl ?_
        exact ih _ _ _ _ hF
      · replace hF := zh_f cy4 hF
        refine z_iload_n d_S_leastPush_62 2 rfl rfl ?_
        cases hF
        exact z_ireturn d_S_leastPush_63 rfl rfl ⟨rfl, rfl, rfl⟩
def e_S_leastPush_0   (x1 : Int32) (μ : zI) (ν : zJ) : Option (Int32 × zI × zJ) := Option.bind (E_S_isWithin x1 1 200 μ ν) fun ty1 => (if ty1.1 = 0 then some ((-1), ty1.2.1, ty1.2.2) else Option.bind (E_Told_leastOf 9 ty1.2.1 ty1.2.2) fun ty3 => zlet (α := Int32) ty3.1 fun y4 => f_S_leastPush_19 zFuel x1 y4 ty3.2.1 ty3.2.2)
theorem z_S_leastPush_0 {l : Launch} {D : va_G} {dA : Nat → ClassId} {ad : Nat → Nat} {sh : List zSE}  (hr : zRo sh)  {x1 : Int32} {μ : zI} {ν : zJ} {out : (Int32 × zI × zJ)} (hF : e_S_leastPush_0   x1 μ ν = some out) : Z l D dA ad sh m_S_leastPush (zR 3 0 0) (zS ad) (zOi out) 0 0 0 0 [] 0 [(0, .ref (ad 0)), (1, .int x1)] [] μ ν := by
  unfold e_S_leastPush_0 at hF
  refine z_iload_n d_S_leastPush_0 1 rfl rfl ?_
  refine z_iconst d_S_leastPush_1 (v := 1) (by decide) ?_
  refine z_sipush d_S_leastPush_2 (v := 200) (by decide) ?_
  obtain ⟨ty1, hty1, hF⟩ := zh_bind hF
  refine z_callS d_S_leastPush_5 (c_S_isWithin  hty1) ms_S_isWithin l_S_54 (fun _ _ h => h) rfl ⟨Nat.le_of_ble_eq_true rfl, Nat.le_of_ble_eq_true rfl⟩ ⟨Nat.le_of_ble_eq_true rfl, Nat.le_of_ble_eq_true rfl⟩ rfl (Nat.le_of_ble_eq_true rfl) (fun r μ' ν' hq => ?_)
  obtain ⟨rfl, rfl, rfl⟩ := hq
  show Z _ _ _ _ _ _ _ _ _ _ _ 0 0 _ _ _ [.int ty1.1] _ _
  refine z_if_ne d_S_leastPush_8 (tgt := 13) (by decide) (fun cy2 => ?_) (fun cy2 => ?_)
  · replace hF := zh_f cy2 hF
    refine z_bipush d_S_leastPush_13 (v := 9) (by decide) ?_
    obtain ⟨ty3, hty3, hF⟩ := zh_bind hF
    refine z_callS d_S_leastPush_15 (c_Told_leastOf  hty3) ms_Told_leastOf l_S_277 (fun _ _ h => h) rfl ⟨Nat.le_of_ble_eq_true rfl, Nat.le_of_ble_eq_true rfl⟩ ⟨Nat.le_of_ble_eq_true rfl, Nat.le_of_ble_eq_true rfl⟩ rfl (Nat.le_of_ble_eq_true rfl) (fun r μ' ν' hq => ?_)
    obtain ⟨rfl, rfl, rfl⟩ := hq
    show Z _ _ _ _ _ _ _ _ _ _ _ 0 0 _ _ _ [.int ty3.1] _ _
    obtain ⟨y4, hy4, hF⟩ := zh_let hF
    refine z_eqi hy4 ?_
    refine z_istore_n d_S_leastPush_18 rfl (by decide) (L2 := [(2, .int y4), (0, .ref (ad 0)), (1, .int x1)]) rfl ?_
    refine z_sub [1, 2, 0] (L' := [(0, .ref (ad 0)), (1, .int x1), (2, .int y4)]) rfl ?_
    exact z_S_leastPush_19 hr  zFuel _ _ _ _ hF
  · replace hF := zh_t cy2 hF
    refine z_iconst d_S_leastPush_11 (v := (-1)) (by decide) ?_
    cases hF
    exact z_ireturn d_S_leastPush_12 rfl rfl ⟨rfl, rfl, rfl⟩
def E_S_leastPush  (x1 : Int32) (μ : zI) (ν : zJ) : Option (Int32 × zI × zJ) := e_S_leastPush_0 x1 μ ν
theorem c_S_leastPush {l : Launch} {D : va_G} {dA : Nat → ClassId} {ad : Nat → Nat} {sh : List zSE} {μ : zI} {ν : zJ} {x1 : Int32} (hr : zRo sh) {out : (Int32 × zI × zJ)} (hE : E_S_leastPush x1 μ ν = some out) : zC l D dA ad sh m_S_leastPush 3 0 0 [.ref (ad 0), .int x1] μ ν (zOi out) :=
  zC.of (by decide) (Nat.le_of_ble_eq_true rfl) (z_S_leastPush_0 hr hE)
def e_S_bestStep_89  (r19 : Int32 → Int32 → Int64 → Int32 → zI → zJ → Option (Int32 × zI × zJ)) (x1 : Int32) (x2 : Int32) (w3 : Int64) (x5 : Int32) (μ : zI) (ν : zJ) : Option (Int32 × zI × zJ) := zlet (α := Int32) (x5 * 2) fun y1 => r19 x1 x2 w3 y1 μ ν
theorem z_S_bestStep_89 {l : Launch} {D : va_G} {dA : Nat → ClassId} {ad : Nat → Nat} {sh : List zSE}  (hr : zRo sh) {r19 : Int32 → Int32 → Int64 → Int32 → zI → zJ → Option (Int32 × zI × zJ)} {x1 : Int32} {x2 : Int32} {w3 : Int64} {x5 : Int32} {μ : zI} {ν : zJ} {out : (Int32 × zI × zJ)} (hr19 : ∀ (x1 : Int32) (x2 : Int32) (w3 : Int64) (x5 : Int32) (μ : zI) (ν : zJ), r19 x1 x2 w3 x5 μ ν = some out → Z l D dA ad sh m_S_bestStep (zR 6 0 0) (zS ad) (zOi out) 0 0 0 0 [] 19 [(0, .ref (ad 0)), (1, .int x1), (2, .int x2), (3, .long w3), (5, .int x5)] [] μ ν) (hF : e_S_bestStep_89  r19 x1 x2 w3 x5 μ ν = some out) : Z l D dA ad sh m_S_bestStep (zR 6 0 0) (zS ad) (zOi out) 0 0 0 0 [] 89 [(0, .ref (ad 0)), (1, .int x1), (2, .int x2), (3, .long w3), (5, .int x5)] [] μ ν := by
  unfold e_S_bestStep_89 at hF
  refine z_iload d_S_bestStep_89 4 rfl ?_
  refine z_iconst d_S_bestStep_91 (v := 2) (by decide) ?_
  refine z_imul d_S_bestStep_92 ?_
  obtain ⟨y1, hy1, hF⟩ := zh_let hF
  refine z_eqi hy1 ?_
  refine z_istore d_S_bestStep_93 (by decide) (L2 := [(5, .int y1), (0, .ref (ad 0)), (1, .int x1), (2, .int x2), (3, .long w3)]) rfl ?_
  refine z_goto d_S_bestStep_95 (tgt := 19) (by decide) ?_
  refine z_sub [1, 2, 3, 4, 0] (L' := [(0, .ref (ad 0)), (1, .int x1), (2, .int x2), (3, .long w3), (5, .int y1)]) rfl ?_
  exact hr19 _ _ _ _ _ _ hF
def f_S_bestStep_19   : Nat → Int32 → Int32 → Int64 → Int32 → zI → zJ → Option (Int32 × zI × zJ)
  | 0, _, _, _, _, _, _ => none
  | n + 1, x1, x2, w3, x5, μ, ν => (if 64 < x5 then some (x2, μ, ν) else Option.bind (E_S_beginTrial μ ν) fun ty2 => Option.bind (E_Told_put 19 12 x5 ty2.1 ty2.2) fun ty3 => zlet (zu ty3.1 (19 + 11) 2 x5) fun μy4 => Option.bind (E_Station_advanceBy 19 x1 μy4 ty3.2) fun ty5 => Option.bind (E_Station_sumOf 19 0 ty5.1 ty5.2) fun ty6 => (if (lg_cmp ty6.1 w3) ≤ 0 then e_S_bestStep_89 (f_S_bestStep_19  n) x1 x2 w3 x5 ty6.2.1 ty6.2.2 else Option.bind (E_Station_sumOf 19 0 ty6.2.1 ty6.2.2) fun ty8 => zlet (α := Int64) ty8.1 fun y9 => e_S_bestStep_89 (f_S_bestStep_19  n) x1 x5 y9 x5 ty8.2.1 ty8.2.2))
theorem z_S_bestStep_19 {l : Launch} {D : va_G} {dA : Nat → ClassId} {ad : Nat → Nat} {sh : List zSE}  (hr : zRo sh)  {out : (Int32 × zI × zJ)} : ∀ (n : Nat) (x1 : Int32) (x2 : Int32) (w3 : Int64) (x5 : Int32) (μ : zI) (ν : zJ), f_S_bestStep_19   n x1 x2 w3 x5 μ ν = some out → Z l D dA ad sh m_S_bestStep (zR 6 0 0) (zS ad) (zOi out) 0 0 0 0 [] 19 [(0, .ref (ad 0)), (1, .int x1), (2, .int x2), (3, .long w3), (5, .int x5)] [] μ ν := by
  intro n
  induction n with
  | zero => intro x1 x2 w3 x5 μ ν hF; cases hF
  | succ n ih =>
    intro x1 x2 w3 x5 μ ν hF
    dsimp only [f_S_bestStep_19] at hF
    refine z_iload d_S_bestStep_19 4 rfl ?_
    refine z_bipush d_S_bestStep_21 (v := 64) (by decide) ?_
    refine z_icmp_gt d_S_bestStep_23 (tgt := 98) (by decide) (fun cy1 => ?_) (fun cy1 => ?_)
    · replace hF := zh_t cy1 hF
      refine z_iload_n d_S_bestStep_98 2 rfl rfl ?_
      cases hF
      exact z_ireturn d_S_bestStep_99 rfl rfl ⟨rfl, rfl, rfl⟩
    · replace hF := zh_f cy1 hF
      refine z_aload_n d_S_bestStep_26 0 rfl rfl ?_
      obtain ⟨ty2, hty2, hF⟩ := zh_bind hF
      refine z_callV d_S_bestStep_27 (c_S_beginTrial hr hty2) mv_S_beginTrial l_S_253 (fun _ _ h => h) (hr 0 _ rfl) rfl rfl ⟨Nat.le_of_ble_eq_true rfl, Nat.le_of_ble_eq_true rfl⟩ ⟨Nat.le_of_ble_eq_true rfl, Nat.le_of_ble_eq_true rfl⟩ rfl (Nat.le_of_ble_eq_true rfl) (fun r μ' ν' hq => ?_)
      obtain ⟨rfl, rfl, rfl⟩ := hq
      show Z _ _ _ _ _ _ _ _ _ _ _ 0 0 _ _ _ [] _ _
      refine z_aload_n d_S_bestStep_30 0 rfl rfl ?_
      refine z_getr d_S_bestStep_31 (q := 19) f_S_32 (hr 0 _ rfl) rfl ?_
      refine z_getr d_S_bestStep_34 (q := (19 + 1)) f_S_143 ((zRo_19 hr) 0 _ rfl) rfl ?_
      refine z_bipush d_S_bestStep_37 (v := 12) (by decide) ?_
      refine z_iload d_S_bestStep_39 4 rfl ?_
      obtain ⟨ty3, hty3, hF⟩ := zh_bind hF
      refine z_callV d_S_bestStep_41 (c_Told_put (zRo_19 hr) hty3) mv_Told_put l_S_154 (fun _ _ h => h) ((zRo_19 hr) 1 _ rfl) rfl rfl ⟨Nat.le_of_ble_eq_true rfl, Nat.le_of_ble_eq_true rfl⟩ ⟨Nat.le_of_ble_eq_true rfl, Nat.le_of_ble_eq_true rfl⟩ rfl (Nat.le_of_ble_eq_true rfl) (fun r μ' ν' hq => ?_)
      obtain ⟨rfl, rfl, rfl⟩ := hq
      show Z _ _ _ _ _ _ _ _ _ _ _ 0 0 _ _ _ [] _ _
      refine z_aload_n d_S_bestStep_44 0 rfl rfl ?_
      refine z_getr d_S_bestStep_45 (q := 19) f_S_32 (hr 0 _ rfl) rfl ?_
      refine z_getr d_S_bestStep_48 (q := (19 + 11)) f_S_88 ((zRo_19 hr) 0 _ rfl) rfl ?_
      refine z_iload d_S_bestStep_51 4 rfl ?_
      refine z_put d_S_bestStep_53 f_S_287 ((zRo_19 hr) 11 _ rfl) rfl (CL_fin _ _ (fun q hq => by cases hq; rfl)) rfl rfl ?_
      obtain ⟨μy4, hy4, hF⟩ := zh_let hF
      refine z_eqm hy4 ?_
      refine z_aload_n d_S_bestStep_56 0 rfl rfl ?_
      refine z_getr d_S_bestStep_57 (q := 19) f_S_32 (hr 0 _ rfl) rfl ?_
      refine z_iload_n d_S_bestStep_60 1 rfl rfl ?_
      obtain ⟨ty5, hty5, hF⟩ := zh_bind hF
      refine z_callV d_S_bestStep_61 (c_Station_advanceBy (zRo_19 hr) hty5) mv_Station_advanceBy l_S_256 (fun _ _ h => h) ((zRo_19 hr) 0 _ rfl) rfl rfl ⟨Nat.le_of_ble_eq_true rfl, Nat.le_of_ble_eq_true rfl⟩ ⟨Nat.le_of_ble_eq_true rfl, Nat.le_of_ble_eq_true rfl⟩ rfl (Nat.le_of_ble_eq_true rfl) (fun r μ' ν' hq => ?_)
      obtain ⟨rfl, rfl, rfl⟩ := hq
      show Z _ _ _ _ _ _ _ _ _ _ _ 0 0 _ _ _ [] _ _
      refine z_aload_n d_S_bestStep_64 0 rfl rfl ?_
      refine z_getr d_S_bestStep_65 (q := 19) f_S_32 (hr 0 _ rfl) rfl ?_
      refine z_iconst d_S_bestStep_68 (v := 0) (by decide) ?_
      obtain ⟨ty6, hty6, hF⟩ := zh_bind hF
      refine z_callV d_S_bestStep_69 (c_Station_sumOf (zRo_19 hr) hty6) mv_Station_sumOf l_S_217 (fun _ _ h => h) ((zRo_19 hr) 0 _ rfl) rfl rfl ⟨Nat.le_of_ble_eq_true rfl, Nat.le_of_ble_eq_true rfl⟩ ⟨Nat.le_of_ble_eq_true rfl, Nat.le_of_ble_eq_true rfl⟩ rfl (Nat.le_of_ble_eq_true rfl) (fun r μ' ν' hq => ?_)
      obtain ⟨rfl, rfl, rfl⟩ := hq
      show Z _ _ _ _ _ _ _ _ _ _ _ 0 0 _ _ _ [.long ty6.1] _ _
      refine z_lload_n d_S_bestStep_72 3 rfl rfl ?_
      refine z_lcmp d_S_bestStep_73 ?_
      refine z_if_le d_S_bestStep_74 (tgt := 89) (by decide) (fun cy7 => ?_) (fun cy7 => ?_)
      · replace hF := zh_t cy7 hF
        exact z_S_bestStep_89 hr (fun a0 a1 a2 a3 a4 a5 => ih a0 a1 a2 a3 a4 a5) hF
      · replace hF := zh_f cy7 hF
        refine z_aload_n d_S_bestStep_77 0 rfl rfl ?_
        refine z_getr d_S_bestStep_78 (q := 19) f_S_32 (hr 0 _ rfl) rfl ?_
        refine z_iconst d_S_bestStep_81 (v := 0) (by decide) ?_
        obtain ⟨ty8, hty8, hF⟩ := zh_bind hF
        refine z_callV d_S_bestStep_82 (c_Station_sumOf (zRo_19 hr) hty8) mv_Station_sumOf l_S_217 (fun _ _ h => h) ((zRo_19 hr) 0 _ rfl) rfl rfl ⟨Nat.le_of_ble_eq_true rfl, Nat.le_of_ble_eq_true rfl⟩ ⟨Nat.le_of_ble_eq_true rfl, Nat.le_of_ble_eq_true rfl⟩ rfl (Nat.le_of_ble_eq_true rfl) (fun r μ' ν' hq => ?_)
        obtain ⟨rfl, rfl, rfl⟩ := hq
        show Z _ _ _ _ _ _ _ _ _ _ _ 0 0 _ _ _ [.long ty8.1] _ _
        obtain ⟨y9, hy9, hF⟩ := zh_let hF
        refine z_eql hy9 ?_
        refine z_lstore_n d_S_bestStep_85 rfl (by decide) (L2 := [(3, .long y9), (0, .ref (ad 0)), (1, .int x1), (2, .int x2), (5, .int x5)]) rfl ?_
        refine z_iload d_S_bestStep_86 4 rfl ?_
        refine z_istore_n d_S_bestStep_88 rfl (by decide) (L2 := [(2, .int x5), (3, .long y9), (0, .ref (ad 0)), (1, .int x1), (5, .int x5)]) rfl ?_
        refine z_sub [2, 3, 0, 1, 4] (L' := [(0, .ref (ad 0)), (1, .int x1), (2, .int x5), (3, .long y9), (5, .int x5)]) rfl ?_
        exact z_S_bestStep_89 hr (fun a0 a1 a2 a3 a4 a5 => ih a0 a1 a2 a3 a4 a5) hF
def e_S_bestStep_0   (x1 : Int32) (μ : zI) (ν : zJ) : Option (Int32 × zI × zJ) := Option.bind (E_S_mayTry x1 μ ν) fun ty1 => (if ty1.1 = 0 then some ((-1), ty1.2.1, ty1.2.2) else f_S_bestStep_19 zFuel x1 (-1) (-1) 1 ty1.2.1 ty1.2.2)
theorem z_S_bestStep_0 {l : Launch} {D : va_G} {dA : Nat → ClassId} {ad : Nat → Nat} {sh : List zSE}  (hr : zRo sh)  {x1 : Int32} {μ : zI} {ν : zJ} {out : (Int32 × zI × zJ)} (hF : e_S_bestStep_0   x1 μ ν = some out) : Z l D dA ad sh m_S_bestStep (zR 6 0 0) (zS ad) (zOi out) 0 0 0 0 [] 0 [(0, .ref (ad 0)), (1, .int x1)] [] μ ν := by
  unfold e_S_bestStep_0 at hF
  refine z_aload_n d_S_bestStep_0 0 rfl rfl ?_
  refine z_iload_n d_S_bestStep_1 1 rfl rfl ?_
  obtain ⟨ty1, hty1, hF⟩ := zh_bind hF
  refine z_callV d_S_bestStep_2 (c_S_mayTry hr hty1) mv_S_mayTry l_S_250 (fun _ _ h => h) (hr 0 _ rfl) rfl rfl ⟨Nat.le_of_ble_eq_true rfl, Nat.le_of_ble_eq_true rfl⟩ ⟨Nat.le_of_ble_eq_true rfl, Nat.le_of_ble_eq_true rfl⟩ rfl (Nat.le_of_ble_eq_true rfl) (fun r μ' ν' hq => ?_)
  obtain ⟨rfl, rfl, rfl⟩ := hq
  show Z _ _ _ _ _ _ _ _ _ _ _ 0 0 _ _ _ [.int ty1.1] _ _
  refine z_if_ne d_S_bestStep_5 (tgt := 10) (by decide) (fun cy2 => ?_) (fun cy2 => ?_)
  · replace hF := zh_f cy2 hF
    refine z_iconst d_S_bestStep_10 (v := (-1)) (by decide) ?_
    refine z_istore_n d_S_bestStep_11 rfl (by decide) (L2 := [(2, .int (-1)), (0, .ref (ad 0)), (1, .int x1)]) rfl ?_
    refine z_ldc2 d_S_bestStep_12 k_S_221 ?_
    refine z_lstore_n d_S_bestStep_15 rfl (by decide) (L2 := [(3, .long (-1)), (2, .int (-1)), (0, .ref (ad 0)), (1, .int x1)]) rfl ?_
    refine z_iconst d_S_bestStep_16 (v := 1) (by decide) ?_
    refine z_istore d_S_bestStep_17 (by decide) (L2 := [(5, .int 1), (3, .long (-1)), (2, .int (-1)), (0, .ref (ad 0)), (1, .int x1)]) rfl ?_
    refine z_sub [3, 4, 2, 1, 0] (L' := [(0, .ref (ad 0)), (1, .int x1), (2, .int (-1)), (3, .long (-1)), (5, .int 1)]) rfl ?_
    exact z_S_bestStep_19 hr  zFuel _ _ _ _ _ _ hF
  · replace hF := zh_t cy2 hF
    refine z_iconst d_S_bestStep_8 (v := (-1)) (by decide) ?_
    cases hF
    exact z_ireturn d_S_bestStep_9 rfl rfl ⟨rfl, rfl, rfl⟩
def E_S_bestStep  (x1 : Int32) (μ : zI) (ν : zJ) : Option (Int32 × zI × zJ) := e_S_bestStep_0 x1 μ ν
theorem c_S_bestStep {l : Launch} {D : va_G} {dA : Nat → ClassId} {ad : Nat → Nat} {sh : List zSE} {μ : zI} {ν : zJ} {x1 : Int32} (hr : zRo sh) {out : (Int32 × zI × zJ)} (hE : E_S_bestStep x1 μ ν = some out) : zC l D dA ad sh m_S_bestStep 6 0 0 [.ref (ad 0), .int x1] μ ν (zOi out) :=
  zC.of (by decide) (Nat.le_of_ble_eq_true rfl) (z_S_bestStep_0 hr hE)
def e_S_bestWay_84  (r23 : Int32 → Int32 → Int64 → Int32 → zI → zJ → Option (Int32 × zI × zJ)) (x1 : Int32) (x2 : Int32) (w3 : Int64) (x5 : Int32) (μ : zI) (ν : zJ) : Option (Int32 × zI × zJ) := r23 x1 x2 w3 (x5 + 1) μ ν
theorem z_S_bestWay_84 {l : Launch} {D : va_G} {dA : Nat → ClassId} {ad : Nat → Nat} {sh : List zSE}  (hr : zRo sh) {r23 : Int32 → Int32 → Int64 → Int32 → zI → zJ → Option (Int32 × zI × zJ)} {x1 : Int32} {x2 : Int32} {w3 : Int64} {x5 : Int32} {μ : zI} {ν : zJ} {out : (Int32 × zI × zJ)} (hr23 : ∀ (x1 : Int32) (x2 : Int32) (w3 : Int64) (x5 : Int32) (μ : zI) (ν : zJ), r23 x1 x2 w3 x5 μ ν = some out → Z l D dA ad sh m_S_bestWay (zR 6 0 0) (zS ad) (zOi out) 0 0 0 0 [] 23 [(0, .ref (ad 0)), (1, .int x1), (2, .int x2), (3, .long w3), (5, .int x5)] [] μ ν) (hF : e_S_bestWay_84  r23 x1 x2 w3 x5 μ ν = some out) : Z l D dA ad sh m_S_bestWay (zR 6 0 0) (zS ad) (zOi out) 0 0 0 0 [] 84 [(0, .ref (ad 0)), (1, .int x1), (2, .int x2), (3, .long w3), (5, .int x5)] [] μ ν := by
  unfold e_S_bestWay_84 at hF
  refine z_iinc d_S_bestWay_84 (k := 4) (v := (x5 + 1)) rfl rfl (by decide) (L2 := [(5, .int (x5 + 1)), (0, .ref (ad 0)), (1, .int x1), (2, .int x2), (3, .long w3)]) rfl ?_
  refine z_goto d_S_bestWay_87 (tgt := 23) (by decide) ?_
  refine z_sub [1, 2, 3, 4, 0] (L' := [(0, .ref (ad 0)), (1, .int x1), (2, .int x2), (3, .long w3), (5, .int (x5 + 1))]) rfl ?_
  exact hr23 _ _ _ _ _ _ hF
def f_S_bestWay_23   : Nat → Int32 → Int32 → Int64 → Int32 → zI → zJ → Option (Int32 × zI × zJ)
  | 0, _, _, _, _, _, _ => none
  | n + 1, x1, x2, w3, x5, μ, ν => Option.bind (E_Told_mostOf 17 μ ν) fun ty1 => (if ty1.1 < x5 then some (x2, ty1.2.1, ty1.2.2) else Option.bind (E_S_beginTrial ty1.2.1 ty1.2.2) fun ty3 => Option.bind (E_Told_put 19 17 x5 ty3.1 ty3.2) fun ty4 => Option.bind (E_Station_advanceBy 19 x1 ty4.1 ty4.2) fun ty5 => Option.bind (E_Station_sumOf 19 0 ty5.1 ty5.2) fun ty6 => (if (lg_cmp ty6.1 w3) ≤ 0 then e_S_bestWay_84 (f_S_bestWay_23  n) x1 x2 w3 x5 ty6.2.1 ty6.2.2 else Option.bind (E_Station_sumOf 19 0 ty6.2.1 ty6.2.2) fun ty8 => zlet (α := Int64) ty8.1 fun y9 => e_S_bestWay_84 (f_S_bestWay_23  n) x1 x5 y9 x5 ty8.2.1 ty8.2.2))
theorem z_S_bestWay_23 {l : Launch} {D : va_G} {dA : Nat → ClassId} {ad : Nat → Nat} {sh : List zSE}  (hr : zRo sh)  {out : (Int32 × zI × zJ)} : ∀ (n : Nat) (x1 : Int32) (x2 : Int32) (w3 : Int64) (x5 : Int32) (μ : zI) (ν : zJ), f_S_bestWay_23   n x1 x2 w3 x5 μ ν = some out → Z l D dA ad sh m_S_bestWay (zR 6 0 0) (zS ad) (zOi out) 0 0 0 0 [] 23 [(0, .ref (ad 0)), (1, .int x1), (2, .int x2), (3, .long w3), (5, .int x5)] [] μ ν := by
  intro n
  induction n with
  | zero => intro x1 x2 w3 x5 μ ν hF; cases hF
  | succ n ih =>
    intro x1 x2 w3 x5 μ ν hF
    dsimp only [f_S_bestWay_23] at hF
    refine z_iload d_S_bestWay_23 4 rfl ?_
    refine z_bipush d_S_bestWay_25 (v := 17) (by decide) ?_
    obtain ⟨ty1, hty1, hF⟩ := zh_bind hF
    refine z_callS d_S_bestWay_27 (c_Told_mostOf  hty1) ms_Told_mostOf l_S_280 (fun _ _ h => h) rfl ⟨Nat.le_of_ble_eq_true rfl, Nat.le_of_ble_eq_true rfl⟩ ⟨Nat.le_of_ble_eq_true rfl, Nat.le_of_ble_eq_true rfl⟩ rfl (Nat.le_of_ble_eq_true rfl) (fun r μ' ν' hq => ?_)
    obtain ⟨rfl, rfl, rfl⟩ := hq
    show Z _ _ _ _ _ _ _ _ _ _ _ 0 0 _ _ _ [.int ty1.1, .int x5] _ _
    refine z_icmp_gt d_S_bestWay_30 (tgt := 90) (by decide) (fun cy2 => ?_) (fun cy2 => ?_)
    · replace hF := zh_t cy2 hF
      refine z_iload_n d_S_bestWay_90 2 rfl rfl ?_
      cases hF
      exact z_ireturn d_S_bestWay_91 rfl rfl ⟨rfl, rfl, rfl⟩
    · replace hF := zh_f cy2 hF
      refine z_aload_n d_S_bestWay_33 0 rfl rfl ?_
      obtain ⟨ty3, hty3, hF⟩ := zh_bind hF
      refine z_callV d_S_bestWay_34 (c_S_beginTrial hr hty3) mv_S_beginTrial l_S_253 (fun _ _ h => h) (hr 0 _ rfl) rfl rfl ⟨Nat.le_of_ble_eq_true rfl, Nat.le_of_ble_eq_true rfl⟩ ⟨Nat.le_of_ble_eq_true rfl, Nat.le_of_ble_eq_true rfl⟩ rfl (Nat.le_of_ble_eq_true rfl) (fun r μ' ν' hq => ?_)
      obtain ⟨rfl, rfl, rfl⟩ := hq
      show Z _ _ _ _ _ _ _ _ _ _ _ 0 0 _ _ _ [] _ _
      refine z_aload_n d_S_bestWay_37 0 rfl rfl ?_
      refine z_getr d_S_bestWay_38 (q := 19) f_S_32 (hr 0 _ rfl) rfl ?_
      refine z_getr d_S_bestWay_41 (q := (19 + 1)) f_S_143 ((zRo_19 hr) 0 _ rfl) rfl ?_
      refine z_bipush d_S_bestWay_44 (v := 17) (by decide) ?_
      refine z_iload d_S_bestWay_46 4 rfl ?_
      obtain ⟨ty4, hty4, hF⟩ := zh_bind hF
      refine z_callV d_S_bestWay_48 (c_Told_put (zRo_19 hr) hty4) mv_Told_put l_S_154 (fun _ _ h => h) ((zRo_19 hr) 1 _ rfl) rfl rfl ⟨Nat.le_of_ble_eq_true rfl, Nat.le_of_ble_eq_true rfl⟩ ⟨Nat.le_of_ble_eq_true rfl, Nat.le_of_ble_eq_true rfl⟩ rfl (Nat.le_of_ble_eq_true rfl) (fun r μ' ν' hq => ?_)
      obtain ⟨rfl, rfl, rfl⟩ := hq
      show Z _ _ _ _ _ _ _ _ _ _ _ 0 0 _ _ _ [] _ _
      refine z_aload_n d_S_bestWay_51 0 rfl rfl ?_
      refine z_getr d_S_bestWay_52 (q := 19) f_S_32 (hr 0 _ rfl) rfl ?_
      refine z_iload_n d_S_bestWay_55 1 rfl rfl ?_
      obtain ⟨ty5, hty5, hF⟩ := zh_bind hF
      refine z_callV d_S_bestWay_56 (c_Station_advanceBy (zRo_19 hr) hty5) mv_Station_advanceBy l_S_256 (fun _ _ h => h) ((zRo_19 hr) 0 _ rfl) rfl rfl ⟨Nat.le_of_ble_eq_true rfl, Nat.le_of_ble_eq_true rfl⟩ ⟨Nat.le_of_ble_eq_true rfl, Nat.le_of_ble_eq_true rfl⟩ rfl (Nat.le_of_ble_eq_true rfl) (fun r μ' ν' hq => ?_)
      obtain ⟨rfl, rfl, rfl⟩ := hq
      show Z _ _ _ _ _ _ _ _ _ _ _ 0 0 _ _ _ [] _ _
      refine z_aload_n d_S_bestWay_59 0 rfl rfl ?_
      refine z_getr d_S_bestWay_60 (q := 19) f_S_32 (hr 0 _ rfl) rfl ?_
      refine z_iconst d_S_bestWay_63 (v := 0) (by decide) ?_
      obtain ⟨ty6, hty6, hF⟩ := zh_bind hF
      refine z_callV d_S_bestWay_64 (c_Station_sumOf (zRo_19 hr) hty6) mv_Station_sumOf l_S_217 (fun _ _ h => h) ((zRo_19 hr) 0 _ rfl) rfl rfl ⟨Nat.le_of_ble_eq_true rfl, Nat.le_of_ble_eq_true rfl⟩ ⟨Nat.le_of_ble_eq_true rfl, Nat.le_of_ble_eq_true rfl⟩ rfl (Nat.le_of_ble_eq_true rfl) (fun r μ' ν' hq => ?_)
      obtain ⟨rfl, rfl, rfl⟩ := hq
      show Z _ _ _ _ _ _ _ _ _ _ _ 0 0 _ _ _ [.long ty6.1] _ _
      refine z_lload_n d_S_bestWay_67 3 rfl rfl ?_
      refine z_lcmp d_S_bestWay_68 ?_
      refine z_if_le d_S_bestWay_69 (tgt := 84) (by decide) (fun cy7 => ?_) (fun cy7 => ?_)
      · replace hF := zh_t cy7 hF
        exact z_S_bestWay_84 hr (fun a0 a1 a2 a3 a4 a5 => ih a0 a1 a2 a3 a4 a5) hF
      · replace hF := zh_f cy7 hF
        refine z_aload_n d_S_bestWay_72 0 rfl rfl ?_
        refine z_getr d_S_bestWay_73 (q := 19) f_S_32 (hr 0 _ rfl) rfl ?_
        refine z_iconst d_S_bestWay_76 (v := 0) (by decide) ?_
        obtain ⟨ty8, hty8, hF⟩ := zh_bind hF
        refine z_callV d_S_bestWay_77 (c_Station_sumOf (zRo_19 hr) hty8) mv_Station_sumOf l_S_217 (fun _ _ h => h) ((zRo_19 hr) 0 _ rfl) rfl rfl ⟨Nat.le_of_ble_eq_true rfl, Nat.le_of_ble_eq_true rfl⟩ ⟨Nat.le_of_ble_eq_true rfl, Nat.le_of_ble_eq_true rfl⟩ rfl (Nat.le_of_ble_eq_true rfl) (fun r μ' ν' hq => ?_)
        obtain ⟨rfl, rfl, rfl⟩ := hq
        show Z _ _ _ _ _ _ _ _ _ _ _ 0 0 _ _ _ [.long ty8.1] _ _
        obtain ⟨y9, hy9, hF⟩ := zh_let hF
        refine z_eql hy9 ?_
        refine z_lstore_n d_S_bestWay_80 rfl (by decide) (L2 := [(3, .long y9), (0, .ref (ad 0)), (1, .int x1), (2, .int x2), (5, .int x5)]) rfl ?_
        refine z_iload d_S_bestWay_81 4 rfl ?_
        refine z_istore_n d_S_bestWay_83 rfl (by decide) (L2 := [(2, .int x5), (3, .long y9), (0, .ref (ad 0)), (1, .int x1), (5, .int x5)]) rfl ?_
        refine z_sub [2, 3, 0, 1, 4] (L' := [(0, .ref (ad 0)), (1, .int x1), (2, .int x5), (3, .long y9), (5, .int x5)]) rfl ?_
        exact z_S_bestWay_84 hr (fun a0 a1 a2 a3 a4 a5 => ih a0 a1 a2 a3 a4 a5) hF
def e_S_bestWay_0   (x1 : Int32) (μ : zI) (ν : zJ) : Option (Int32 × zI × zJ) := Option.bind (E_S_mayTry x1 μ ν) fun ty1 => (if ty1.1 = 0 then some ((-1), ty1.2.1, ty1.2.2) else Option.bind (E_Told_leastOf 17 ty1.2.1 ty1.2.2) fun ty3 => zlet (α := Int32) ty3.1 fun y4 => f_S_bestWay_23 zFuel x1 (-1) (-1) y4 ty3.2.1 ty3.2.2)
theorem z_S_bestWay_0 {l : Launch} {D : va_G} {dA : Nat → ClassId} {ad : Nat → Nat} {sh : List zSE}  (hr : zRo sh)  {x1 : Int32} {μ : zI} {ν : zJ} {out : (Int32 × zI × zJ)} (hF : e_S_bestWay_0   x1 μ ν = some out) : Z l D dA ad sh m_S_bestWay (zR 6 0 0) (zS ad) (zOi out) 0 0 0 0 [] 0 [(0, .ref (ad 0)), (1, .int x1)] [] μ ν := by
  unfold e_S_bestWay_0 at hF
  refine z_aload_n d_S_bestWay_0 0 rfl rfl ?_
  refine z_iload_n d_S_bestWay_1 1 rfl rfl ?_
  obtain ⟨ty1, hty1, hF⟩ := zh_bind hF
  refine z_callV d_S_bestWay_2 (c_S_mayTry hr hty1) mv_S_mayTry l_S_250 (fun _ _ h => h) (hr 0 _ rfl) rfl rfl ⟨Nat.le_of_ble_eq_true rfl, Nat.le_of_ble_eq_true rfl⟩ ⟨Nat.le_of_ble_eq_true rfl, Nat.le_of_ble_eq_true rfl⟩ rfl (Nat.le_of_ble_eq_true rfl) (fun r μ' ν' hq => ?_)
  obtain ⟨rfl, rfl, rfl⟩ := hq
  show Z _ _ _ _ _ _ _ _ _ _ _ 0 0 _ _ _ [.int ty1.1] _ _
  refine z_if_ne d_S_bestWay_5 (tgt := 10) (by decide) (fun cy2 => ?_) (fun cy2 => ?_)
  · replace hF := zh_f cy2 hF
    refine z_iconst d_S_bestWay_10 (v := (-1)) (by decide) ?_
    refine z_istore_n d_S_bestWay_11 rfl (by decide) (L2 := [(2, .int (-1)), (0, .ref (ad 0)), (1, .int x1)]) rfl ?_
    refine z_ldc2 d_S_bestWay_12 k_S_221 ?_
    refine z_lstore_n d_S_bestWay_15 rfl (by decide) (L2 := [(3, .long (-1)), (2, .int (-1)), (0, .ref (ad 0)), (1, .int x1)]) rfl ?_
    refine z_bipush d_S_bestWay_16 (v := 17) (by decide) ?_
    obtain ⟨ty3, hty3, hF⟩ := zh_bind hF
    refine z_callS d_S_bestWay_18 (c_Told_leastOf  hty3) ms_Told_leastOf l_S_277 (fun _ _ h => h) rfl ⟨Nat.le_of_ble_eq_true rfl, Nat.le_of_ble_eq_true rfl⟩ ⟨Nat.le_of_ble_eq_true rfl, Nat.le_of_ble_eq_true rfl⟩ rfl (Nat.le_of_ble_eq_true rfl) (fun r μ' ν' hq => ?_)
    obtain ⟨rfl, rfl, rfl⟩ := hq
    show Z _ _ _ _ _ _ _ _ _ _ _ 0 0 _ _ _ [.int ty3.1] _ _
    obtain ⟨y4, hy4, hF⟩ := zh_let hF
    refine z_eqi hy4 ?_
    refine z_istore d_S_bestWay_21 (by decide) (L2 := [(5, .int y4), (3, .long (-1)), (2, .int (-1)), (0, .ref (ad 0)), (1, .int x1)]) rfl ?_
    refine z_sub [3, 4, 2, 1, 0] (L' := [(0, .ref (ad 0)), (1, .int x1), (2, .int (-1)), (3, .long (-1)), (5, .int y4)]) rfl ?_
    exact z_S_bestWay_23 hr  zFuel _ _ _ _ _ _ hF
  · replace hF := zh_t cy2 hF
    refine z_iconst d_S_bestWay_8 (v := (-1)) (by decide) ?_
    cases hF
    exact z_ireturn d_S_bestWay_9 rfl rfl ⟨rfl, rfl, rfl⟩
def E_S_bestWay  (x1 : Int32) (μ : zI) (ν : zJ) : Option (Int32 × zI × zJ) := e_S_bestWay_0 x1 μ ν
theorem c_S_bestWay {l : Launch} {D : va_G} {dA : Nat → ClassId} {ad : Nat → Nat} {sh : List zSE} {μ : zI} {ν : zJ} {x1 : Int32} (hr : zRo sh) {out : (Int32 × zI × zJ)} (hE : E_S_bestWay x1 μ ν = some out) : zC l D dA ad sh m_S_bestWay 6 0 0 [.ref (ad 0), .int x1] μ ν (zOi out) :=
  zC.of (by decide) (Nat.le_of_ble_eq_true rfl) (z_S_bestWay_0 hr hE)
def e_S_bestShare_63  (r20 : Int32 → Int32 → Int32 → zI → zJ → Option (Int32 × zI × zJ)) (x1 : Int32) (x2 : Int32) (x3 : Int32) (x4 : Int32) (μ : zI) (ν : zJ) : Option (Int32 × zI × zJ) := r20 x1 x2 (x3 + 1) μ ν
theorem z_S_bestShare_63 {l : Launch} {D : va_G} {dA : Nat → ClassId} {ad : Nat → Nat} {sh : List zSE}  (hr : zRo sh) {r20 : Int32 → Int32 → Int32 → zI → zJ → Option (Int32 × zI × zJ)} {x1 : Int32} {x2 : Int32} {x3 : Int32} {x4 : Int32} {μ : zI} {ν : zJ} {out : (Int32 × zI × zJ)} (hr20 : ∀ (x1 : Int32) (x2 : Int32) (x3 : Int32) (μ : zI) (ν : zJ), r20 x1 x2 x3 μ ν = some out → Z l D dA ad sh m_S_bestShare (zR 3 0 0) (zS ad) (zOi out) 0 0 0 0 [] 20 [(0, .ref (ad 0)), (1, .int x1), (2, .int x2), (3, .int x3)] [] μ ν) (hF : e_S_bestShare_63  r20 x1 x2 x3 x4 μ ν = some out) : Z l D dA ad sh m_S_bestShare (zR 3 0 0) (zS ad) (zOi out) 0 0 0 0 [] 63 [(0, .ref (ad 0)), (1, .int x1), (2, .int x2), (3, .int x3), (4, .int x4)] [] μ ν := by
  unfold e_S_bestShare_63 at hF
  refine z_iinc d_S_bestShare_63 (k := 3) (v := (x3 + 1)) rfl rfl (by decide) (L2 := [(3, .int (x3 + 1)), (0, .ref (ad 0)), (1, .int x1), (2, .int x2), (4, .int x4)]) rfl ?_
  refine z_goto d_S_bestShare_66 (tgt := 20) (by decide) ?_
  refine z_sub [1, 2, 3, 0] (L' := [(0, .ref (ad 0)), (1, .int x1), (2, .int x2), (3, .int (x3 + 1))]) rfl ?_
  exact hr20 _ _ _ _ _ hF
def f_S_bestShare_20   : Nat → Int32 → Int32 → Int32 → zI → zJ → Option (Int32 × zI × zJ)
  | 0, _, _, _, _, _ => none
  | n + 1, x1, x2, x3, μ, ν => Option.bind (E_Told_mostOf 18 μ ν) fun ty1 => (if ty1.1 < x3 then some (x1, ty1.2.1, ty1.2.2) else Option.bind (E_Panel_pointOfShare 4 x3 ty1.2.1 ty1.2.2) fun ty3 => Option.bind (E_Panel_powerAt 4 ty3.1 ty3.2.1 ty3.2.2) fun ty4 => zlet (α := Int32) ty4.1 fun y5 => (if y5 ≤ x2 then e_S_bestShare_63 (f_S_bestShare_20  n) x1 x2 x3 y5 ty4.2.1 ty4.2.2 else e_S_bestShare_63 (f_S_bestShare_20  n) x3 y5 x3 y5 ty4.2.1 ty4.2.2))
theorem z_S_bestShare_20 {l : Launch} {D : va_G} {dA : Nat → ClassId} {ad : Nat → Nat} {sh : List zSE}  (hr : zRo sh)  {out : (Int32 × zI × zJ)} : ∀ (n : Nat) (x1 : Int32) (x2 : Int32) (x3 : Int32) (μ : zI) (ν : zJ), f_S_bestShare_20   n x1 x2 x3 μ ν = some out → Z l D dA ad sh m_S_bestShare (zR 3 0 0) (zS ad) (zOi out) 0 0 0 0 [] 20 [(0, .ref (ad 0)), (1, .int x1), (2, .int x2), (3, .int x3)] [] μ ν := by
  intro n
  induction n with
  | zero => intro x1 x2 x3 μ ν hF; cases hF
  | succ n ih =>
    intro x1 x2 x3 μ ν hF
    dsimp only [f_S_bestShare_20] at hF
    refine z_iload_n d_S_bestShare_20 3 rfl rfl ?_
    refine z_bipush d_S_bestShare_21 (v := 18) (by decide) ?_
    obtain ⟨ty1, hty1, hF⟩ := zh_bind hF
    refine z_callS d_S_bestShare_23 (c_Told_mostOf  hty1) ms_Told_mostOf l_S_280 (fun _ _ h => h) rfl ⟨Nat.le_of_ble_eq_true rfl, Nat.le_of_ble_eq_true rfl⟩ ⟨Nat.le_of_ble_eq_true rfl, Nat.le_of_ble_eq_true rfl⟩ rfl (Nat.le_of_ble_eq_true rfl) (fun r μ' ν' hq => ?_)
    obtain ⟨rfl, rfl, rfl⟩ := hq
    show Z _ _ _ _ _ _ _ _ _ _ _ 0 0 _ _ _ [.int ty1.1, .int x3] _ _
    refine z_icmp_gt d_S_bestShare_26 (tgt := 69) (by decide) (fun cy2 => ?_) (fun cy2 => ?_)
    · replace hF := zh_t cy2 hF
      refine z_iload_n d_S_bestShare_69 1 rfl rfl ?_
      cases hF
      exact z_ireturn d_S_bestShare_70 rfl rfl ⟨rfl, rfl, rfl⟩
    · replace hF := zh_f cy2 hF
      refine z_aload_n d_S_bestShare_29 0 rfl rfl ?_
      refine z_getr d_S_bestShare_30 (q := 4) f_S_28 (hr 0 _ rfl) rfl ?_
      refine z_getr d_S_bestShare_33 (q := (4 + 3)) f_S_100 ((zRo_4 hr) 0 _ rfl) rfl ?_
      refine z_aload_n d_S_bestShare_36 0 rfl rfl ?_
      refine z_getr d_S_bestShare_37 (q := 4) f_S_28 (hr 0 _ rfl) rfl ?_
      refine z_getr d_S_bestShare_40 (q := (4 + 3)) f_S_100 ((zRo_4 hr) 0 _ rfl) rfl ?_
      refine z_iload_n d_S_bestShare_43 3 rfl rfl ?_
      obtain ⟨ty3, hty3, hF⟩ := zh_bind hF
      refine z_callV d_S_bestShare_44 (c_Panel_pointOfShare (zRo_4 hr) hty3) mv_Panel_pointOfShare l_S_290 (fun _ _ h => h) ((zRo_4 hr) 3 _ rfl) rfl rfl ⟨Nat.le_of_ble_eq_true rfl, Nat.le_of_ble_eq_true rfl⟩ ⟨Nat.le_of_ble_eq_true rfl, Nat.le_of_ble_eq_true rfl⟩ rfl (Nat.le_of_ble_eq_true rfl) (fun r μ' ν' hq => ?_)
      obtain ⟨rfl, rfl, rfl⟩ := hq
      show Z _ _ _ _ _ _ _ _ _ _ _ 0 0 _ _ _ [.int ty3.1, .ref (ad (4 + 3))] _ _
      obtain ⟨ty4, hty4, hF⟩ := zh_bind hF
      refine z_callV d_S_bestShare_47 (c_Panel_powerAt (zRo_4 hr) hty4) mv_Panel_powerAt l_S_184 (fun _ _ h => h) ((zRo_4 hr) 3 _ rfl) rfl rfl ⟨Nat.le_of_ble_eq_true rfl, Nat.le_of_ble_eq_true rfl⟩ ⟨Nat.le_of_ble_eq_true rfl, Nat.le_of_ble_eq_true rfl⟩ rfl (Nat.le_of_ble_eq_true rfl) (fun r μ' ν' hq => ?_)
      obtain ⟨rfl, rfl, rfl⟩ := hq
      show Z _ _ _ _ _ _ _ _ _ _ _ 0 0 _ _ _ [.int ty4.1] _ _
      obtain ⟨y5, hy5, hF⟩ := zh_let hF
      refine z_eqi hy5 ?_
      refine z_istore d_S_bestShare_50 (by decide) (L2 := [(4, .int y5), (0, .ref (ad 0)), (1, .int x1), (2, .int x2), (3, .int x3)]) rfl ?_
      refine z_iload d_S_bestShare_52 0 rfl ?_
      refine z_iload_n d_S_bestShare_54 3 rfl rfl ?_
      refine z_icmp_le d_S_bestShare_55 (tgt := 63) (by decide) (fun cy6 => ?_) (fun cy6 => ?_)
      · replace hF := zh_t cy6 hF
        refine z_sub [1, 2, 3, 4, 0] (L' := [(0, .ref (ad 0)), (1, .int x1), (2, .int x2), (3, .int x3), (4, .int y5)]) rfl ?_
        exact z_S_bestShare_63 hr (fun a0 a1 a2 a3 a4 => ih a0 a1 a2 a3 a4) hF
      · replace hF := zh_f cy6 hF
        refine z_iload d_S_bestShare_58 0 rfl ?_
        refine z_istore_n d_S_bestShare_60 rfl (by decide) (L2 := [(2, .int y5), (4, .int y5), (0, .ref (ad 0)), (1, .int x1), (3, .int x3)]) rfl ?_
        refine z_iload_n d_S_bestShare_61 4 rfl rfl ?_
        refine z_istore_n d_S_bestShare_62 rfl (by decide) (L2 := [(1, .int x3), (2, .int y5), (4, .int y5), (0, .ref (ad 0)), (3, .int x3)]) rfl ?_
        refine z_sub [3, 0, 1, 4, 2] (L' := [(0, .ref (ad 0)), (1, .int x3), (2, .int y5), (3, .int x3), (4, .int y5)]) rfl ?_
        exact z_S_bestShare_63 hr (fun a0 a1 a2 a3 a4 => ih a0 a1 a2 a3 a4) hF
def e_S_bestShare_0    (μ : zI) (ν : zJ) : Option (Int32 × zI × zJ) := Option.bind (E_S_hasModules μ ν) fun ty1 => (if ty1.1 = 0 then some ((-2), ty1.2.1, ty1.2.2) else Option.bind (E_Told_leastOf 18 ty1.2.1 ty1.2.2) fun ty3 => zlet (α := Int32) ty3.1 fun y4 => f_S_bestShare_20 zFuel (-1) (-1) y4 ty3.2.1 ty3.2.2)
theorem z_S_bestShare_0 {l : Launch} {D : va_G} {dA : Nat → ClassId} {ad : Nat → Nat} {sh : List zSE}  (hr : zRo sh)   {μ : zI} {ν : zJ} {out : (Int32 × zI × zJ)} (hF : e_S_bestShare_0    μ ν = some out) : Z l D dA ad sh m_S_bestShare (zR 3 0 0) (zS ad) (zOi out) 0 0 0 0 [] 0 [(0, .ref (ad 0))] [] μ ν := by
  unfold e_S_bestShare_0 at hF
  refine z_aload_n d_S_bestShare_0 0 rfl rfl ?_
  obtain ⟨ty1, hty1, hF⟩ := zh_bind hF
  refine z_callV d_S_bestShare_1 (c_S_hasModules hr hty1) mv_S_hasModules l_S_78 (fun _ _ h => h) (hr 0 _ rfl) rfl rfl ⟨Nat.le_of_ble_eq_true rfl, Nat.le_of_ble_eq_true rfl⟩ ⟨Nat.le_of_ble_eq_true rfl, Nat.le_of_ble_eq_true rfl⟩ rfl (Nat.le_of_ble_eq_true rfl) (fun r μ' ν' hq => ?_)
  obtain ⟨rfl, rfl, rfl⟩ := hq
  show Z _ _ _ _ _ _ _ _ _ _ _ 0 0 _ _ _ [.int ty1.1] _ _
  refine z_if_ne d_S_bestShare_4 (tgt := 10) (by decide) (fun cy2 => ?_) (fun cy2 => ?_)
  · replace hF := zh_f cy2 hF
    refine z_iconst d_S_bestShare_10 (v := (-1)) (by decide) ?_
    refine z_istore_n d_S_bestShare_11 rfl (by decide) (L2 := [(1, .int (-1)), (0, .ref (ad 0))]) rfl ?_
    refine z_iconst d_S_bestShare_12 (v := (-1)) (by decide) ?_
    refine z_istore_n d_S_bestShare_13 rfl (by decide) (L2 := [(2, .int (-1)), (1, .int (-1)), (0, .ref (ad 0))]) rfl ?_
    refine z_bipush d_S_bestShare_14 (v := 18) (by decide) ?_
    obtain ⟨ty3, hty3, hF⟩ := zh_bind hF
    refine z_callS d_S_bestShare_16 (c_Told_leastOf  hty3) ms_Told_leastOf l_S_277 (fun _ _ h => h) rfl ⟨Nat.le_of_ble_eq_true rfl, Nat.le_of_ble_eq_true rfl⟩ ⟨Nat.le_of_ble_eq_true rfl, Nat.le_of_ble_eq_true rfl⟩ rfl (Nat.le_of_ble_eq_true rfl) (fun r μ' ν' hq => ?_)
    obtain ⟨rfl, rfl, rfl⟩ := hq
    show Z _ _ _ _ _ _ _ _ _ _ _ 0 0 _ _ _ [.int ty3.1] _ _
    obtain ⟨y4, hy4, hF⟩ := zh_let hF
    refine z_eqi hy4 ?_
    refine z_istore_n d_S_bestShare_19 rfl (by decide) (L2 := [(3, .int y4), (2, .int (-1)), (1, .int (-1)), (0, .ref (ad 0))]) rfl ?_
    refine z_sub [3, 2, 1, 0] (L' := [(0, .ref (ad 0)), (1, .int (-1)), (2, .int (-1)), (3, .int y4)]) rfl ?_
    exact z_S_bestShare_20 hr  zFuel _ _ _ _ _ hF
  · replace hF := zh_t cy2 hF
    refine z_bipush d_S_bestShare_7 (v := (-2)) (by decide) ?_
    cases hF
    exact z_ireturn d_S_bestShare_9 rfl rfl ⟨rfl, rfl, rfl⟩
def E_S_bestShare   (μ : zI) (ν : zJ) : Option (Int32 × zI × zJ) := e_S_bestShare_0 μ ν
theorem c_S_bestShare {l : Launch} {D : va_G} {dA : Nat → ClassId} {ad : Nat → Nat} {sh : List zSE} {μ : zI} {ν : zJ} (hr : zRo sh) {out : (Int32 × zI × zJ)} (hE : E_S_bestShare  μ ν = some out) : zC l D dA ad sh m_S_bestShare 3 0 0 [.ref (ad 0)] μ ν (zOi out) :=
  zC.of (by decide) (Nat.le_of_ble_eq_true rfl) (z_S_bestShare_0 hr hE)
def e_S_slope_16   (x1 : Int32) (μ : zI) (ν : zJ) : Option (Int32 × zI × zJ) := some ((-9999999), μ, ν)
theorem z_S_slope_16 {l : Launch} {D : va_G} {dA : Nat → ClassId} {ad : Nat → Nat} {sh : List zSE}  (hr : zRo sh)  {x1 : Int32} {μ : zI} {ν : zJ} {out : (Int32 × zI × zJ)} (hF : e_S_slope_16   x1 μ ν = some out) : Z l D dA ad sh m_S_slope (zR 1 0 0) (zS ad) (zOi out) 0 0 0 0 [] 16 [(0, .ref (ad 0)), (1, .int x1)] [] μ ν := by
  unfold e_S_slope_16 at hF
  refine z_ldcw d_S_slope_16 k_S_293 ?_
  cases hF
  exact z_ireturn d_S_slope_19 rfl rfl ⟨rfl, rfl, rfl⟩
def e_S_slope_0   (x1 : Int32) (μ : zI) (ν : zJ) : Option (Int32 × zI × zJ) := Option.bind (E_Panel_isPoint x1 μ ν) fun ty1 => (if ty1.1 = 0 then e_S_slope_16 x1 ty1.2.1 ty1.2.2 else Option.bind (E_Panel_isPoint (x1 + 1) ty1.2.1 ty1.2.2) fun ty3 => (if ty3.1 = 0 then e_S_slope_16 x1 ty3.2.1 ty3.2.2 else Option.bind (E_Panel_powerAt 4 (x1 + 1) ty3.2.1 ty3.2.2) fun ty5 => Option.bind (E_Panel_powerAt 4 x1 ty5.2.1 ty5.2.2) fun ty6 => some ((ty5.1 - ty6.1), ty6.2.1, ty6.2.2)))
theorem z_S_slope_0 {l : Launch} {D : va_G} {dA : Nat → ClassId} {ad : Nat → Nat} {sh : List zSE}  (hr : zRo sh)  {x1 : Int32} {μ : zI} {ν : zJ} {out : (Int32 × zI × zJ)} (hF : e_S_slope_0   x1 μ ν = some out) : Z l D dA ad sh m_S_slope (zR 1 0 0) (zS ad) (zOi out) 0 0 0 0 [] 0 [(0, .ref (ad 0)), (1, .int x1)] [] μ ν := by
  unfold e_S_slope_0 at hF
  refine z_iload_n d_S_slope_0 1 rfl rfl ?_
  obtain ⟨ty1, hty1, hF⟩ := zh_bind hF
  refine z_callS d_S_slope_1 (c_Panel_isPoint  hty1) ms_Panel_isPoint l_S_178 (fun _ _ h => h) rfl ⟨Nat.le_of_ble_eq_true rfl, Nat.le_of_ble_eq_true rfl⟩ ⟨Nat.le_of_ble_eq_true rfl, Nat.le_of_ble_eq_true rfl⟩ rfl (Nat.le_of_ble_eq_true rfl) (fun r μ' ν' hq => ?_)
  obtain ⟨rfl, rfl, rfl⟩ := hq
  show Z _ _ _ _ _ _ _ _ _ _ _ 0 0 _ _ _ [.int ty1.1] _ _
  refine z_if_eq d_S_slope_4 (tgt := 16) (by decide) (fun cy2 => ?_) (fun cy2 => ?_)
  · replace hF := zh_t cy2 hF
    exact z_S_slope_16 hr  hF
  · replace hF := zh_f cy2 hF
    refine z_iload_n d_S_slope_7 1 rfl rfl ?_
    refine z_iconst d_S_slope_8 (v := 1) (by decide) ?_
    refine z_iadd d_S_slope_9 ?_
    obtain ⟨ty3, hty3, hF⟩ := zh_bind hF
    refine z_callS d_S_slope_10 (c_Panel_isPoint  hty3) ms_Panel_isPoint l_S_178 (fun _ _ h => h) rfl ⟨Nat.le_of_ble_eq_true rfl, Nat.le_of_ble_eq_true rfl⟩ ⟨Nat.le_of_ble_eq_true rfl, Nat.le_of_ble_eq_true rfl⟩ rfl (Nat.le_of_ble_eq_true rfl) (fun r μ' ν' hq => ?_)
    obtain ⟨rfl, rfl, rfl⟩ := hq
    show Z _ _ _ _ _ _ _ _ _ _ _ 0 0 _ _ _ [.int ty3.1] _ _
    refine z_if_ne d_S_slope_13 (tgt := 20) (by decide) (fun cy4 => ?_) (fun cy4 => ?_)
    · replace hF := zh_f cy4 hF
      refine z_aload_n d_S_slope_20 0 rfl rfl ?_
      refine z_getr d_S_slope_21 (q := 4) f_S_28 (hr 0 _ rfl) rfl ?_
      refine z_getr d_S_slope_24 (q := (4 + 3)) f_S_100 ((zRo_4 hr) 0 _ rfl) rfl ?_
      refine z_iload_n d_S_slope_27 1 rfl rfl ?_
      refine z_iconst d_S_slope_28 (v := 1) (by decide) ?_
      refine z_iadd d_S_slope_29 ?_
      obtain ⟨ty5, hty5, hF⟩ := zh_bind hF
      refine z_callV d_S_slope_30 (c_Panel_powerAt (zRo_4 hr) hty5) mv_Panel_powerAt l_S_184 (fun _ _ h => h) ((zRo_4 hr) 3 _ rfl) rfl rfl ⟨Nat.le_of_ble_eq_true rfl, Nat.le_of_ble_eq_true rfl⟩ ⟨Nat.le_of_ble_eq_true rfl, Nat.le_of_ble_eq_true rfl⟩ rfl (Nat.le_of_ble_eq_true rfl) (fun r μ' ν' hq => ?_)
      obtain ⟨rfl, rfl, rfl⟩ := hq
      show Z _ _ _ _ _ _ _ _ _ _ _ 0 0 _ _ _ [.int ty5.1] _ _
      refine z_aload_n d_S_slope_33 0 rfl rfl ?_
      refine z_getr d_S_slope_34 (q := 4) f_S_28 (hr 0 _ rfl) rfl ?_
      refine z_getr d_S_slope_37 (q := (4 + 3)) f_S_100 ((zRo_4 hr) 0 _ rfl) rfl ?_
      refine z_iload_n d_S_slope_40 1 rfl rfl ?_
      obtain ⟨ty6, hty6, hF⟩ := zh_bind hF
      refine z_callV d_S_slope_41 (c_Panel_powerAt (zRo_4 hr) hty6) mv_Panel_powerAt l_S_184 (fun _ _ h => h) ((zRo_4 hr) 3 _ rfl) rfl rfl ⟨Nat.le_of_ble_eq_true rfl, Nat.le_of_ble_eq_true rfl⟩ ⟨Nat.le_of_ble_eq_true rfl, Nat.le_of_ble_eq_true rfl⟩ rfl (Nat.le_of_ble_eq_true rfl) (fun r μ' ν' hq => ?_)
      obtain ⟨rfl, rfl, rfl⟩ := hq
      show Z _ _ _ _ _ _ _ _ _ _ _ 0 0 _ _ _ [.int ty6.1, .int ty5.1] _ _
      refine z_isub d_S_slope_44 ?_
      cases hF
      exact z_ireturn d_S_slope_45 rfl rfl ⟨rfl, rfl, rfl⟩
    · replace hF := zh_t cy4 hF
      exact z_S_slope_16 hr  hF
def E_S_slope  (x1 : Int32) (μ : zI) (ν : zJ) : Option (Int32 × zI × zJ) := e_S_slope_0 x1 μ ν
theorem c_S_slope {l : Launch} {D : va_G} {dA : Nat → ClassId} {ad : Nat → Nat} {sh : List zSE} {μ : zI} {ν : zJ} {x1 : Int32} (hr : zRo sh) {out : (Int32 × zI × zJ)} (hE : E_S_slope x1 μ ν = some out) : zC l D dA ad sh m_S_slope 1 0 0 [.ref (ad 0), .int x1] μ ν (zOi out) :=
  zC.of (by decide) (Nat.le_of_ble_eq_true rfl) (z_S_slope_0 hr hE)
def e_S_firstFull_18   (x1 : Int32) (s0 : Int32) (μ : zI) (ν : zJ) : Option (Int32 × zI × zJ) := some (s0, μ, ν)
theorem z_S_firstFull_18 {l : Launch} {D : va_G} {dA : Nat → ClassId} {ad : Nat → Nat} {sh : List zSE}  (hr : zRo sh)  {x1 : Int32} {s0 : Int32} {μ : zI} {ν : zJ} {out : (Int32 × zI × zJ)} (hF : e_S_firstFull_18   x1 s0 μ ν = some out) : Z l D dA ad sh m_S_firstFull (zR 6 0 0) (zS ad) (zOi out) 0 0 0 0 [] 18 [(0, .ref (ad 0)), (1, .int x1)] [.int s0] μ ν := by
  unfold e_S_firstFull_18 at hF
  cases hF
  exact z_ireturn d_S_firstFull_18 rfl rfl ⟨rfl, rfl, rfl⟩
def e_S_firstFull_0   (x1 : Int32) (μ : zI) (ν : zJ) : Option (Int32 × zI × zJ) := Option.bind (E_S_mayTry x1 μ ν) fun ty1 => (if ty1.1 = 0 then e_S_firstFull_18 x1 (-1) ty1.2.1 ty1.2.2 else Option.bind (E_S_firstTick x1 2 ty1.2.1 ty1.2.2) fun ty3 => e_S_firstFull_18 x1 ty3.1 ty3.2.1 ty3.2.2)
theorem z_S_firstFull_0 {l : Launch} {D : va_G} {dA : Nat → ClassId} {ad : Nat → Nat} {sh : List zSE}  (hr : zRo sh)  {x1 : Int32} {μ : zI} {ν : zJ} {out : (Int32 × zI × zJ)} (hF : e_S_firstFull_0   x1 μ ν = some out) : Z l D dA ad sh m_S_firstFull (zR 6 0 0) (zS ad) (zOi out) 0 0 0 0 [] 0 [(0, .ref (ad 0)), (1, .int x1)] [] μ ν := by
  unfold e_S_firstFull_0 at hF
  refine z_aload_n d_S_firstFull_0 0 rfl rfl ?_
  refine z_iload_n d_S_firstFull_1 1 rfl rfl ?_
  obtain ⟨ty1, hty1, hF⟩ := zh_bind hF
  refine z_callV d_S_firstFull_2 (c_S_mayTry hr hty1) mv_S_mayTry l_S_250 (fun _ _ h => h) (hr 0 _ rfl) rfl rfl ⟨Nat.le_of_ble_eq_true rfl, Nat.le_of_ble_eq_true rfl⟩ ⟨Nat.le_of_ble_eq_true rfl, Nat.le_of_ble_eq_true rfl⟩ rfl (Nat.le_of_ble_eq_true rfl) (fun r μ' ν' hq => ?_)
  obtain ⟨rfl, rfl, rfl⟩ := hq
  show Z _ _ _ _ _ _ _ _ _ _ _ 0 0 _ _ _ [.int ty1.1] _ _
  refine z_if_eq d_S_firstFull_5 (tgt := 17) (by decide) (fun cy2 => ?_) (fun cy2 => ?_)
  · replace hF := zh_t cy2 hF
    refine z_iconst d_S_firstFull_17 (v := (-1)) (by decide) ?_
    exact z_S_firstFull_18 hr  hF
  · replace hF := zh_f cy2 hF
    refine z_aload_n d_S_firstFull_8 0 rfl rfl ?_
    refine z_iload_n d_S_firstFull_9 1 rfl rfl ?_
    refine z_iconst d_S_firstFull_10 (v := 2) (by decide) ?_
    obtain ⟨ty3, hty3, hF⟩ := zh_bind hF
    refine z_callV d_S_firstFull_11 (c_S_firstTick hr hty3) mv_S_firstTick l_S_274 (fun _ _ h => h) (hr 0 _ rfl) rfl rfl ⟨Nat.le_of_ble_eq_true rfl, Nat.le_of_ble_eq_true rfl⟩ ⟨Nat.le_of_ble_eq_true rfl, Nat.le_of_ble_eq_true rfl⟩ rfl (Nat.le_of_ble_eq_true rfl) (fun r μ' ν' hq => ?_)
    obtain ⟨rfl, rfl, rfl⟩ := hq
    show Z _ _ _ _ _ _ _ _ _ _ _ 0 0 _ _ _ [.int ty3.1] _ _
    refine z_goto d_S_firstFull_14 (tgt := 18) (by decide) ?_
    exact z_S_firstFull_18 hr  hF
def E_S_firstFull  (x1 : Int32) (μ : zI) (ν : zJ) : Option (Int32 × zI × zJ) := e_S_firstFull_0 x1 μ ν
theorem c_S_firstFull {l : Launch} {D : va_G} {dA : Nat → ClassId} {ad : Nat → Nat} {sh : List zSE} {μ : zI} {ν : zJ} {x1 : Int32} (hr : zRo sh) {out : (Int32 × zI × zJ)} (hE : E_S_firstFull x1 μ ν = some out) : zC l D dA ad sh m_S_firstFull 6 0 0 [.ref (ad 0), .int x1] μ ν (zOi out) :=
  zC.of (by decide) (Nat.le_of_ble_eq_true rfl) (z_S_firstFull_0 hr hE)
def e_S_seenBy_22   (x1 : Int32) (x2 : Int32) (μ : zI) (ν : zJ) : Option (Int32 × zI × zJ) := some ((-1), μ, ν)
theorem z_S_seenBy_22 {l : Launch} {D : va_G} {dA : Nat → ClassId} {ad : Nat → Nat} {sh : List zSE}  (hr : zRo sh)  {x1 : Int32} {x2 : Int32} {μ : zI} {ν : zJ} {out : (Int32 × zI × zJ)} (hF : e_S_seenBy_22   x1 x2 μ ν = some out) : Z l D dA ad sh m_S_seenBy (zR 3 0 0) (zS ad) (zOi out) 0 0 0 0 [] 22 [(0, .ref (ad 0)), (1, .int x1), (2, .int x2)] [] μ ν := by
  unfold e_S_seenBy_22 at hF
  refine z_iconst d_S_seenBy_22 (v := (-1)) (by decide) ?_
  cases hF
  exact z_ireturn d_S_seenBy_23 rfl rfl ⟨rfl, rfl, rfl⟩
def e_S_seenBy_0   (x1 : Int32) (x2 : Int32) (μ : zI) (ν : zJ) : Option (Int32 × zI × zJ) := Option.bind (E_S_isWithin x1 45000 55000 μ ν) fun ty1 => (if ty1.1 = 0 then e_S_seenBy_22 x1 x2 ty1.2.1 ty1.2.2 else Option.bind (E_S_isWithin x2 1 200 ty1.2.1 ty1.2.2) fun ty3 => (if ty3.1 = 0 then e_S_seenBy_22 x1 x2 ty3.2.1 ty3.2.2 else Option.bind (E_Told_get 4 9 ty3.2.1 ty3.2.2) fun ty5 => Option.bind (E_Inverter_firstAlone 4 x1 ty5.1 x2 ty5.2.1 ty5.2.2) fun ty6 => some (ty6.1, ty6.2.1, ty6.2.2)))
theorem z_S_seenBy_0 {l : Launch} {D : va_G} {dA : Nat → ClassId} {ad : Nat → Nat} {sh : List zSE}  (hr : zRo sh)  {x1 : Int32} {x2 : Int32} {μ : zI} {ν : zJ} {out : (Int32 × zI × zJ)} (hF : e_S_seenBy_0   x1 x2 μ ν = some out) : Z l D dA ad sh m_S_seenBy (zR 3 0 0) (zS ad) (zOi out) 0 0 0 0 [] 0 [(0, .ref (ad 0)), (1, .int x1), (2, .int x2)] [] μ ν := by
  unfold e_S_seenBy_0 at hF
  refine z_iload_n d_S_seenBy_0 1 rfl rfl ?_
  refine z_ldc d_S_seenBy_1 k_S_126 ?_
  refine z_ldc d_S_seenBy_3 k_S_127 ?_
  obtain ⟨ty1, hty1, hF⟩ := zh_bind hF
  refine z_callS d_S_seenBy_5 (c_S_isWithin  hty1) ms_S_isWithin l_S_54 (fun _ _ h => h) rfl ⟨Nat.le_of_ble_eq_true rfl, Nat.le_of_ble_eq_true rfl⟩ ⟨Nat.le_of_ble_eq_true rfl, Nat.le_of_ble_eq_true rfl⟩ rfl (Nat.le_of_ble_eq_true rfl) (fun r μ' ν' hq => ?_)
  obtain ⟨rfl, rfl, rfl⟩ := hq
  show Z _ _ _ _ _ _ _ _ _ _ _ 0 0 _ _ _ [.int ty1.1] _ _
  refine z_if_eq d_S_seenBy_8 (tgt := 22) (by decide) (fun cy2 => ?_) (fun cy2 => ?_)
  · replace hF := zh_t cy2 hF
    exact z_S_seenBy_22 hr  hF
  · replace hF := zh_f cy2 hF
    refine z_iload_n d_S_seenBy_11 2 rfl rfl ?_
    refine z_iconst d_S_seenBy_12 (v := 1) (by decide) ?_
    refine z_sipush d_S_seenBy_13 (v := 200) (by decide) ?_
    obtain ⟨ty3, hty3, hF⟩ := zh_bind hF
    refine z_callS d_S_seenBy_16 (c_S_isWithin  hty3) ms_S_isWithin l_S_54 (fun _ _ h => h) rfl ⟨Nat.le_of_ble_eq_true rfl, Nat.le_of_ble_eq_true rfl⟩ ⟨Nat.le_of_ble_eq_true rfl, Nat.le_of_ble_eq_true rfl⟩ rfl (Nat.le_of_ble_eq_true rfl) (fun r μ' ν' hq => ?_)
    obtain ⟨rfl, rfl, rfl⟩ := hq
    show Z _ _ _ _ _ _ _ _ _ _ _ 0 0 _ _ _ [.int ty3.1] _ _
    refine z_if_ne d_S_seenBy_19 (tgt := 24) (by decide) (fun cy4 => ?_) (fun cy4 => ?_)
    · replace hF := zh_f cy4 hF
      refine z_aload_n d_S_seenBy_24 0 rfl rfl ?_
      refine z_getr d_S_seenBy_25 (q := 4) f_S_28 (hr 0 _ rfl) rfl ?_
      refine z_getr d_S_seenBy_28 (q := (4 + 13)) f_S_117 ((zRo_4 hr) 0 _ rfl) rfl ?_
      refine z_iload_n d_S_seenBy_31 1 rfl rfl ?_
      refine z_aload_n d_S_seenBy_32 0 rfl rfl ?_
      refine z_getr d_S_seenBy_33 (q := 4) f_S_28 (hr 0 _ rfl) rfl ?_
      refine z_getr d_S_seenBy_36 (q := (4 + 1)) f_S_143 ((zRo_4 hr) 0 _ rfl) rfl ?_
      refine z_bipush d_S_seenBy_39 (v := 9) (by decide) ?_
      obtain ⟨ty5, hty5, hF⟩ := zh_bind hF
      refine z_callV d_S_seenBy_41 (c_Told_get (zRo_4 hr) hty5) mv_Told_get l_S_147 (fun _ _ h => h) ((zRo_4 hr) 1 _ rfl) rfl rfl ⟨Nat.le_of_ble_eq_true rfl, Nat.le_of_ble_eq_true rfl⟩ ⟨Nat.le_of_ble_eq_true rfl, Nat.le_of_ble_eq_true rfl⟩ rfl (Nat.le_of_ble_eq_true rfl) (fun r μ' ν' hq => ?_)
      obtain ⟨rfl, rfl, rfl⟩ := hq
      show Z _ _ _ _ _ _ _ _ _ _ _ 0 0 _ _ _ [.int ty5.1, .int x1, .ref (ad (4 + 13))] _ _
      refine z_iload_n d_S_seenBy_44 2 rfl rfl ?_
      refine z_aload_n d_S_seenBy_45 0 rfl rfl ?_
      refine z_getr d_S_seenBy_46 (q := 4) f_S_28 (hr 0 _ rfl) rfl ?_
      refine z_getr d_S_seenBy_49 (q := (4 + 1)) f_S_143 ((zRo_4 hr) 0 _ rfl) rfl ?_
      obtain ⟨ty6, hty6, hF⟩ := zh_bind hF
      refine z_callV d_S_seenBy_52 (c_Inverter_firstAlone (zRo_4 hr) hty6) mv_Inverter_firstAlone l_S_283 (fun _ _ h => h) ((zRo_4 hr) 13 _ rfl) rfl rfl ⟨Nat.le_of_ble_eq_true rfl, Nat.le_of_ble_eq_true rfl⟩ ⟨Nat.le_of_ble_eq_true rfl, Nat.le_of_ble_eq_true rfl⟩ rfl (Nat.le_of_ble_eq_true rfl) (fun r μ' ν' hq => ?_)
      obtain ⟨rfl, rfl, rfl⟩ := hq
      show Z _ _ _ _ _ _ _ _ _ _ _ 0 0 _ _ _ [.int ty6.1] _ _
      cases hF
      exact z_ireturn d_S_seenBy_55 rfl rfl ⟨rfl, rfl, rfl⟩
    · replace hF := zh_t cy4 hF
      exact z_S_seenBy_22 hr  hF
def E_S_seenBy  (x1 : Int32) (x2 : Int32) (μ : zI) (ν : zJ) : Option (Int32 × zI × zJ) := e_S_seenBy_0 x1 x2 μ ν
theorem c_S_seenBy {l : Launch} {D : va_G} {dA : Nat → ClassId} {ad : Nat → Nat} {sh : List zSE} {μ : zI} {ν : zJ} {x1 : Int32} {x2 : Int32} (hr : zRo sh) {out : (Int32 × zI × zJ)} (hE : E_S_seenBy x1 x2 μ ν = some out) : zC l D dA ad sh m_S_seenBy 3 0 0 [.ref (ad 0), .int x1, .int x2] μ ν (zOi out) :=
  zC.of (by decide) (Nat.le_of_ble_eq_true rfl) (z_S_seenBy_0 hr hE)
def e_S_blind_63  (r18 : Int32 → Int32 → Int32 → zI → zJ → Option (Int32 × zI × zJ)) (x1 : Int32) (x2 : Int32) (x3 : Int32) (μ : zI) (ν : zJ) : Option (Int32 × zI × zJ) := r18 x1 x2 (x3 + 100) μ ν
theorem z_S_blind_63 {l : Launch} {D : va_G} {dA : Nat → ClassId} {ad : Nat → Nat} {sh : List zSE}  (hr : zRo sh) {r18 : Int32 → Int32 → Int32 → zI → zJ → Option (Int32 × zI × zJ)} {x1 : Int32} {x2 : Int32} {x3 : Int32} {μ : zI} {ν : zJ} {out : (Int32 × zI × zJ)} (hr18 : ∀ (x1 : Int32) (x2 : Int32) (x3 : Int32) (μ : zI) (ν : zJ), r18 x1 x2 x3 μ ν = some out → Z l D dA ad sh m_S_blind (zR 3 0 0) (zS ad) (zOi out) 0 0 0 0 [] 18 [(0, .ref (ad 0)), (1, .int x1), (2, .int x2), (3, .int x3)] [] μ ν) (hF : e_S_blind_63  r18 x1 x2 x3 μ ν = some out) : Z l D dA ad sh m_S_blind (zR 3 0 0) (zS ad) (zOi out) 0 0 0 0 [] 63 [(0, .ref (ad 0)), (1, .int x1), (2, .int x2), (3, .int x3)] [] μ ν := by
  unfold e_S_blind_63 at hF
  refine z_iinc d_S_blind_63 (k := 3) (v := (x3 + 100)) rfl rfl (by decide) (L2 := [(3, .int (x3 + 100)), (0, .ref (ad 0)), (1, .int x1), (2, .int x2)]) rfl ?_
  refine z_goto d_S_blind_66 (tgt := 18) (by decide) ?_
  refine z_sub [1, 2, 3, 0] (L' := [(0, .ref (ad 0)), (1, .int x1), (2, .int x2), (3, .int (x3 + 100))]) rfl ?_
  exact hr18 _ _ _ _ _ hF
def f_S_blind_18   : Nat → Int32 → Int32 → Int32 → zI → zJ → Option (Int32 × zI × zJ)
  | 0, _, _, _, _, _ => none
  | n + 1, x1, x2, x3, μ, ν => (if 55000 < x3 then some (x2, μ, ν) else Option.bind (E_Told_get 4 9 μ ν) fun ty2 => Option.bind (E_Inverter_firstAlone 4 x3 ty2.1 x1 ty2.2.1 ty2.2.2) fun ty3 => (if ty3.1 = (-2) then e_S_blind_63 (f_S_blind_18  n) x1 (x2 + 1) x3 ty3.2.1 ty3.2.2 else e_S_blind_63 (f_S_blind_18  n) x1 x2 x3 ty3.2.1 ty3.2.2))
theorem z_S_blind_18 {l : Launch} {D : va_G} {dA : Nat → ClassId} {ad : Nat → Nat} {sh : List zSE}  (hr : zRo sh)  {out : (Int32 × zI × zJ)} : ∀ (n : Nat) (x1 : Int32) (x2 : Int32) (x3 : Int32) (μ : zI) (ν : zJ), f_S_blind_18   n x1 x2 x3 μ ν = some out → Z l D dA ad sh m_S_blind (zR 3 0 0) (zS ad) (zOi out) 0 0 0 0 [] 18 [(0, .ref (ad 0)), (1, .int x1), (2, .int x2), (3, .int x3)] [] μ ν := by
  intro n
  induction n with
  | zero => intro x1 x2 x3 μ ν hF; cases hF
  | succ n ih =>
    intro x1 x2 x3 μ ν hF
    dsimp only [f_S_blind_18] at hF
    refine z_iload_n d_S_blind_18 3 rfl rfl ?_
    refine z_ldc d_S_blind_19 k_S_127 ?_
    refine z_icmp_gt d_S_blind_21 (tgt := 69) (by decide) (fun cy1 => ?_) (fun cy1 => ?_)
    · replace hF := zh_t cy1 hF
      refine z_iload_n d_S_blind_69 2 rfl rfl ?_
      cases hF
      exact z_ireturn d_S_blind_70 rfl rfl ⟨rfl, rfl, rfl⟩
    · replace hF := zh_f cy1 hF
      refine z_aload_n d_S_blind_24 0 rfl rfl ?_
      refine z_getr d_S_blind_25 (q := 4) f_S_28 (hr 0 _ rfl) rfl ?_
      refine z_getr d_S_blind_28 (q := (4 + 13)) f_S_117 ((zRo_4 hr) 0 _ rfl) rfl ?_
      refine z_iload_n d_S_blind_31 3 rfl rfl ?_
      refine z_aload_n d_S_blind_32 0 rfl rfl ?_
      refine z_getr d_S_blind_33 (q := 4) f_S_28 (hr 0 _ rfl) rfl ?_
      refine z_getr d_S_blind_36 (q := (4 + 1)) f_S_143 ((zRo_4 hr) 0 _ rfl) rfl ?_
      refine z_bipush d_S_blind_39 (v := 9) (by decide) ?_
      obtain ⟨ty2, hty2, hF⟩ := zh_bind hF
      refine z_callV d_S_blind_41 (c_Told_get (zRo_4 hr) hty2) mv_Told_get l_S_147 (fun _ _ h => h) ((zRo_4 hr) 1 _ rfl) rfl rfl ⟨Nat.le_of_ble_eq_true rfl, Nat.le_of_ble_eq_true rfl⟩ ⟨Nat.le_of_ble_eq_true rfl, Nat.le_of_ble_eq_true rfl⟩ rfl (Nat.le_of_ble_eq_true rfl) (fun r μ' ν' hq => ?_)
      obtain ⟨rfl, rfl, rfl⟩ := hq
      show Z _ _ _ _ _ _ _ _ _ _ _ 0 0 _ _ _ [.int ty2.1, .int x3, .ref (ad (4 + 13))] _ _
      refine z_iload_n d_S_blind_44 1 rfl rfl ?_
      refine z_aload_n d_S_blind_45 0 rfl rfl ?_
      refine z_getr d_S_blind_46 (q := 4) f_S_28 (hr 0 _ rfl) rfl ?_
      refine z_getr d_S_blind_49 (q := (4 + 1)) f_S_143 ((zRo_4 hr) 0 _ rfl) rfl ?_
      obtain ⟨ty3, hty3, hF⟩ := zh_bind hF
      refine z_callV d_S_blind_52 (c_Inverter_firstAlone (zRo_4 hr) hty3) mv_Inverter_firstAlone l_S_283 (fun _ _ h => h) ((zRo_4 hr) 13 _ rfl) rfl rfl ⟨Nat.le_of_ble_eq_true rfl, Nat.le_of_ble_eq_true rfl⟩ ⟨Nat.le_of_ble_eq_true rfl, Nat.le_of_ble_eq_true rfl⟩ rfl (Nat.le_of_ble_eq_true rfl) (fun r μ' ν' hq => ?_)
      obtain ⟨rfl, rfl, rfl⟩ := hq
      show Z _ _ _ _ _ _ _ _ _ _ _ 0 0 _ _ _ [.int ty3.1] _ _
      refine z_bipush d_S_blind_55 (v := (-2)) (by decide) ?_
      refine z_icmp_ne d_S_blind_57 (tgt := 63) (by decide) (fun cy4 => ?_) (fun cy4 => ?_)
      · replace hF := zh_f cy4 hF
        exact z_S_blind_63 hr (fun a0 a1 a2 a3 a4 => ih a0 a1 a2 a3 a4) hF
      · replace hF := zh_t cy4 hF
        refine z_iinc d_S_blind_60 (k := 2) (v := (x2 + 1)) rfl rfl (by decide) (L2 := [(2, .int (x2 + 1)), (0, .ref (ad 0)), (1, .int x1), (3, .int x3)]) rfl ?_
        refine z_sub [1, 2, 0, 3] (L' := [(0, .ref (ad 0)), (1, .int x1), (2, .int (x2 + 1)), (3, .int x3)]) rfl ?_
        exact z_S_blind_63 hr (fun a0 a1 a2 a3 a4 => ih a0 a1 a2 a3 a4) hF
def e_S_blind_0   (x1 : Int32) (μ : zI) (ν : zJ) : Option (Int32 × zI × zJ) := Option.bind (E_S_isWithin x1 1 200 μ ν) fun ty1 => (if ty1.1 = 0 then some ((-1), ty1.2.1, ty1.2.2) else f_S_blind_18 zFuel x1 0 45000 ty1.2.1 ty1.2.2)
theorem z_S_blind_0 {l : Launch} {D : va_G} {dA : Nat → ClassId} {ad : Nat → Nat} {sh : List zSE}  (hr : zRo sh)  {x1 : Int32} {μ : zI} {ν : zJ} {out : (Int32 × zI × zJ)} (hF : e_S_blind_0   x1 μ ν = some out) : Z l D dA ad sh m_S_blind (zR 3 0 0) (zS ad) (zOi out) 0 0 0 0 [] 0 [(0, .ref (ad 0)), (1, .int x1)] [] μ ν := by
  unfold e_S_blind_0 at hF
  refine z_iload_n d_S_blind_0 1 rfl rfl ?_
  refine z_iconst d_S_blind_1 (v := 1) (by decide) ?_
  refine z_sipush d_S_blind_2 (v := 200) (by decide) ?_
  obtain ⟨ty1, hty1, hF⟩ := zh_bind hF
  refine z_callS d_S_blind_5 (c_S_isWithin  hty1) ms_S_isWithin l_S_54 (fun _ _ h => h) rfl ⟨Nat.le_of_ble_eq_true rfl, Nat.le_of_ble_eq_true rfl⟩ ⟨Nat.le_of_ble_eq_true rfl, Nat.le_of_ble_eq_true rfl⟩ rfl (Nat.le_of_ble_eq_true rfl) (fun r μ' ν' hq => ?_)
  obtain ⟨rfl, rfl, rfl⟩ := hq
  show Z _ _ _ _ _ _ _ _ _ _ _ 0 0 _ _ _ [.int ty1.1] _ _
  refine z_if_ne d_S_blind_8 (tgt := 13) (by decide) (fun cy2 => ?_) (fun cy2 => ?_)
  · replace hF := zh_f cy2 hF
    refine z_iconst d_S_blind_13 (v := 0) (by decide) ?_
    refine z_istore_n d_S_blind_14 rfl (by decide) (L2 := [(2, .int 0), (0, .ref (ad 0)), (1, .int x1)]) rfl ?_
    refine z_ldc d_S_blind_15 k_S_126 ?_
    refine z_istore_n d_S_blind_17 rfl (by decide) (L2 := [(3, .int 45000), (2, .int 0), (0, .ref (ad 0)), (1, .int x1)]) rfl ?_
    refine z_sub [2, 3, 1, 0] (L' := [(0, .ref (ad 0)), (1, .int x1), (2, .int 0), (3, .int 45000)]) rfl ?_
    exact z_S_blind_18 hr  zFuel _ _ _ _ _ hF
  · replace hF := zh_t cy2 hF
    refine z_iconst d_S_blind_11 (v := (-1)) (by decide) ?_
    cases hF
    exact z_ireturn d_S_blind_12 rfl rfl ⟨rfl, rfl, rfl⟩
def E_S_blind  (x1 : Int32) (μ : zI) (ν : zJ) : Option (Int32 × zI × zJ) := e_S_blind_0 x1 μ ν
theorem c_S_blind {l : Launch} {D : va_G} {dA : Nat → ClassId} {ad : Nat → Nat} {sh : List zSE} {μ : zI} {ν : zJ} {x1 : Int32} (hr : zRo sh) {out : (Int32 × zI × zJ)} (hE : E_S_blind x1 μ ν = some out) : zC l D dA ad sh m_S_blind 3 0 0 [.ref (ad 0), .int x1] μ ν (zOi out) :=
  zC.of (by decide) (Nat.le_of_ble_eq_true rfl) (z_S_blind_0 hr hE)
def e_S_bestGap_94  (r23 : Int32 → Int32 → Int64 → Int32 → zI → zJ → Option (Int32 × zI × zJ)) (x1 : Int32) (x2 : Int32) (w3 : Int64) (x5 : Int32) (μ : zI) (ν : zJ) : Option (Int32 × zI × zJ) := r23 x1 x2 w3 (x5 + 10) μ ν
theorem z_S_bestGap_94 {l : Launch} {D : va_G} {dA : Nat → ClassId} {ad : Nat → Nat} {sh : List zSE}  (hr : zRo sh) {r23 : Int32 → Int32 → Int64 → Int32 → zI → zJ → Option (Int32 × zI × zJ)} {x1 : Int32} {x2 : Int32} {w3 : Int64} {x5 : Int32} {μ : zI} {ν : zJ} {out : (Int32 × zI × zJ)} (hr23 : ∀ (x1 : Int32) (x2 : Int32) (w3 : Int64) (x5 : Int32) (μ : zI) (ν : zJ), r23 x1 x2 w3 x5 μ ν = some out → Z l D dA ad sh m_S_bestGap (zR 6 0 0) (zS ad) (zOi out) 0 0 0 0 [] 23 [(0, .ref (ad 0)), (1, .int x1), (2, .int x2), (3, .long w3), (5, .int x5)] [] μ ν) (hF : e_S_bestGap_94  r23 x1 x2 w3 x5 μ ν = some out) : Z l D dA ad sh m_S_bestGap (zR 6 0 0) (zS ad) (zOi out) 0 0 0 0 [] 94 [(0, .ref (ad 0)), (1, .int x1), (2, .int x2), (3, .long w3), (5, .int x5)] [] μ ν := by
  unfold e_S_bestGap_94 at hF
  refine z_iinc d_S_bestGap_94 (k := 4) (v := (x5 + 10)) rfl rfl (by decide) (L2 := [(5, .int (x5 + 10)), (0, .ref (ad 0)), (1, .int x1), (2, .int x2), (3, .long w3)]) rfl ?_
  refine z_goto d_S_bestGap_97 (tgt := 23) (by decide) ?_
  refine z_sub [1, 2, 3, 4, 0] (L' := [(0, .ref (ad 0)), (1, .int x1), (2, .int x2), (3, .long w3), (5, .int (x5 + 10))]) rfl ?_
  exact hr23 _ _ _ _ _ _ hF
def f_S_bestGap_23   : Nat → Int32 → Int32 → Int64 → Int32 → zI → zJ → Option (Int32 × zI × zJ)
  | 0, _, _, _, _, _, _ => none
  | n + 1, x1, x2, w3, x5, μ, ν => Option.bind (E_Told_mostOf 14 μ ν) fun ty1 => (if ty1.1 < x5 then some (x2, ty1.2.1, ty1.2.2) else Option.bind (E_S_beginTrial ty1.2.1 ty1.2.2) fun ty3 => Option.bind (E_Told_put 19 14 x5 ty3.1 ty3.2) fun ty4 => Option.bind (E_Follower_beginScan 19 ty4.1 ty4.2) fun ty5 => Option.bind (E_Station_advanceBy 19 x1 ty5.1 ty5.2) fun ty6 => Option.bind (E_Station_sumOf 19 0 ty6.1 ty6.2) fun ty7 => (if (lg_cmp ty7.1 w3) ≤ 0 then e_S_bestGap_94 (f_S_bestGap_23  n) x1 x2 w3 x5 ty7.2.1 ty7.2.2 else Option.bind (E_Station_sumOf 19 0 ty7.2.1 ty7.2.2) fun ty9 => zlet (α := Int64) ty9.1 fun y10 => e_S_bestGap_94 (f_S_bestGap_23  n) x1 x5 y10 x5 ty9.2.1 ty9.2.2))
theorem z_S_bestGap_23 {l : Launch} {D : va_G} {dA : Nat → ClassId} {ad : Nat → Nat} {sh : List zSE}  (hr : zRo sh)  {out : (Int32 × zI × zJ)} : ∀ (n : Nat) (x1 : Int32) (x2 : Int32) (w3 : Int64) (x5 : Int32) (μ : zI) (ν : zJ), f_S_bestGap_23   n x1 x2 w3 x5 μ ν = some out → Z l D dA ad sh m_S_bestGap (zR 6 0 0) (zS ad) (zOi out) 0 0 0 0 [] 23 [(0, .ref (ad 0)), (1, .int x1), (2, .int x2), (3, .long w3), (5, .int x5)] [] μ ν := by
  intro n
  induction n with
  | zero => intro x1 x2 w3 x5 μ ν hF; cases hF
  | succ n ih =>
    intro x1 x2 w3 x5 μ ν hF
    dsimp only [f_S_bestGap_23] at hF
    refine z_iload d_S_bestGap_23 4 rfl ?_
    refine z_bipush d_S_bestGap_25 (v := 14) (by decide) ?_
    obtain ⟨ty1, hty1, hF⟩ := zh_bind hF
    refine z_callS d_S_bestGap_27 (c_Told_mostOf  hty1) ms_Told_mostOf l_S_280 (fun _ _ h => h) rfl ⟨Nat.le_of_ble_eq_true rfl, Nat.le_of_ble_eq_true rfl⟩ ⟨Nat.le_of_ble_eq_true rfl, Nat.le_of_ble_eq_true rfl⟩ rfl (Nat.le_of_ble_eq_true rfl) (fun r μ' ν' hq => ?_)
    obtain ⟨rfl, rfl, rfl⟩ := hq
    show Z _ _ _ _ _ _ _ _ _ _ _ 0 0 _ _ _ [.int ty1.1, .int x5] _ _
    refine z_icmp_gt d_S_bestGap_30 (tgt := 100) (by decide) (fun cy2 => ?_) (fun cy2 => ?_)
    · replace hF := zh_t cy2 hF
      refine z_iload_n d_S_bestGap_100 2 rfl rfl ?_
      cases hF
      exact z_ireturn d_S_bestGap_101 rfl rfl ⟨rfl, rfl, rfl⟩
    · replace hF := zh_f cy2 hF
      refine z_aload_n d_S_bestGap_33 0 rfl rfl ?_
      obtain ⟨ty3, hty3, hF⟩ := zh_bind hF
      refine z_callV d_S_bestGap_34 (c_S_beginTrial hr hty3) mv_S_beginTrial l_S_253 (fun _ _ h => h) (hr 0 _ rfl) rfl rfl ⟨Nat.le_of_ble_eq_true rfl, Nat.le_of_ble_eq_true rfl⟩ ⟨Nat.le_of_ble_eq_true rfl, Nat.le_of_ble_eq_true rfl⟩ rfl (Nat.le_of_ble_eq_true rfl) (fun r μ' ν' hq => ?_)
      obtain ⟨rfl, rfl, rfl⟩ := hq
      show Z _ _ _ _ _ _ _ _ _ _ _ 0 0 _ _ _ [] _ _
      refine z_aload_n d_S_bestGap_37 0 rfl rfl ?_
      refine z_getr d_S_bestGap_38 (q := 19) f_S_32 (hr 0 _ rfl) rfl ?_
      refine z_getr d_S_bestGap_41 (q := (19 + 1)) f_S_143 ((zRo_19 hr) 0 _ rfl) rfl ?_
      refine z_bipush d_S_bestGap_44 (v := 14) (by decide) ?_
      refine z_iload d_S_bestGap_46 4 rfl ?_
      obtain ⟨ty4, hty4, hF⟩ := zh_bind hF
      refine z_callV d_S_bestGap_48 (c_Told_put (zRo_19 hr) hty4) mv_Told_put l_S_154 (fun _ _ h => h) ((zRo_19 hr) 1 _ rfl) rfl rfl ⟨Nat.le_of_ble_eq_true rfl, Nat.le_of_ble_eq_true rfl⟩ ⟨Nat.le_of_ble_eq_true rfl, Nat.le_of_ble_eq_true rfl⟩ rfl (Nat.le_of_ble_eq_true rfl) (fun r μ' ν' hq => ?_)
      obtain ⟨rfl, rfl, rfl⟩ := hq
      show Z _ _ _ _ _ _ _ _ _ _ _ 0 0 _ _ _ [] _ _
      refine z_aload_n d_S_bestGap_51 0 rfl rfl ?_
      refine z_getr d_S_bestGap_52 (q := 19) f_S_32 (hr 0 _ rfl) rfl ?_
      refine z_getr d_S_bestGap_55 (q := (19 + 11)) f_S_88 ((zRo_19 hr) 0 _ rfl) rfl ?_
      obtain ⟨ty5, hty5, hF⟩ := zh_bind hF
      refine z_callV d_S_bestGap_58 (c_Follower_beginScan (zRo_19 hr) hty5) mv_Follower_beginScan l_S_135 (fun _ _ h => h) ((zRo_19 hr) 11 _ rfl) rfl rfl ⟨Nat.le_of_ble_eq_true rfl, Nat.le_of_ble_eq_true rfl⟩ ⟨Nat.le_of_ble_eq_true rfl, Nat.le_of_ble_eq_true rfl⟩ rfl (Nat.le_of_ble_eq_true rfl) (fun r μ' ν' hq => ?_)
      obtain ⟨rfl, rfl, rfl⟩ := hq
      show Z _ _ _ _ _ _ _ _ _ _ _ 0 0 _ _ _ [] _ _
      refine z_aload_n d_S_bestGap_61 0 rfl rfl ?_
      refine z_getr d_S_bestGap_62 (q := 19) f_S_32 (hr 0 _ rfl) rfl ?_
      refine z_iload_n d_S_bestGap_65 1 rfl rfl ?_
      obtain ⟨ty6, hty6, hF⟩ := zh_bind hF
      refine z_callV d_S_bestGap_66 (c_Station_advanceBy (zRo_19 hr) hty6) mv_Station_advanceBy l_S_256 (fun _ _ h => h) ((zRo_19 hr) 0 _ rfl) rfl rfl ⟨Nat.le_of_ble_eq_true rfl, Nat.le_of_ble_eq_true rfl⟩ ⟨Nat.le_of_ble_eq_true rfl, Nat.le_of_ble_eq_true rfl⟩ rfl (Nat.le_of_ble_eq_true rfl) (fun r μ' ν' hq => ?_)
      obtain ⟨rfl, rfl, rfl⟩ := hq
      show Z _ _ _ _ _ _ _ _ _ _ _ 0 0 _ _ _ [] _ _
      refine z_aload_n d_S_bestGap_69 0 rfl rfl ?_
      refine z_getr d_S_bestGap_70 (q := 19) f_S_32 (hr 0 _ rfl) rfl ?_
      refine z_iconst d_S_bestGap_73 (v := 0) (by decide) ?_
      obtain ⟨ty7, hty7, hF⟩ := zh_bind hF
      refine z_callV d_S_bestGap_74 (c_Station_sumOf (zRo_19 hr) hty7) mv_Station_sumOf l_S_217 (fun _ _ h => h) ((zRo_19 hr) 0 _ rfl) rfl rfl ⟨Nat.le_of_ble_eq_true rfl, Nat.le_of_ble_eq_true rfl⟩ ⟨Nat.le_of_ble_eq_true rfl, Nat.le_of_ble_eq_true rfl⟩ rfl (Nat.le_of_ble_eq_true rfl) (fun r μ' ν' hq => ?_)
      obtain ⟨rfl, rfl, rfl⟩ := hq
      show Z _ _ _ _ _ _ _ _ _ _ _ 0 0 _ _ _ [.long ty7.1] _ _
      refine z_lload_n d_S_bestGap_77 3 rfl rfl ?_
      refine z_lcmp d_S_bestGap_78 ?_
      refine z_if_le d_S_bestGap_79 (tgt := 94) (by decide) (fun cy8 => ?_) (fun cy8 => ?_)
      · replace hF := zh_t cy8 hF
        exact z_S_bestGap_94 hr (fun a0 a1 a2 a3 a4 a5 => ih a0 a1 a2 a3 a4 a5) hF
      · replace hF := zh_f cy8 hF
        refine z_aload_n d_S_bestGap_82 0 rfl rfl ?_
        refine z_getr d_S_bestGap_83 (q := 19) f_S_32 (hr 0 _ rfl) rfl ?_
        refine z_iconst d_S_bestGap_86 (v := 0) (by decide) ?_
        obtain ⟨ty9, hty9, hF⟩ := zh_bind hF
        refine z_callV d_S_bestGap_87 (c_Station_sumOf (zRo_19 hr) hty9) mv_Station_sumOf l_S_217 (fun _ _ h => h) ((zRo_19 hr) 0 _ rfl) rfl rfl ⟨Nat.le_of_ble_eq_true rfl, Nat.le_of_ble_eq_true rfl⟩ ⟨Nat.le_of_ble_eq_true rfl, Nat.le_of_ble_eq_true rfl⟩ rfl (Nat.le_of_ble_eq_true rfl) (fun r μ' ν' hq => ?_)
        obtain ⟨rfl, rfl, rfl⟩ := hq
        show Z _ _ _ _ _ _ _ _ _ _ _ 0 0 _ _ _ [.long ty9.1] _ _
        obtain ⟨y10, hy10, hF⟩ := zh_let hF
        refine z_eql hy10 ?_
        refine z_lstore_n d_S_bestGap_90 rfl (by decide) (L2 := [(3, .long y10), (0, .ref (ad 0)), (1, .int x1), (2, .int x2), (5, .int x5)]) rfl ?_
        refine z_iload d_S_bestGap_91 4 rfl ?_
        refine z_istore_n d_S_bestGap_93 rfl (by decide) (L2 := [(2, .int x5), (3, .long y10), (0, .ref (ad 0)), (1, .int x1), (5, .int x5)]) rfl ?_
        refine z_sub [2, 3, 0, 1, 4] (L' := [(0, .ref (ad 0)), (1, .int x1), (2, .int x5), (3, .long y10), (5, .int x5)]) rfl ?_
        exact z_S_bestGap_94 hr (fun a0 a1 a2 a3 a4 a5 => ih a0 a1 a2 a3 a4 a5) hF
def e_S_bestGap_0   (x1 : Int32) (μ : zI) (ν : zJ) : Option (Int32 × zI × zJ) := Option.bind (E_S_mayTry x1 μ ν) fun ty1 => (if ty1.1 = 0 then some ((-1), ty1.2.1, ty1.2.2) else Option.bind (E_Told_leastOf 14 ty1.2.1 ty1.2.2) fun ty3 => zlet (α := Int32) ty3.1 fun y4 => f_S_bestGap_23 zFuel x1 (-1) (-1) y4 ty3.2.1 ty3.2.2)
theorem z_S_bestGap_0 {l : Launch} {D : va_G} {dA : Nat → ClassId} {ad : Nat → Nat} {sh : List zSE}  (hr : zRo sh)  {x1 : Int32} {μ : zI} {ν : zJ} {out : (Int32 × zI × zJ)} (hF : e_S_bestGap_0   x1 μ ν = some out) : Z l D dA ad sh m_S_bestGap (zR 6 0 0) (zS ad) (zOi out) 0 0 0 0 [] 0 [(0, .ref (ad 0)), (1, .int x1)] [] μ ν := by
  unfold e_S_bestGap_0 at hF
  refine z_aload_n d_S_bestGap_0 0 rfl rfl ?_
  refine z_iload_n d_S_bestGap_1 1 rfl rfl ?_
  obtain ⟨ty1, hty1, hF⟩ := zh_bind hF
  refine z_callV d_S_bestGap_2 (c_S_mayTry hr hty1) mv_S_mayTry l_S_250 (fun _ _ h => h) (hr 0 _ rfl) rfl rfl ⟨Nat.le_of_ble_eq_true rfl, Nat.le_of_ble_eq_true rfl⟩ ⟨Nat.le_of_ble_eq_true rfl, Nat.le_of_ble_eq_true rfl⟩ rfl (Nat.le_of_ble_eq_true rfl) (fun r μ' ν' hq => ?_)
  obtain ⟨rfl, rfl, rfl⟩ := hq
  show Z _ _ _ _ _ _ _ _ _ _ _ 0 0 _ _ _ [.int ty1.1] _ _
  refine z_if_ne d_S_bestGap_5 (tgt := 10) (by decide) (fun cy2 => ?_) (fun cy2 => ?_)
  · replace hF := zh_f cy2 hF
    refine z_iconst d_S_bestGap_10 (v := (-1)) (by decide) ?_
    refine z_istore_n d_S_bestGap_11 rfl (by decide) (L2 := [(2, .int (-1)), (0, .ref (ad 0)), (1, .int x1)]) rfl ?_
    refine z_ldc2 d_S_bestGap_12 k_S_221 ?_
    refine z_lstore_n d_S_bestGap_15 rfl (by decide) (L2 := [(3, .long (-1)), (2, .int (-1)), (0, .ref (ad 0)), (1, .int x1)]) rfl ?_
    refine z_bipush d_S_bestGap_16 (v := 14) (by decide) ?_
    obtain ⟨ty3, hty3, hF⟩ := zh_bind hF
    refine z_callS d_S_bestGap_18 (c_Told_leastOf  hty3) ms_Told_leastOf l_S_277 (fun _ _ h => h) rfl ⟨Nat.le_of_ble_eq_true rfl, Nat.le_of_ble_eq_true rfl⟩ ⟨Nat.le_of_ble_eq_true rfl, Nat.le_of_ble_eq_true rfl⟩ rfl (Nat.le_of_ble_eq_true rfl) (fun r μ' ν' hq => ?_)
    obtain ⟨rfl, rfl, rfl⟩ := hq
    show Z _ _ _ _ _ _ _ _ _ _ _ 0 0 _ _ _ [.int ty3.1] _ _
    obtain ⟨y4, hy4, hF⟩ := zh_let hF
    refine z_eqi hy4 ?_
    refine z_istore d_S_bestGap_21 (by decide) (L2 := [(5, .int y4), (3, .long (-1)), (2, .int (-1)), (0, .ref (ad 0)), (1, .int x1)]) rfl ?_
    refine z_sub [3, 4, 2, 1, 0] (L' := [(0, .ref (ad 0)), (1, .int x1), (2, .int (-1)), (3, .long (-1)), (5, .int y4)]) rfl ?_
    exact z_S_bestGap_23 hr  zFuel _ _ _ _ _ _ hF
  · replace hF := zh_t cy2 hF
    refine z_iconst d_S_bestGap_8 (v := (-1)) (by decide) ?_
    cases hF
    exact z_ireturn d_S_bestGap_9 rfl rfl ⟨rfl, rfl, rfl⟩
def E_S_bestGap  (x1 : Int32) (μ : zI) (ν : zJ) : Option (Int32 × zI × zJ) := e_S_bestGap_0 x1 μ ν
theorem c_S_bestGap {l : Launch} {D : va_G} {dA : Nat → ClassId} {ad : Nat → Nat} {sh : List zSE} {μ : zI} {ν : zJ} {x1 : Int32} (hr : zRo sh) {out : (Int32 × zI × zJ)} (hE : E_S_bestGap x1 μ ν = some out) : zC l D dA ad sh m_S_bestGap 6 0 0 [.ref (ad 0), .int x1] μ ν (zOi out) :=
  zC.of (by decide) (Nat.le_of_ble_eq_true rfl) (z_S_bestGap_0 hr hE)
def e_S_ifNear_18   (x1 : Int32) (x2 : Int32) (μ : zI) (ν : zJ) : Option (Int32 × zI × zJ) := some ((-1), μ, ν)
theorem z_S_ifNear_18 {l : Launch} {D : va_G} {dA : Nat → ClassId} {ad : Nat → Nat} {sh : List zSE}  (hr : zRo sh)  {x1 : Int32} {x2 : Int32} {μ : zI} {ν : zJ} {out : (Int32 × zI × zJ)} (hF : e_S_ifNear_18   x1 x2 μ ν = some out) : Z l D dA ad sh m_S_ifNear (zR 5 0 0) (zS ad) (zOi out) 0 0 0 0 [] 18 [(0, .ref (ad 0)), (1, .int x1), (2, .int x2)] [] μ ν := by
  unfold e_S_ifNear_18 at hF
  refine z_iconst d_S_ifNear_18 (v := (-1)) (by decide) ?_
  cases hF
  exact z_ireturn d_S_ifNear_19 rfl rfl ⟨rfl, rfl, rfl⟩
def e_S_ifNear_72  (r29 : Int32 → Int32 → Int32 → Int32 → zI → zJ → Option (Int32 × zI × zJ)) (x1 : Int32) (x2 : Int32) (x3 : Int32) (x4 : Int32) (μ : zI) (ν : zJ) : Option (Int32 × zI × zJ) := r29 x1 x2 x3 (x4 + 1) μ ν
theorem z_S_ifNear_72 {l : Launch} {D : va_G} {dA : Nat → ClassId} {ad : Nat → Nat} {sh : List zSE}  (hr : zRo sh) {r29 : Int32 → Int32 → Int32 → Int32 → zI → zJ → Option (Int32 × zI × zJ)} {x1 : Int32} {x2 : Int32} {x3 : Int32} {x4 : Int32} {μ : zI} {ν : zJ} {out : (Int32 × zI × zJ)} (hr29 : ∀ (x1 : Int32) (x2 : Int32) (x3 : Int32) (x4 : Int32) (μ : zI) (ν : zJ), r29 x1 x2 x3 x4 μ ν = some out → Z l D dA ad sh m_S_ifNear (zR 5 0 0) (zS ad) (zOi out) 0 0 0 0 [] 29 [(0, .ref (ad 0)), (1, .int x1), (2, .int x2), (3, .int x3), (4, .int x4)] [] μ ν) (hF : e_S_ifNear_72  r29 x1 x2 x3 x4 μ ν = some out) : Z l D dA ad sh m_S_ifNear (zR 5 0 0) (zS ad) (zOi out) 0 0 0 0 [] 72 [(0, .ref (ad 0)), (1, .int x1), (2, .int x2), (3, .int x3), (4, .int x4)] [] μ ν := by
  unfold e_S_ifNear_72 at hF
  refine z_iinc d_S_ifNear_72 (k := 4) (v := (x4 + 1)) rfl rfl (by decide) (L2 := [(4, .int (x4 + 1)), (0, .ref (ad 0)), (1, .int x1), (2, .int x2), (3, .int x3)]) rfl ?_
  refine z_goto d_S_ifNear_75 (tgt := 29) (by decide) ?_
  refine z_sub [1, 2, 3, 4, 0] (L' := [(0, .ref (ad 0)), (1, .int x1), (2, .int x2), (3, .int x3), (4, .int (x4 + 1))]) rfl ?_
  exact hr29 _ _ _ _ _ _ hF
def f_S_ifNear_29   : Nat → Int32 → Int32 → Int32 → Int32 → zI → zJ → Option (Int32 × zI × zJ)
  | 0, _, _, _, _, _, _ => none
  | n + 1, x1, x2, x3, x4, μ, ν => (if x1 ≤ x4 then some (x3, μ, ν) else Option.bind (E_Station_advance 19 μ ν) fun ty2 => Option.bind (E_S_isNear (ty2.1 (19 + 11) 6) x2 (ty2.1 (19 + 3) 2) ty2.1 ty2.2) fun ty3 => (if ty3.1 = 0 then e_S_ifNear_72 (f_S_ifNear_29  n) x1 x2 x3 x4 ty3.2.1 ty3.2.2 else e_S_ifNear_72 (f_S_ifNear_29  n) x1 x2 (x3 + 1) x4 ty3.2.1 ty3.2.2))
theorem z_S_ifNear_29 {l : Launch} {D : va_G} {dA : Nat → ClassId} {ad : Nat → Nat} {sh : List zSE}  (hr : zRo sh)  {out : (Int32 × zI × zJ)} : ∀ (n : Nat) (x1 : Int32) (x2 : Int32) (x3 : Int32) (x4 : Int32) (μ : zI) (ν : zJ), f_S_ifNear_29   n x1 x2 x3 x4 μ ν = some out → Z l D dA ad sh m_S_ifNear (zR 5 0 0) (zS ad) (zOi out) 0 0 0 0 [] 29 [(0, .ref (ad 0)), (1, .int x1), (2, .int x2), (3, .int x3), (4, .int x4)] [] μ ν := by
  intro n
  induction n with
  | zero => intro x1 x2 x3 x4 μ ν hF; cases hF
  | succ n ih =>
    intro x1 x2 x3 x4 μ ν hF
    dsimp only [f_S_ifNear_29] at hF
    refine z_iload d_S_ifNear_29 4 rfl ?_
    refine z_iload_n d_S_ifNear_31 1 rfl rfl ?_
    refine z_icmp_ge d_S_ifNear_32 (tgt := 78) (by decide) (fun cy1 => ?_) (fun cy1 => ?_)
    · replace hF := zh_t cy1 hF
      refine z_iload_n d_S_ifNear_78 3 rfl rfl ?_
      cases hF
      exact z_ireturn d_S_ifNear_79 rfl rfl ⟨rfl, rfl, rfl⟩
    · replace hF := zh_f cy1 hF
      refine z_aload_n d_S_ifNear_35 0 rfl rfl ?_
      refine z_getr d_S_ifNear_36 (q := 19) f_S_32 (hr 0 _ rfl) rfl ?_
      obtain ⟨ty2, hty2, hF⟩ := zh_bind hF
      refine z_callV d_S_ifNear_39 (c_Station_advance (zRo_19 hr) hty2) mv_Station_advance l_S_82 (fun _ _ h => h) ((zRo_19 hr) 0 _ rfl) rfl rfl ⟨Nat.le_of_ble_eq_true rfl, Nat.le_of_ble_eq_true rfl⟩ ⟨Nat.le_of_ble_eq_true rfl, Nat.le_of_ble_eq_true rfl⟩ rfl (Nat.le_of_ble_eq_true rfl) (fun r μ' ν' hq => ?_)
      obtain ⟨rfl, rfl, rfl⟩ := hq
      show Z _ _ _ _ _ _ _ _ _ _ _ 0 0 _ _ _ [] _ _
      refine z_aload_n d_S_ifNear_42 0 rfl rfl ?_
      refine z_getr d_S_ifNear_43 (q := 19) f_S_32 (hr 0 _ rfl) rfl ?_
      refine z_getr d_S_ifNear_46 (q := (19 + 11)) f_S_88 ((zRo_19 hr) 0 _ rfl) rfl ?_
      refine z_get d_S_ifNear_49 f_S_92 ((zRo_19 hr) 11 _ rfl) rfl ?_
      refine z_iload_n d_S_ifNear_52 2 rfl rfl ?_
      refine z_aload_n d_S_ifNear_53 0 rfl rfl ?_
      refine z_getr d_S_ifNear_54 (q := 19) f_S_32 (hr 0 _ rfl) rfl ?_
      refine z_getr d_S_ifNear_57 (q := (19 + 3)) f_S_100 ((zRo_19 hr) 0 _ rfl) rfl ?_
      refine z_get d_S_ifNear_60 f_S_193 ((zRo_19 hr) 3 _ rfl) rfl ?_
      obtain ⟨ty3, hty3, hF⟩ := zh_bind hF
      refine z_callS d_S_ifNear_63 (c_S_isNear  hty3) ms_S_isNear l_S_196 (fun _ _ h => h) rfl ⟨Nat.le_of_ble_eq_true rfl, Nat.le_of_ble_eq_true rfl⟩ ⟨Nat.le_of_ble_eq_true rfl, Nat.le_of_ble_eq_true rfl⟩ rfl (Nat.le_of_ble_eq_true rfl) (fun r μ' ν' hq => ?_)
      obtain ⟨rfl, rfl, rfl⟩ := hq
      show Z _ _ _ _ _ _ _ _ _ _ _ 0 0 _ _ _ [.int ty3.1] _ _
      refine z_if_eq d_S_ifNear_66 (tgt := 72) (by decide) (fun cy4 => ?_) (fun cy4 => ?_)
      · replace hF := zh_t cy4 hF
        exact z_S_ifNear_72 hr (fun a0 a1 a2 a3 a4 a5 => ih a0 a1 a2 a3 a4 a5) hF
      · replace hF := zh_f cy4 hF
        refine z_iinc d_S_ifNear_69 (k := 3) (v := (x3 + 1)) rfl rfl (by decide) (L2 := [(3, .int (x3 + 1)), (0, .ref (ad 0)), (1, .int x1), (2, .int x2), (4, .int x4)]) rfl ?_
        refine z_sub [1, 2, 3, 0, 4] (L' := [(0, .ref (ad 0)), (1, .int x1), (2, .int x2), (3, .int (x3 + 1)), (4, .int x4)]) rfl ?_
        exact z_S_ifNear_72 hr (fun a0 a1 a2 a3 a4 a5 => ih a0 a1 a2 a3 a4 a5) hF
def e_S_ifNear_0   (x1 : Int32) (x2 : Int32) (μ : zI) (ν : zJ) : Option (Int32 × zI × zJ) := Option.bind (E_S_mayTry x1 μ ν) fun ty1 => (if ty1.1 = 0 then e_S_ifNear_18 x1 x2 ty1.2.1 ty1.2.2 else Option.bind (E_S_isWithin x2 0 100 ty1.2.1 ty1.2.2) fun ty3 => (if ty3.1 = 0 then e_S_ifNear_18 x1 x2 ty3.2.1 ty3.2.2 else Option.bind (E_S_beginTrial ty3.2.1 ty3.2.2) fun ty5 => f_S_ifNear_29 zFuel x1 x2 0 0 ty5.1 ty5.2))
theorem z_S_ifNear_0 {l : Launch} {D : va_G} {dA : Nat → ClassId} {ad : Nat → Nat} {sh : List zSE}  (hr : zRo sh)  {x1 : Int32} {x2 : Int32} {μ : zI} {ν : zJ} {out : (Int32 × zI × zJ)} (hF : e_S_ifNear_0   x1 x2 μ ν = some out) : Z l D dA ad sh m_S_ifNear (zR 5 0 0) (zS ad) (zOi out) 0 0 0 0 [] 0 [(0, .ref (ad 0)), (1, .int x1), (2, .int x2)] [] μ ν := by
  unfold e_S_ifNear_0 at hF
  refine z_aload_n d_S_ifNear_0 0 rfl rfl ?_
  refine z_iload_n d_S_ifNear_1 1 rfl rfl ?_
  obtain ⟨ty1, hty1, hF⟩ := zh_bind hF
  refine z_callV d_S_ifNear_2 (c_S_mayTry hr hty1) mv_S_mayTry l_S_250 (fun _ _ h => h) (hr 0 _ rfl) rfl rfl ⟨Nat.le_of_ble_eq_true rfl, Nat.le_of_ble_eq_true rfl⟩ ⟨Nat.le_of_ble_eq_true rfl, Nat.le_of_ble_eq_true rfl⟩ rfl (Nat.le_of_ble_eq_true rfl) (fun r μ' ν' hq => ?_)
  obtain ⟨rfl, rfl, rfl⟩ := hq
  show Z _ _ _ _ _ _ _ _ _ _ _ 0 0 _ _ _ [.int ty1.1] _ _
  refine z_if_eq d_S_ifNear_5 (tgt := 18) (by decide) (fun cy2 => ?_) (fun cy2 => ?_)
  · replace hF := zh_t cy2 hF
    exact z_S_ifNear_18 hr  hF
  · replace hF := zh_f cy2 hF
    refine z_iload_n d_S_ifNear_8 2 rfl rfl ?_
    refine z_iconst d_S_ifNear_9 (v := 0) (by decide) ?_
    refine z_bipush d_S_ifNear_10 (v := 100) (by decide) ?_
    obtain ⟨ty3, hty3, hF⟩ := zh_bind hF
    refine z_callS d_S_ifNear_12 (c_S_isWithin  hty3) ms_S_isWithin l_S_54 (fun _ _ h => h) rfl ⟨Nat.le_of_ble_eq_true rfl, Nat.le_of_ble_eq_true rfl⟩ ⟨Nat.le_of_ble_eq_true rfl, Nat.le_of_ble_eq_true rfl⟩ rfl (Nat.le_of_ble_eq_true rfl) (fun r μ' ν' hq => ?_)
    obtain ⟨rfl, rfl, rfl⟩ := hq
    show Z _ _ _ _ _ _ _ _ _ _ _ 0 0 _ _ _ [.int ty3.1] _ _
    refine z_if_ne d_S_ifNear_15 (tgt := 20) (by decide) (fun cy4 => ?_) (fun cy4 => ?_)
    · replace hF := zh_f cy4 hF
      refine z_aload_n d_S_ifNear_20 0 rfl rfl ?_
      obtain ⟨ty5, hty5, hF⟩ := zh_bind hF
      refine z_callV d_S_ifNear_21 (c_S_beginTrial hr hty5) mv_S_beginTrial l_S_253 (fun _ _ h => h) (hr 0 _ rfl) rfl rfl ⟨Nat.le_of_ble_eq_true rfl, Nat.le_of_ble_eq_true rfl⟩ ⟨Nat.le_of_ble_eq_true rfl, Nat.le_of_ble_eq_true rfl⟩ rfl (Nat.le_of_ble_eq_true rfl) (fun r μ' ν' hq => ?_)
      obtain ⟨rfl, rfl, rfl⟩ := hq
      show Z _ _ _ _ _ _ _ _ _ _ _ 0 0 _ _ _ [] _ _
      refine z_iconst d_S_ifNear_24 (v := 0) (by decide) ?_
      refine z_istore_n d_S_ifNear_25 rfl (by decide) (L2 := [(3, .int 0), (0, .ref (ad 0)), (1, .int x1), (2, .int x2)]) rfl ?_
      refine z_iconst d_S_ifNear_26 (v := 0) (by decide) ?_
      refine z_istore d_S_ifNear_27 (by decide) (L2 := [(4, .int 0), (3, .int 0), (0, .ref (ad 0)), (1, .int x1), (2, .int x2)]) rfl ?_
      refine z_sub [2, 3, 4, 1, 0] (L' := [(0, .ref (ad 0)), (1, .int x1), (2, .int x2), (3, .int 0), (4, .int 0)]) rfl ?_
      exact z_S_ifNear_29 hr  zFuel _ _ _ _ _ _ hF
    · replace hF := zh_t cy4 hF
      exact z_S_ifNear_18 hr  hF
def E_S_ifNear  (x1 : Int32) (x2 : Int32) (μ : zI) (ν : zJ) : Option (Int32 × zI × zJ) := e_S_ifNear_0 x1 x2 μ ν
theorem c_S_ifNear {l : Launch} {D : va_G} {dA : Nat → ClassId} {ad : Nat → Nat} {sh : List zSE} {μ : zI} {ν : zJ} {x1 : Int32} {x2 : Int32} (hr : zRo sh) {out : (Int32 × zI × zJ)} (hE : E_S_ifNear x1 x2 μ ν = some out) : zC l D dA ad sh m_S_ifNear 5 0 0 [.ref (ad 0), .int x1, .int x2] μ ν (zOi out) :=
  zC.of (by decide) (Nat.le_of_ble_eq_true rfl) (z_S_ifNear_0 hr hE)
def e_S_count_0   (x1 : Int32) (μ : zI) (ν : zJ) : Option (Int32 × zI × zJ) := (if x1 = 0 then some ((μ (4 + 3) 0), μ, ν) else (if x1 = 1 then Option.bind (E_Schedule_left 4 μ ν) fun ty5 => some (ty5.1, ty5.2.1, ty5.2.2) else (if x1 = 2 then some ((μ 34 0), μ, ν) else (if x1 = 3 then some ((μ 1 1), μ, ν) else some ((-1), μ, ν)))))
theorem z_S_count_0 {l : Launch} {D : va_G} {dA : Nat → ClassId} {ad : Nat → Nat} {sh : List zSE}  (hr : zRo sh)  {x1 : Int32} {μ : zI} {ν : zJ} {out : (Int32 × zI × zJ)} (hF : e_S_count_0   x1 μ ν = some out) : Z l D dA ad sh m_S_count (zR 1 0 0) (zS ad) (zOi out) 0 0 0 0 [] 0 [(0, .ref (ad 0)), (1, .int x1)] [] μ ν := by
  unfold e_S_count_0 at hF
  refine z_iload_n d_S_count_0 1 rfl rfl ?_
  by_cases cy1 : x1 = 0
  · replace hF := zh_t cy1 hF
    refine z_tabIn d_S_count_1 (tgt := 32) 0 cy1 (by decide) (by decide) (off := 31) (by decide) (by decide) ?_
    refine z_aload_n d_S_count_32 0 rfl rfl ?_
    refine z_getr d_S_count_33 (q := 4) f_S_28 (hr 0 _ rfl) rfl ?_
    refine z_getr d_S_count_36 (q := (4 + 3)) f_S_100 ((zRo_4 hr) 0 _ rfl) rfl ?_
    refine z_get d_S_count_39 f_S_207 ((zRo_4 hr) 3 _ rfl) rfl ?_
    cases hF
    exact z_ireturn d_S_count_42 rfl rfl ⟨rfl, rfl, rfl⟩
  · replace hF := zh_f cy1 hF
    by_cases cy2 : x1 = 1
    · replace hF := zh_t cy2 hF
      refine z_tabIn d_S_count_1 (tgt := 43) 1 cy2 (by decide) (by decide) (off := 42) (by decide) (by decide) ?_
      refine z_aload_n d_S_count_43 0 rfl rfl ?_
      refine z_getr d_S_count_44 (q := 4) f_S_28 (hr 0 _ rfl) rfl ?_
      refine z_getr d_S_count_47 (q := (4 + 9)) f_S_238 ((zRo_4 hr) 0 _ rfl) rfl ?_
      obtain ⟨ty5, hty5, hF⟩ := zh_bind hF
      refine z_callV d_S_count_50 (c_Schedule_left (zRo_4 hr) hty5) mv_Schedule_left l_S_242 (fun _ _ h => h) ((zRo_4 hr) 9 _ rfl) rfl rfl ⟨Nat.le_of_ble_eq_true rfl, Nat.le_of_ble_eq_true rfl⟩ ⟨Nat.le_of_ble_eq_true rfl, Nat.le_of_ble_eq_true rfl⟩ rfl (Nat.le_of_ble_eq_true rfl) (fun r μ' ν' hq => ?_)
      obtain ⟨rfl, rfl, rfl⟩ := hq
      show Z _ _ _ _ _ _ _ _ _ _ _ 0 0 _ _ _ [.int ty5.1] _ _
      cases hF
      exact z_ireturn d_S_count_53 rfl rfl ⟨rfl, rfl, rfl⟩
    · replace hF := zh_f cy2 hF
      by_cases cy3 : x1 = 2
      · replace hF := zh_t cy3 hF
        refine z_tabIn d_S_count_1 (tgt := 54) 2 cy3 (by decide) (by decide) (off := 53) (by decide) (by decide) ?_
        refine z_aload_n d_S_count_54 0 rfl rfl ?_
        refine z_getr d_S_count_55 (q := 34) f_S_38 (hr 0 _ rfl) rfl ?_
        refine z_get d_S_count_58 f_S_66 (hr 34 _ rfl) rfl ?_
        cases hF
        exact z_ireturn d_S_count_61 rfl rfl ⟨rfl, rfl, rfl⟩
      · replace hF := zh_f cy3 hF
        by_cases cy4 : x1 = 3
        · replace hF := zh_t cy4 hF
          refine z_tabIn d_S_count_1 (tgt := 62) 3 cy4 (by decide) (by decide) (off := 61) (by decide) (by decide) ?_
          refine z_aload_n d_S_count_62 0 rfl rfl ?_
          refine z_getr d_S_count_63 (q := 1) f_S_12 (hr 0 _ rfl) rfl ?_
          refine z_get d_S_count_66 f_S_50 (hr 1 _ rfl) rfl ?_
          cases hF
          exact z_ireturn d_S_count_69 rfl rfl ⟨rfl, rfl, rfl⟩
        · replace hF := zh_f cy4 hF
          refine z_tabOut d_S_count_1 (tgt := 70) [0, 1, 2, 3] (List.forall_mem_cons.mpr ⟨cy1, List.forall_mem_cons.mpr ⟨cy2, List.forall_mem_cons.mpr ⟨cy3, List.forall_mem_cons.mpr ⟨cy4, fun _ h => absurd h List.not_mem_nil⟩⟩⟩⟩) (by decide) (by decide) ?_
          refine z_iconst d_S_count_70 (v := (-1)) (by decide) ?_
          cases hF
          exact z_ireturn d_S_count_71 rfl rfl ⟨rfl, rfl, rfl⟩
def E_S_count  (x1 : Int32) (μ : zI) (ν : zJ) : Option (Int32 × zI × zJ) := e_S_count_0 x1 μ ν
theorem c_S_count {l : Launch} {D : va_G} {dA : Nat → ClassId} {ad : Nat → Nat} {sh : List zSE} {μ : zI} {ν : zJ} {x1 : Int32} (hr : zRo sh) {out : (Int32 × zI × zJ)} (hE : E_S_count x1 μ ν = some out) : zC l D dA ad sh m_S_count 1 0 0 [.ref (ad 0), .int x1] μ ν (zOi out) :=
  zC.of (by decide) (Nat.le_of_ble_eq_true rfl) (z_S_count_0 hr hE)
