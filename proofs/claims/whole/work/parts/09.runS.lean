def e_S_flag_9   (x0 : Int32) (s0 : Int32) (μ : zI) (ν : zJ) : Option (Int32 × zI × zJ) := some (s0, μ, ν)
theorem z_S_flag_9 {l : Launch} {D : va_G} {dA : Nat → ClassId} {ad : Nat → Nat} {sh : List zSE}    {x0 : Int32} {s0 : Int32} {μ : zI} {ν : zJ} {out : (Int32 × zI × zJ)} (hF : e_S_flag_9   x0 s0 μ ν = some out) : Z l D dA ad sh m_S_flag (zR 0 0 0) (zS ad) (zOi out) 0 0 0 0 [] 9 [(0, .int x0)] [.int s0] μ ν := by
  unfold e_S_flag_9 at hF
  cases hF
  exact z_ireturn d_S_flag_9 rfl rfl ⟨rfl, rfl, rfl⟩
def e_S_flag_0   (x0 : Int32) (μ : zI) (ν : zJ) : Option (Int32 × zI × zJ) := (if x0 = 0 then e_S_flag_9 x0 0 μ ν else e_S_flag_9 x0 1 μ ν)
theorem z_S_flag_0 {l : Launch} {D : va_G} {dA : Nat → ClassId} {ad : Nat → Nat} {sh : List zSE}    {x0 : Int32} {μ : zI} {ν : zJ} {out : (Int32 × zI × zJ)} (hF : e_S_flag_0   x0 μ ν = some out) : Z l D dA ad sh m_S_flag (zR 0 0 0) (zS ad) (zOi out) 0 0 0 0 [] 0 [(0, .int x0)] [] μ ν := by
  unfold e_S_flag_0 at hF
  refine z_iload_n d_S_flag_0 0 rfl rfl ?_
  refine z_if_eq d_S_flag_1 (tgt := 8) (by decide) (fun cy1 => ?_) (fun cy1 => ?_)
  · replace hF := zh_t cy1 hF
    refine z_iconst d_S_flag_8 (v := 0) (by decide) ?_
    exact z_S_flag_9   hF
  · replace hF := zh_f cy1 hF
    refine z_iconst d_S_flag_4 (v := 1) (by decide) ?_
    refine z_goto d_S_flag_5 (tgt := 9) (by decide) ?_
    exact z_S_flag_9   hF
def E_S_flag  (x0 : Int32) (μ : zI) (ν : zJ) : Option (Int32 × zI × zJ) := e_S_flag_0 x0 μ ν
theorem c_S_flag {l : Launch} {D : va_G} {dA : Nat → ClassId} {ad : Nat → Nat} {sh : List zSE} {μ : zI} {ν : zJ} {x0 : Int32}  {out : (Int32 × zI × zJ)} (hE : E_S_flag x0 μ ν = some out) : zC l D dA ad sh m_S_flag 0 0 0 [.int x0] μ ν (zOi out) :=
  zC.of (by decide) (Nat.le_of_ble_eq_true rfl) (z_S_flag_0  hE)
def e_S_isNear_15   (x0 : Int32) (x1 : Int32) (x2 : Int32) (s0 : Int32) (μ : zI) (ν : zJ) : Option (Int32 × zI × zJ) := (if zb s0 = true then some (s0, μ, ν) else none)
theorem z_S_isNear_15 {l : Launch} {D : va_G} {dA : Nat → ClassId} {ad : Nat → Nat} {sh : List zSE}    {x0 : Int32} {x1 : Int32} {x2 : Int32} {s0 : Int32} {μ : zI} {ν : zJ} {out : (Int32 × zI × zJ)} (hF : e_S_isNear_15   x0 x1 x2 s0 μ ν = some out) : Z l D dA ad sh m_S_isNear (zR 0 0 0) (zS ad) (zOi out) 0 0 0 0 [] 15 [(0, .int x0), (1, .int x1), (2, .int x2)] [.int s0] μ ν := by
  unfold e_S_isNear_15 at hF
  obtain ⟨hy1, hF⟩ := zh_if hF
  cases hF
  exact z_ireturn d_S_isNear_15 rfl (zb_n hy1) ⟨rfl, rfl, rfl⟩
def e_S_isNear_0   (x0 : Int32) (x1 : Int32) (x2 : Int32) (μ : zI) (ν : zJ) : Option (Int32 × zI × zJ) := (if (x0 * 100) < (x1 * x2) then e_S_isNear_15 x0 x1 x2 0 μ ν else e_S_isNear_15 x0 x1 x2 1 μ ν)
theorem z_S_isNear_0 {l : Launch} {D : va_G} {dA : Nat → ClassId} {ad : Nat → Nat} {sh : List zSE}    {x0 : Int32} {x1 : Int32} {x2 : Int32} {μ : zI} {ν : zJ} {out : (Int32 × zI × zJ)} (hF : e_S_isNear_0   x0 x1 x2 μ ν = some out) : Z l D dA ad sh m_S_isNear (zR 0 0 0) (zS ad) (zOi out) 0 0 0 0 [] 0 [(0, .int x0), (1, .int x1), (2, .int x2)] [] μ ν := by
  unfold e_S_isNear_0 at hF
  refine z_iload_n d_S_isNear_0 0 rfl rfl ?_
  refine z_bipush d_S_isNear_1 (v := 100) (by decide) ?_
  refine z_imul d_S_isNear_3 ?_
  refine z_iload_n d_S_isNear_4 1 rfl rfl ?_
  refine z_iload_n d_S_isNear_5 2 rfl rfl ?_
  refine z_imul d_S_isNear_6 ?_
  refine z_icmp_lt d_S_isNear_7 (tgt := 14) (by decide) (fun cy1 => ?_) (fun cy1 => ?_)
  · replace hF := zh_t cy1 hF
    refine z_iconst d_S_isNear_14 (v := 0) (by decide) ?_
    exact z_S_isNear_15   hF
  · replace hF := zh_f cy1 hF
    refine z_iconst d_S_isNear_10 (v := 1) (by decide) ?_
    refine z_goto d_S_isNear_11 (tgt := 15) (by decide) ?_
    exact z_S_isNear_15   hF
def E_S_isNear  (x0 : Int32) (x1 : Int32) (x2 : Int32) (μ : zI) (ν : zJ) : Option (Int32 × zI × zJ) := e_S_isNear_0 x0 x1 x2 μ ν
theorem c_S_isNear {l : Launch} {D : va_G} {dA : Nat → ClassId} {ad : Nat → Nat} {sh : List zSE} {μ : zI} {ν : zJ} {x0 : Int32} {x1 : Int32} {x2 : Int32}  {out : (Int32 × zI × zJ)} (hE : E_S_isNear x0 x1 x2 μ ν = some out) : zC l D dA ad sh m_S_isNear 0 0 0 [.int x0, .int x1, .int x2] μ ν (zOi out) :=
  zC.of (by decide) (Nat.le_of_ble_eq_true rfl) (z_S_isNear_0  hE)
def e_Told_renew_0 (b : Nat)   (μ : zI) (ν : zJ) : Option (zI × zJ) := (if zcp 0 19 19 = true then (if zcp 0 19 19 = true then zlet (zr μ (b + 2) (va_cpy (fun j => ((zTabs.getD 0 ("", "", [])).2.2).getD j 0) (μ (b + 2)) 0 0 19)) fun μy3 => some (μy3, ν) else none) else none)
theorem z_Told_renew_0 {l : Launch} {D : va_G} {dA : Nat → ClassId} {ad : Nat → Nat} {sh : List zSE}  {b : Nat} (hs : zSt sh b)   {μ : zI} {ν : zJ} {out : (zI × zJ)} (hF : e_Told_renew_0 b   μ ν = some out) : Z l D dA ad sh m_Told_renew (zR 1 0 0) (zS ad) (zOv out) 0 0 0 0 [] 0 [(0, .ref (ad (b + 1)))] [] μ ν := by
  unfold e_Told_renew_0 at hF
  refine z_gets d_Told_renew_0 (fun _ _ h => h) (k := 0) rfl s_Told_19 ?_
  refine z_iconst d_Told_renew_3 (v := 0) (by decide) ?_
  refine z_aload_n d_Told_renew_4 0 rfl rfl ?_
  refine z_getr d_Told_renew_5 (q := (b + 2)) f_Told_9 (hs 1 _ rfl) rfl ?_
  refine z_iconst d_Told_renew_8 (v := 0) (by decide) ?_
  refine z_bipush d_Told_renew_9 (v := 19) (by decide) ?_
  obtain ⟨hy1, hF⟩ := zh_if hF
  obtain ⟨hy2, hF⟩ := zh_if hF
  refine z_copyT d_Told_renew_11 l_Told_22 cp_ok (fun _ _ h => h) (k := 0) rfl (hs 2 _ rfl) (zcp_a hy1) (zcp_a hy2) (zcp_b hy1) (zcp_c hy1) (zcp_c hy2) ⟨Nat.le_of_ble_eq_true rfl, Nat.le_of_ble_eq_true rfl⟩ ?_
  obtain ⟨μy3, hy3, hF⟩ := zh_let hF
  refine z_eqm hy3 ?_
  cases hF
  exact z_return d_Told_renew_14 rfl ⟨rfl, rfl, rfl⟩
def E_Told_renew (b : Nat)  (μ : zI) (ν : zJ) : Option (zI × zJ) := e_Told_renew_0 b μ ν
theorem c_Told_renew {l : Launch} {D : va_G} {dA : Nat → ClassId} {ad : Nat → Nat} {sh : List zSE} {μ : zI} {ν : zJ} {b : Nat} (hs : zSt sh b) {out : (zI × zJ)} (hE : E_Told_renew b μ ν = some out) : zC l D dA ad sh m_Told_renew 1 0 0 [.ref (ad (b + 1))] μ ν (zOv out) :=
  zC.of (by decide) (Nat.le_of_ble_eq_true rfl) (z_Told_renew_0 hs hE)
def e_Panel_renew_0 (b : Nat)   (μ : zI) (ν : zJ) : Option (zI × zJ) := zlet (zu μ (b + 3) 0 0) fun μy1 => some (μy1, ν)
theorem z_Panel_renew_0 {l : Launch} {D : va_G} {dA : Nat → ClassId} {ad : Nat → Nat} {sh : List zSE}  {b : Nat} (hs : zSt sh b)   {μ : zI} {ν : zJ} {out : (zI × zJ)} (hF : e_Panel_renew_0 b   μ ν = some out) : Z l D dA ad sh m_Panel_renew (zR 0 0 0) (zS ad) (zOv out) 0 0 0 0 [] 0 [(0, .ref (ad (b + 3)))] [] μ ν := by
  unfold e_Panel_renew_0 at hF
  refine z_aload_n d_Panel_renew_0 0 rfl rfl ?_
  refine z_iconst d_Panel_renew_1 (v := 0) (by decide) ?_
  refine z_put d_Panel_renew_2 f_Panel_27 (hs 3 _ rfl) rfl (CL_fin _ _ (fun q hq => by cases hq; rfl)) rfl rfl ?_
  obtain ⟨μy1, hy1, hF⟩ := zh_let hF
  refine z_eqm hy1 ?_
  cases hF
  exact z_return d_Panel_renew_5 rfl ⟨rfl, rfl, rfl⟩
def E_Panel_renew (b : Nat)  (μ : zI) (ν : zJ) : Option (zI × zJ) := e_Panel_renew_0 b μ ν
theorem c_Panel_renew {l : Launch} {D : va_G} {dA : Nat → ClassId} {ad : Nat → Nat} {sh : List zSE} {μ : zI} {ν : zJ} {b : Nat} (hs : zSt sh b) {out : (zI × zJ)} (hE : E_Panel_renew b μ ν = some out) : zC l D dA ad sh m_Panel_renew 0 0 0 [.ref (ad (b + 3))] μ ν (zOv out) :=
  zC.of (by decide) (Nat.le_of_ble_eq_true rfl) (z_Panel_renew_0 hs hE)
def e_Schedule_renew_0 (b : Nat)   (μ : zI) (ν : zJ) : Option (zI × zJ) := zlet (zu μ (b + 9) 0 0) fun μy1 => zlet (zu μy1 (b + 9) 1 0) fun μy2 => some (μy2, ν)
theorem z_Schedule_renew_0 {l : Launch} {D : va_G} {dA : Nat → ClassId} {ad : Nat → Nat} {sh : List zSE}  {b : Nat} (hs : zSt sh b)   {μ : zI} {ν : zJ} {out : (zI × zJ)} (hF : e_Schedule_renew_0 b   μ ν = some out) : Z l D dA ad sh m_Schedule_renew (zR 0 0 0) (zS ad) (zOv out) 0 0 0 0 [] 0 [(0, .ref (ad (b + 9)))] [] μ ν := by
  unfold e_Schedule_renew_0 at hF
  refine z_aload_n d_Schedule_renew_0 0 rfl rfl ?_
  refine z_iconst d_Schedule_renew_1 (v := 0) (by decide) ?_
  refine z_put d_Schedule_renew_2 f_Schedule_15 (hs 9 _ rfl) rfl (CL_fin _ _ (fun q hq => by cases hq; rfl)) rfl rfl ?_
  obtain ⟨μy1, hy1, hF⟩ := zh_let hF
  refine z_eqm hy1 ?_
  refine z_aload_n d_Schedule_renew_5 0 rfl rfl ?_
  refine z_iconst d_Schedule_renew_6 (v := 0) (by decide) ?_
  refine z_put d_Schedule_renew_7 f_Schedule_19 (hs 9 _ rfl) rfl (CL_fin _ _ (fun q hq => by cases hq; rfl)) rfl rfl ?_
  obtain ⟨μy2, hy2, hF⟩ := zh_let hF
  refine z_eqm hy2 ?_
  cases hF
  exact z_return d_Schedule_renew_10 rfl ⟨rfl, rfl, rfl⟩
def E_Schedule_renew (b : Nat)  (μ : zI) (ν : zJ) : Option (zI × zJ) := e_Schedule_renew_0 b μ ν
theorem c_Schedule_renew {l : Launch} {D : va_G} {dA : Nat → ClassId} {ad : Nat → Nat} {sh : List zSE} {μ : zI} {ν : zJ} {b : Nat} (hs : zSt sh b) {out : (zI × zJ)} (hE : E_Schedule_renew b μ ν = some out) : zC l D dA ad sh m_Schedule_renew 0 0 0 [.ref (ad (b + 9))] μ ν (zOv out) :=
  zC.of (by decide) (Nat.le_of_ble_eq_true rfl) (z_Schedule_renew_0 hs hE)
def e_Follower_renew_0 (b : Nat)   (μ : zI) (ν : zJ) : Option (zI × zJ) := zlet (zu μ (b + 11) 0 0) fun μy1 => zlet (zu μy1 (b + 11) 1 1) fun μy2 => zlet (zu μy2 (b + 11) 2 0) fun μy3 => zlet (zu μy3 (b + 11) 3 0) fun μy4 => zlet (zu μy4 (b + 11) 4 0) fun μy5 => zlet (zu μy5 (b + 11) 5 0) fun μy6 => zlet (zu μy6 (b + 11) 6 0) fun μy7 => zlet (zu μy7 (b + 11) 7 0) fun μy8 => zlet (zu μy8 (b + 11) 8 0) fun μy9 => zlet (zu μy9 (b + 11) 9 0) fun μy10 => zlet (zu μy10 (b + 11) 10 0) fun μy11 => zlet (zu μy11 (b + 11) 11 0) fun μy12 => zlet (zu μy12 (b + 11) 12 0) fun μy13 => some (μy13, ν)
theorem z_Follower_renew_0 {l : Launch} {D : va_G} {dA : Nat → ClassId} {ad : Nat → Nat} {sh : List zSE}  {b : Nat} (hs : zSt sh b)   {μ : zI} {ν : zJ} {out : (zI × zJ)} (hF : e_Follower_renew_0 b   μ ν = some out) : Z l D dA ad sh m_Follower_renew (zR 0 0 0) (zS ad) (zOv out) 0 0 0 0 [] 0 [(0, .ref (ad (b + 11)))] [] μ ν := by
  unfold e_Follower_renew_0 at hF
  refine z_aload_n d_Follower_renew_0 0 rfl rfl ?_
  refine z_iconst d_Follower_renew_1 (v := 0) (by decide) ?_
  refine z_put d_Follower_renew_2 f_Follower_9 (hs 11 _ rfl) rfl (CL_fin _ _ (fun q hq => by cases hq; rfl)) rfl rfl ?_
  obtain ⟨μy1, hy1, hF⟩ := zh_let hF
  refine z_eqm hy1 ?_
  refine z_aload_n d_Follower_renew_5 0 rfl rfl ?_
  refine z_iconst d_Follower_renew_6 (v := 1) (by decide) ?_
  refine z_put d_Follower_renew_7 f_Follower_15 (hs 11 _ rfl) rfl (CL_fin _ _ (fun q hq => by cases hq; rfl)) rfl rfl ?_
  obtain ⟨μy2, hy2, hF⟩ := zh_let hF
  refine z_eqm hy2 ?_
  refine z_aload_n d_Follower_renew_10 0 rfl rfl ?_
  refine z_iconst d_Follower_renew_11 (v := 0) (by decide) ?_
  refine z_put d_Follower_renew_12 f_Follower_18 (hs 11 _ rfl) rfl (CL_fin _ _ (fun q hq => by cases hq; rfl)) rfl rfl ?_
  obtain ⟨μy3, hy3, hF⟩ := zh_let hF
  refine z_eqm hy3 ?_
  refine z_aload_n d_Follower_renew_15 0 rfl rfl ?_
  refine z_iconst d_Follower_renew_16 (v := 0) (by decide) ?_
  refine z_put d_Follower_renew_17 f_Follower_21 (hs 11 _ rfl) rfl (CL_fin _ _ (fun q hq => by cases hq; rfl)) rfl rfl ?_
  obtain ⟨μy4, hy4, hF⟩ := zh_let hF
  refine z_eqm hy4 ?_
  refine z_aload_n d_Follower_renew_20 0 rfl rfl ?_
  refine z_iconst d_Follower_renew_21 (v := 0) (by decide) ?_
  refine z_put d_Follower_renew_22 f_Follower_24 (hs 11 _ rfl) rfl (CL_fin _ _ (fun q hq => by cases hq; rfl)) rfl rfl ?_
  obtain ⟨μy5, hy5, hF⟩ := zh_let hF
  refine z_eqm hy5 ?_
  refine z_aload_n d_Follower_renew_25 0 rfl rfl ?_
  refine z_iconst d_Follower_renew_26 (v := 0) (by decide) ?_
  refine z_put d_Follower_renew_27 f_Follower_27 (hs 11 _ rfl) rfl (CL_fin _ _ (fun q hq => by cases hq; rfl)) rfl rfl ?_
  obtain ⟨μy6, hy6, hF⟩ := zh_let hF
  refine z_eqm hy6 ?_
  refine z_aload_n d_Follower_renew_30 0 rfl rfl ?_
  refine z_iconst d_Follower_renew_31 (v := 0) (by decide) ?_
  refine z_put d_Follower_renew_32 f_Follower_30 (hs 11 _ rfl) rfl (CL_fin _ _ (fun q hq => by cases hq; rfl)) rfl rfl ?_
  obtain ⟨μy7, hy7, hF⟩ := zh_let hF
  refine z_eqm hy7 ?_
  refine z_aload_n d_Follower_renew_35 0 rfl rfl ?_
  refine z_iconst d_Follower_renew_36 (v := 0) (by decide) ?_
  refine z_put d_Follower_renew_37 f_Follower_33 (hs 11 _ rfl) rfl (CL_fin _ _ (fun q hq => by cases hq; rfl)) (by decide) (by decide) ?_
  obtain ⟨μy8, hy8, hF⟩ := zh_let hF
  refine z_eqm hy8 ?_
  refine z_aload_n d_Follower_renew_40 0 rfl rfl ?_
  refine z_iconst d_Follower_renew_41 (v := 0) (by decide) ?_
  refine z_put d_Follower_renew_42 f_Follower_37 (hs 11 _ rfl) rfl (CL_fin _ _ (fun q hq => by cases hq; rfl)) (by decide) (by decide) ?_
  obtain ⟨μy9, hy9, hF⟩ := zh_let hF
  refine z_eqm hy9 ?_
  refine z_aload_n d_Follower_renew_45 0 rfl rfl ?_
  refine z_iconst d_Follower_renew_46 (v := 0) (by decide) ?_
  refine z_put d_Follower_renew_47 f_Follower_40 (hs 11 _ rfl) rfl (CL_fin _ _ (fun q hq => by cases hq; rfl)) (by decide) (by decide) ?_
  obtain ⟨μy10, hy10, hF⟩ := zh_let hF
  refine z_eqm hy10 ?_
  refine z_aload_n d_Follower_renew_50 0 rfl rfl ?_
  refine z_iconst d_Follower_renew_51 (v := 0) (by decide) ?_
  refine z_put d_Follower_renew_52 f_Follower_43 (hs 11 _ rfl) rfl (CL_fin _ _ (fun q hq => by cases hq; rfl)) (by decide) (by decide) ?_
  obtain ⟨μy11, hy11, hF⟩ := zh_let hF
  refine z_eqm hy11 ?_
  refine z_aload_n d_Follower_renew_55 0 rfl rfl ?_
  refine z_iconst d_Follower_renew_56 (v := 0) (by decide) ?_
  refine z_put d_Follower_renew_57 f_Follower_46 (hs 11 _ rfl) rfl (CL_fin _ _ (fun q hq => by cases hq; rfl)) rfl rfl ?_
  obtain ⟨μy12, hy12, hF⟩ := zh_let hF
  refine z_eqm hy12 ?_
  refine z_aload_n d_Follower_renew_60 0 rfl rfl ?_
  refine z_iconst d_Follower_renew_61 (v := 0) (by decide) ?_
  refine z_put d_Follower_renew_62 f_Follower_49 (hs 11 _ rfl) rfl (CL_fin _ _ (fun q hq => by cases hq; rfl)) rfl rfl ?_
  obtain ⟨μy13, hy13, hF⟩ := zh_let hF
  refine z_eqm hy13 ?_
  cases hF
  exact z_return d_Follower_renew_65 rfl ⟨rfl, rfl, rfl⟩
def E_Follower_renew (b : Nat)  (μ : zI) (ν : zJ) : Option (zI × zJ) := e_Follower_renew_0 b μ ν
theorem c_Follower_renew {l : Launch} {D : va_G} {dA : Nat → ClassId} {ad : Nat → Nat} {sh : List zSE} {μ : zI} {ν : zJ} {b : Nat} (hs : zSt sh b) {out : (zI × zJ)} (hE : E_Follower_renew b μ ν = some out) : zC l D dA ad sh m_Follower_renew 0 0 0 [.ref (ad (b + 11))] μ ν (zOv out) :=
  zC.of (by decide) (Nat.le_of_ble_eq_true rfl) (z_Follower_renew_0 hs hE)
def e_Battery_renew_0 (b : Nat)   (μ : zI) (ν : zJ) : Option (zI × zJ) := zlet (zu μ (b + 12) 0 0) fun μy1 => zlet (zu μy1 (b + 12) 1 0) fun μy2 => zlet (zu μy2 (b + 12) 2 0) fun μy3 => zlet (zu μy3 (b + 12) 3 0) fun μy4 => zlet (zu μy4 (b + 12) 4 0) fun μy5 => zlet (zu μy5 (b + 12) 5 (-1)) fun μy6 => some (μy6, ν)
theorem z_Battery_renew_0 {l : Launch} {D : va_G} {dA : Nat → ClassId} {ad : Nat → Nat} {sh : List zSE}  {b : Nat} (hs : zSt sh b)   {μ : zI} {ν : zJ} {out : (zI × zJ)} (hF : e_Battery_renew_0 b   μ ν = some out) : Z l D dA ad sh m_Battery_renew (zR 0 0 0) (zS ad) (zOv out) 0 0 0 0 [] 0 [(0, .ref (ad (b + 12)))] [] μ ν := by
  unfold e_Battery_renew_0 at hF
  refine z_aload_n d_Battery_renew_0 0 rfl rfl ?_
  refine z_iconst d_Battery_renew_1 (v := 0) (by decide) ?_
  refine z_put d_Battery_renew_2 f_Battery_9 (hs 12 _ rfl) rfl (CL_fin _ _ (fun q hq => by cases hq; rfl)) rfl rfl ?_
  obtain ⟨μy1, hy1, hF⟩ := zh_let hF
  refine z_eqm hy1 ?_
  refine z_aload_n d_Battery_renew_5 0 rfl rfl ?_
  refine z_iconst d_Battery_renew_6 (v := 0) (by decide) ?_
  refine z_put d_Battery_renew_7 f_Battery_15 (hs 12 _ rfl) rfl (CL_fin _ _ (fun q hq => by cases hq; rfl)) rfl rfl ?_
  obtain ⟨μy2, hy2, hF⟩ := zh_let hF
  refine z_eqm hy2 ?_
  refine z_aload_n d_Battery_renew_10 0 rfl rfl ?_
  refine z_iconst d_Battery_renew_11 (v := 0) (by decide) ?_
  refine z_put d_Battery_renew_12 f_Battery_18 (hs 12 _ rfl) rfl (CL_fin _ _ (fun q hq => by cases hq; rfl)) rfl rfl ?_
  obtain ⟨μy3, hy3, hF⟩ := zh_let hF
  refine z_eqm hy3 ?_
  refine z_aload_n d_Battery_renew_15 0 rfl rfl ?_
  refine z_iconst d_Battery_renew_16 (v := 0) (by decide) ?_
  refine z_put d_Battery_renew_17 f_Battery_21 (hs 12 _ rfl) rfl (CL_fin _ _ (fun q hq => by cases hq; rfl)) rfl rfl ?_
  obtain ⟨μy4, hy4, hF⟩ := zh_let hF
  refine z_eqm hy4 ?_
  refine z_aload_n d_Battery_renew_20 0 rfl rfl ?_
  refine z_iconst d_Battery_renew_21 (v := 0) (by decide) ?_
  refine z_put d_Battery_renew_22 f_Battery_24 (hs 12 _ rfl) rfl (CL_fin _ _ (fun q hq => by cases hq; rfl)) rfl rfl ?_
  obtain ⟨μy5, hy5, hF⟩ := zh_let hF
  refine z_eqm hy5 ?_
  refine z_aload_n d_Battery_renew_25 0 rfl rfl ?_
  refine z_iconst d_Battery_renew_26 (v := (-1)) (by decide) ?_
  refine z_put d_Battery_renew_27 f_Battery_27 (hs 12 _ rfl) rfl (CL_fin _ _ (fun q hq => by cases hq; rfl)) rfl rfl ?_
  obtain ⟨μy6, hy6, hF⟩ := zh_let hF
  refine z_eqm hy6 ?_
  cases hF
  exact z_return d_Battery_renew_30 rfl ⟨rfl, rfl, rfl⟩
def E_Battery_renew (b : Nat)  (μ : zI) (ν : zJ) : Option (zI × zJ) := e_Battery_renew_0 b μ ν
theorem c_Battery_renew {l : Launch} {D : va_G} {dA : Nat → ClassId} {ad : Nat → Nat} {sh : List zSE} {μ : zI} {ν : zJ} {b : Nat} (hs : zSt sh b) {out : (zI × zJ)} (hE : E_Battery_renew b μ ν = some out) : zC l D dA ad sh m_Battery_renew 0 0 0 [.ref (ad (b + 12))] μ ν (zOv out) :=
  zC.of (by decide) (Nat.le_of_ble_eq_true rfl) (z_Battery_renew_0 hs hE)
def e_Inverter_renew_0 (b : Nat)   (μ : zI) (ν : zJ) : Option (zI × zJ) := zlet (zu μ (b + 13) 0 1) fun μy1 => zlet (zu μy1 (b + 13) 1 1) fun μy2 => zlet (zu μy2 (b + 13) 2 50000) fun μy3 => zlet (zu μy3 (b + 13) 3 50000) fun μy4 => zlet (zu μy4 (b + 13) 4 0) fun μy5 => zlet (zu μy5 (b + 13) 5 0) fun μy6 => zlet (zu μy6 (b + 13) 6 0) fun μy7 => zlet (zu μy7 (b + 13) 7 0) fun μy8 => some (μy8, ν)
theorem z_Inverter_renew_0 {l : Launch} {D : va_G} {dA : Nat → ClassId} {ad : Nat → Nat} {sh : List zSE}  {b : Nat} (hs : zSt sh b)   {μ : zI} {ν : zJ} {out : (zI × zJ)} (hF : e_Inverter_renew_0 b   μ ν = some out) : Z l D dA ad sh m_Inverter_renew (zR 0 0 0) (zS ad) (zOv out) 0 0 0 0 [] 0 [(0, .ref (ad (b + 13)))] [] μ ν := by
  unfold e_Inverter_renew_0 at hF
  refine z_aload_n d_Inverter_renew_0 0 rfl rfl ?_
  refine z_iconst d_Inverter_renew_1 (v := 1) (by decide) ?_
  refine z_put d_Inverter_renew_2 f_Inverter_9 (hs 13 _ rfl) rfl (CL_fin _ _ (fun q hq => by cases hq; rfl)) (by decide) (by decide) ?_
  obtain ⟨μy1, hy1, hF⟩ := zh_let hF
  refine z_eqm hy1 ?_
  refine z_aload_n d_Inverter_renew_5 0 rfl rfl ?_
  refine z_iconst d_Inverter_renew_6 (v := 1) (by decide) ?_
  refine z_put d_Inverter_renew_7 f_Inverter_15 (hs 13 _ rfl) rfl (CL_fin _ _ (fun q hq => by cases hq; rfl)) rfl rfl ?_
  obtain ⟨μy2, hy2, hF⟩ := zh_let hF
  refine z_eqm hy2 ?_
  refine z_aload_n d_Inverter_renew_10 0 rfl rfl ?_
  refine z_ldc d_Inverter_renew_11 k_Inverter_19 ?_
  refine z_put d_Inverter_renew_13 f_Inverter_20 (hs 13 _ rfl) rfl (CL_fin _ _ (fun q hq => by cases hq; rfl)) rfl rfl ?_
  obtain ⟨μy3, hy3, hF⟩ := zh_let hF
  refine z_eqm hy3 ?_
  refine z_aload_n d_Inverter_renew_16 0 rfl rfl ?_
  refine z_ldc d_Inverter_renew_17 k_Inverter_19 ?_
  refine z_put d_Inverter_renew_19 f_Inverter_23 (hs 13 _ rfl) rfl (CL_fin _ _ (fun q hq => by cases hq; rfl)) rfl rfl ?_
  obtain ⟨μy4, hy4, hF⟩ := zh_let hF
  refine z_eqm hy4 ?_
  refine z_aload_n d_Inverter_renew_22 0 rfl rfl ?_
  refine z_iconst d_Inverter_renew_23 (v := 0) (by decide) ?_
  refine z_put d_Inverter_renew_24 f_Inverter_26 (hs 13 _ rfl) rfl (CL_fin _ _ (fun q hq => by cases hq; rfl)) rfl rfl ?_
  obtain ⟨μy5, hy5, hF⟩ := zh_let hF
  refine z_eqm hy5 ?_
  refine z_aload_n d_Inverter_renew_27 0 rfl rfl ?_
  refine z_iconst d_Inverter_renew_28 (v := 0) (by decide) ?_
  refine z_put d_Inverter_renew_29 f_Inverter_29 (hs 13 _ rfl) rfl (CL_fin _ _ (fun q hq => by cases hq; rfl)) rfl rfl ?_
  obtain ⟨μy6, hy6, hF⟩ := zh_let hF
  refine z_eqm hy6 ?_
  refine z_aload_n d_Inverter_renew_32 0 rfl rfl ?_
  refine z_iconst d_Inverter_renew_33 (v := 0) (by decide) ?_
  refine z_put d_Inverter_renew_34 f_Inverter_32 (hs 13 _ rfl) rfl (CL_fin _ _ (fun q hq => by cases hq; rfl)) rfl rfl ?_
  obtain ⟨μy7, hy7, hF⟩ := zh_let hF
  refine z_eqm hy7 ?_
  refine z_aload_n d_Inverter_renew_37 0 rfl rfl ?_
  refine z_iconst d_Inverter_renew_38 (v := 0) (by decide) ?_
  refine z_put d_Inverter_renew_39 f_Inverter_35 (hs 13 _ rfl) rfl (CL_fin _ _ (fun q hq => by cases hq; rfl)) (by decide) (by decide) ?_
  obtain ⟨μy8, hy8, hF⟩ := zh_let hF
  refine z_eqm hy8 ?_
  cases hF
  exact z_return d_Inverter_renew_42 rfl ⟨rfl, rfl, rfl⟩
def E_Inverter_renew (b : Nat)  (μ : zI) (ν : zJ) : Option (zI × zJ) := e_Inverter_renew_0 b μ ν
theorem c_Inverter_renew {l : Launch} {D : va_G} {dA : Nat → ClassId} {ad : Nat → Nat} {sh : List zSE} {μ : zI} {ν : zJ} {b : Nat} (hs : zSt sh b) {out : (zI × zJ)} (hE : E_Inverter_renew b μ ν = some out) : zC l D dA ad sh m_Inverter_renew 0 0 0 [.ref (ad (b + 13))] μ ν (zOv out) :=
  zC.of (by decide) (Nat.le_of_ble_eq_true rfl) (z_Inverter_renew_0 hs hE)
def e_Station_clearSums_0 (b : Nat)   (μ : zI) (ν : zJ) : Option (zI × zJ) := zlet (zrl ν (b + 14) (fun j => if j < 11 then 0 else ν (b + 14) j)) fun νy1 => some (μ, νy1)
theorem z_Station_clearSums_0 {l : Launch} {D : va_G} {dA : Nat → ClassId} {ad : Nat → Nat} {sh : List zSE}  {b : Nat} (hs : zSt sh b)   {μ : zI} {ν : zJ} {out : (zI × zJ)} (hF : e_Station_clearSums_0 b   μ ν = some out) : Z l D dA ad sh m_Station_clearSums (zR 1 0 0) (zS ad) (zOv out) 0 0 0 0 [] 0 [(0, .ref (ad b))] [] μ ν := by
  unfold e_Station_clearSums_0 at hF
  refine z_aload_n d_Station_clearSums_0 0 rfl rfl ?_
  refine z_getr d_Station_clearSums_1 (q := (b + 14)) f_Station_51 (hs 0 _ rfl) rfl ?_
  refine z_lconst d_Station_clearSums_4 (v := 0) (by decide) ?_
  refine z_callS d_Station_clearSums_5 (c_fill_J (hs 14 _ rfl) (Nat.le_of_ble_eq_true rfl)) ms_fill_J l_Station_112 (fun _ _ h => h) rfl ⟨Nat.le_of_ble_eq_true rfl, Nat.le_of_ble_eq_true rfl⟩ ⟨Nat.le_of_ble_eq_true rfl, Nat.le_of_ble_eq_true rfl⟩ rfl (Nat.le_of_ble_eq_true rfl) (fun r μ' ν' hq => ?_)
  obtain ⟨rfl, rfl, rfl⟩ := hq
  obtain ⟨νy1, hy1, hF⟩ := zh_let hF
  refine z_eqn hy1 ?_
  cases hF
  exact z_return d_Station_clearSums_8 rfl ⟨rfl, rfl, rfl⟩
def E_Station_clearSums (b : Nat)  (μ : zI) (ν : zJ) : Option (zI × zJ) := e_Station_clearSums_0 b μ ν
theorem c_Station_clearSums {l : Launch} {D : va_G} {dA : Nat → ClassId} {ad : Nat → Nat} {sh : List zSE} {μ : zI} {ν : zJ} {b : Nat} (hs : zSt sh b) {out : (zI × zJ)} (hE : E_Station_clearSums b μ ν = some out) : zC l D dA ad sh m_Station_clearSums 1 0 0 [.ref (ad b)] μ ν (zOv out) :=
  zC.of (by decide) (Nat.le_of_ble_eq_true rfl) (z_Station_clearSums_0 hs hE)
def e_Station_renew_0 (b : Nat)   (μ : zI) (ν : zJ) : Option (zI × zJ) := zlet (zu μ b 0 0) fun μy1 => zlet (zu μy1 b 1 0) fun μy2 => Option.bind (E_Told_renew b μy2 ν) fun ty3 => Option.bind (E_Panel_renew b ty3.1 ty3.2) fun ty4 => Option.bind (E_Schedule_renew b ty4.1 ty4.2) fun ty5 => Option.bind (E_Follower_renew b ty5.1 ty5.2) fun ty6 => Option.bind (E_Battery_renew b ty6.1 ty6.2) fun ty7 => Option.bind (E_Inverter_renew b ty7.1 ty7.2) fun ty8 => Option.bind (E_Station_clearSums b ty8.1 ty8.2) fun ty9 => some (ty9.1, ty9.2)
theorem z_Station_renew_0 {l : Launch} {D : va_G} {dA : Nat → ClassId} {ad : Nat → Nat} {sh : List zSE}  {b : Nat} (hs : zSt sh b)   {μ : zI} {ν : zJ} {out : (zI × zJ)} (hF : e_Station_renew_0 b   μ ν = some out) : Z l D dA ad sh m_Station_renew (zR 2 0 0) (zS ad) (zOv out) 0 0 0 0 [] 0 [(0, .ref (ad b))] [] μ ν := by
  unfold e_Station_renew_0 at hF
  refine z_aload_n d_Station_renew_0 0 rfl rfl ?_
  refine z_iconst d_Station_renew_1 (v := 0) (by decide) ?_
  refine z_put d_Station_renew_2 f_Station_61 (hs 0 _ rfl) rfl (CL_fin _ _ (fun q hq => by cases hq; rfl)) rfl rfl ?_
  obtain ⟨μy1, hy1, hF⟩ := zh_let hF
  refine z_eqm hy1 ?_
  refine z_aload_n d_Station_renew_5 0 rfl rfl ?_
  refine z_iconst d_Station_renew_6 (v := 0) (by decide) ?_
  refine z_put d_Station_renew_7 f_Station_65 (hs 0 _ rfl) rfl (CL_fin _ _ (fun q hq => by cases hq; rfl)) rfl rfl ?_
  obtain ⟨μy2, hy2, hF⟩ := zh_let hF
  refine z_eqm hy2 ?_
  refine z_aload_n d_Station_renew_10 0 rfl rfl ?_
  refine z_getr d_Station_renew_11 (q := (b + 1)) f_Station_10 (hs 0 _ rfl) rfl ?_
  obtain ⟨ty3, hty3, hF⟩ := zh_bind hF
  refine z_callV d_Station_renew_14 (c_Told_renew hs hty3) mv_Told_renew l_Station_68 (fun _ _ h => h) (hs 1 _ rfl) rfl rfl ⟨Nat.le_of_ble_eq_true rfl, Nat.le_of_ble_eq_true rfl⟩ ⟨Nat.le_of_ble_eq_true rfl, Nat.le_of_ble_eq_true rfl⟩ rfl (Nat.le_of_ble_eq_true rfl) (fun r μ' ν' hq => ?_)
  obtain ⟨rfl, rfl, rfl⟩ := hq
  show Z _ _ _ _ _ _ _ _ _ _ _ 0 0 _ _ _ [] _ _
  refine z_aload_n d_Station_renew_17 0 rfl rfl ?_
  refine z_getr d_Station_renew_18 (q := (b + 3)) f_Station_19 (hs 0 _ rfl) rfl ?_
  obtain ⟨ty4, hty4, hF⟩ := zh_bind hF
  refine z_callV d_Station_renew_21 (c_Panel_renew hs hty4) mv_Panel_renew l_Station_69 (fun _ _ h => h) (hs 3 _ rfl) rfl rfl ⟨Nat.le_of_ble_eq_true rfl, Nat.le_of_ble_eq_true rfl⟩ ⟨Nat.le_of_ble_eq_true rfl, Nat.le_of_ble_eq_true rfl⟩ rfl (Nat.le_of_ble_eq_true rfl) (fun r μ' ν' hq => ?_)
  obtain ⟨rfl, rfl, rfl⟩ := hq
  show Z _ _ _ _ _ _ _ _ _ _ _ 0 0 _ _ _ [] _ _
  refine z_aload_n d_Station_renew_24 0 rfl rfl ?_
  refine z_getr d_Station_renew_25 (q := (b + 9)) f_Station_26 (hs 0 _ rfl) rfl ?_
  obtain ⟨ty5, hty5, hF⟩ := zh_bind hF
  refine z_callV d_Station_renew_28 (c_Schedule_renew hs hty5) mv_Schedule_renew l_Station_70 (fun _ _ h => h) (hs 9 _ rfl) rfl rfl ⟨Nat.le_of_ble_eq_true rfl, Nat.le_of_ble_eq_true rfl⟩ ⟨Nat.le_of_ble_eq_true rfl, Nat.le_of_ble_eq_true rfl⟩ rfl (Nat.le_of_ble_eq_true rfl) (fun r μ' ν' hq => ?_)
  obtain ⟨rfl, rfl, rfl⟩ := hq
  show Z _ _ _ _ _ _ _ _ _ _ _ 0 0 _ _ _ [] _ _
  refine z_aload_n d_Station_renew_31 0 rfl rfl ?_
  refine z_getr d_Station_renew_32 (q := (b + 11)) f_Station_33 (hs 0 _ rfl) rfl ?_
  obtain ⟨ty6, hty6, hF⟩ := zh_bind hF
  refine z_callV d_Station_renew_35 (c_Follower_renew hs hty6) mv_Follower_renew l_Station_71 (fun _ _ h => h) (hs 11 _ rfl) rfl rfl ⟨Nat.le_of_ble_eq_true rfl, Nat.le_of_ble_eq_true rfl⟩ ⟨Nat.le_of_ble_eq_true rfl, Nat.le_of_ble_eq_true rfl⟩ rfl (Nat.le_of_ble_eq_true rfl) (fun r μ' ν' hq => ?_)
  obtain ⟨rfl, rfl, rfl⟩ := hq
  show Z _ _ _ _ _ _ _ _ _ _ _ 0 0 _ _ _ [] _ _
  refine z_aload_n d_Station_renew_38 0 rfl rfl ?_
  refine z_getr d_Station_renew_39 (q := (b + 12)) f_Station_40 (hs 0 _ rfl) rfl ?_
  obtain ⟨ty7, hty7, hF⟩ := zh_bind hF
  refine z_callV d_Station_renew_42 (c_Battery_renew hs hty7) mv_Battery_renew l_Station_72 (fun _ _ h => h) (hs 12 _ rfl) rfl rfl ⟨Nat.le_of_ble_eq_true rfl, Nat.le_of_ble_eq_true rfl⟩ ⟨Nat.le_of_ble_eq_true rfl, Nat.le_of_ble_eq_true rfl⟩ rfl (Nat.le_of_ble_eq_true rfl) (fun r μ' ν' hq => ?_)
  obtain ⟨rfl, rfl, rfl⟩ := hq
  show Z _ _ _ _ _ _ _ _ _ _ _ 0 0 _ _ _ [] _ _
  refine z_aload_n d_Station_renew_45 0 rfl rfl ?_
  refine z_getr d_Station_renew_46 (q := (b + 13)) f_Station_47 (hs 0 _ rfl) rfl ?_
  obtain ⟨ty8, hty8, hF⟩ := zh_bind hF
  refine z_callV d_Station_renew_49 (c_Inverter_renew hs hty8) mv_Inverter_renew l_Station_73 (fun _ _ h => h) (hs 13 _ rfl) rfl rfl ⟨Nat.le_of_ble_eq_true rfl, Nat.le_of_ble_eq_true rfl⟩ ⟨Nat.le_of_ble_eq_true rfl, Nat.le_of_ble_eq_true rfl⟩ rfl (Nat.le_of_ble_eq_true rfl) (fun r μ' ν' hq => ?_)
  obtain ⟨rfl, rfl, rfl⟩ := hq
  show Z _ _ _ _ _ _ _ _ _ _ _ 0 0 _ _ _ [] _ _
  refine z_aload_n d_Station_renew_52 0 rfl rfl ?_
  obtain ⟨ty9, hty9, hF⟩ := zh_bind hF
  refine z_callV d_Station_renew_53 (c_Station_clearSums hs hty9) mv_Station_clearSums l_Station_74 (fun _ _ h => h) (hs 0 _ rfl) rfl rfl ⟨Nat.le_of_ble_eq_true rfl, Nat.le_of_ble_eq_true rfl⟩ ⟨Nat.le_of_ble_eq_true rfl, Nat.le_of_ble_eq_true rfl⟩ rfl (Nat.le_of_ble_eq_true rfl) (fun r μ' ν' hq => ?_)
  obtain ⟨rfl, rfl, rfl⟩ := hq
  show Z _ _ _ _ _ _ _ _ _ _ _ 0 0 _ _ _ [] _ _
  cases hF
  exact z_return d_Station_renew_56 rfl ⟨rfl, rfl, rfl⟩
def E_Station_renew (b : Nat)  (μ : zI) (ν : zJ) : Option (zI × zJ) := e_Station_renew_0 b μ ν
theorem c_Station_renew {l : Launch} {D : va_G} {dA : Nat → ClassId} {ad : Nat → Nat} {sh : List zSE} {μ : zI} {ν : zJ} {b : Nat} (hs : zSt sh b) {out : (zI × zJ)} (hE : E_Station_renew b μ ν = some out) : zC l D dA ad sh m_Station_renew 2 0 0 [.ref (ad b)] μ ν (zOv out) :=
  zC.of (by decide) (Nat.le_of_ble_eq_true rfl) (z_Station_renew_0 hs hE)
def e_Panel_greatestLit_35 (b : Nat)  (x1 : Int32) (x2 : Int32) (μ : zI) (ν : zJ) : Option (Int32 × zI × zJ) := some (x1, μ, ν)
theorem z_Panel_greatestLit_35 {l : Launch} {D : va_G} {dA : Nat → ClassId} {ad : Nat → Nat} {sh : List zSE}  {b : Nat} (hs : zSt sh b)  {x1 : Int32} {x2 : Int32} {μ : zI} {ν : zJ} {out : (Int32 × zI × zJ)} (hF : e_Panel_greatestLit_35 b  x1 x2 μ ν = some out) : Z l D dA ad sh m_Panel_greatestLit (zR 1 0 0) (zS ad) (zOi out) 0 0 0 0 [] 35 [(0, .ref (ad (b + 3))), (1, .int x1), (2, .int x2)] [] μ ν := by
  unfold e_Panel_greatestLit_35 at hF
  refine z_iload_n d_Panel_greatestLit_35 1 rfl rfl ?_
  cases hF
  exact z_ireturn d_Panel_greatestLit_36 rfl rfl ⟨rfl, rfl, rfl⟩
def f_Panel_greatestLit_4 (b : Nat)  : Nat → Int32 → Int32 → zI → zJ → Option (Int32 × zI × zJ)
  | 0, _, _, _, _ => none
  | n + 1, x1, x2, μ, ν => (if (μ (b + 3) 0) ≤ x2 then e_Panel_greatestLit_35 b x1 x2 μ ν else (if 6 ≤ x2 then e_Panel_greatestLit_35 b x1 x2 μ ν else (if zin x2 6 = true then zlet (α := Int32) (zMax x1 (μ (b + 7) (Int32.toNatClampNeg x2))) fun y4 => (f_Panel_greatestLit_4 b n) y4 (x2 + 1) μ ν else none)))
theorem z_Panel_greatestLit_4 {l : Launch} {D : va_G} {dA : Nat → ClassId} {ad : Nat → Nat} {sh : List zSE}  {b : Nat} (hs : zSt sh b)  {out : (Int32 × zI × zJ)} : ∀ (n : Nat) (x1 : Int32) (x2 : Int32) (μ : zI) (ν : zJ), f_Panel_greatestLit_4 b  n x1 x2 μ ν = some out → Z l D dA ad sh m_Panel_greatestLit (zR 1 0 0) (zS ad) (zOi out) 0 0 0 0 [] 4 [(0, .ref (ad (b + 3))), (1, .int x1), (2, .int x2)] [] μ ν := by
  intro n
  induction n with
  | zero => intro x1 x2 μ ν hF; cases hF
  | succ n ih =>
    intro x1 x2 μ ν hF
    dsimp only [f_Panel_greatestLit_4] at hF
    refine z_iload_n d_Panel_greatestLit_4 2 rfl rfl ?_
    refine z_aload_n d_Panel_greatestLit_5 0 rfl rfl ?_
    refine z_get d_Panel_greatestLit_6 f_Panel_27 (hs 3 _ rfl) rfl ?_
    refine z_icmp_ge d_Panel_greatestLit_9 (tgt := 35) (by decide) (fun cy1 => ?_) (fun cy1 => ?_)
    · replace hF := zh_t cy1 hF
      exact z_Panel_greatestLit_35 hs  hF
    · replace hF := zh_f cy1 hF
      refine z_iload_n d_Panel_greatestLit_12 2 rfl rfl ?_
      refine z_bipush d_Panel_greatestLit_13 (v := 6) (by decide) ?_
      refine z_icmp_ge d_Panel_greatestLit_15 (tgt := 35) (by decide) (fun cy2 => ?_) (fun cy2 => ?_)
      · replace hF := zh_t cy2 hF
        exact z_Panel_greatestLit_35 hs  hF
      · replace hF := zh_f cy2 hF
        refine z_iload_n d_Panel_greatestLit_18 1 rfl rfl ?_
        refine z_aload_n d_Panel_greatestLit_19 0 rfl rfl ?_
        refine z_getr d_Panel_greatestLit_20 (q := (b + 7)) f_Panel_21 (hs 3 _ rfl) rfl ?_
        refine z_iload_n d_Panel_greatestLit_23 2 rfl rfl ?_
        obtain ⟨hy3, hF⟩ := zh_if hF
        refine z_iald d_Panel_greatestLit_24 (hs 7 _ rfl) (zin_vp hy3) ?_
        refine z_max d_Panel_greatestLit_25 l_Panel_47 ma_max_s ma_i ma_max_c ⟨Nat.le_of_ble_eq_true rfl, Nat.le_of_ble_eq_true rfl, Nat.zero_le _, Nat.zero_le _⟩ ?_
        obtain ⟨y4, hy4, hF⟩ := zh_let hF
        refine z_eqi hy4 ?_
        refine z_istore_n d_Panel_greatestLit_28 rfl (by decide) (L2 := [(1, .int y4), (0, .ref (ad (b + 3))), (2, .int x2)]) rfl ?_
        refine z_iinc d_Panel_greatestLit_29 (k := 2) (v := (x2 + 1)) rfl rfl (by decide) (L2 := [(2, .int (x2 + 1)), (1, .int y4), (0, .ref (ad (b + 3)))]) rfl ?_
        refine z_goto d_Panel_greatestLit_32 (tgt := 4) (by decide) ?_
        refine z_sub [2, 1, 0] (L' := [(0, .ref (ad (b + 3))), (1, .int y4), (2, .int (x2 + 1))]) rfl ?_
        exact ih _ _ _ _ hF
def e_Panel_greatestLit_0 (b : Nat)   (μ : zI) (ν : zJ) : Option (Int32 × zI × zJ) := f_Panel_greatestLit_4 b zFuel 0 0 μ ν
theorem z_Panel_greatestLit_0 {l : Launch} {D : va_G} {dA : Nat → ClassId} {ad : Nat → Nat} {sh : List zSE}  {b : Nat} (hs : zSt sh b)   {μ : zI} {ν : zJ} {out : (Int32 × zI × zJ)} (hF : e_Panel_greatestLit_0 b   μ ν = some out) : Z l D dA ad sh m_Panel_greatestLit (zR 1 0 0) (zS ad) (zOi out) 0 0 0 0 [] 0 [(0, .ref (ad (b + 3)))] [] μ ν := by
  unfold e_Panel_greatestLit_0 at hF
  refine z_iconst d_Panel_greatestLit_0 (v := 0) (by decide) ?_
  refine z_istore_n d_Panel_greatestLit_1 rfl (by decide) (L2 := [(1, .int 0), (0, .ref (ad (b + 3)))]) rfl ?_
  refine z_iconst d_Panel_greatestLit_2 (v := 0) (by decide) ?_
  refine z_istore_n d_Panel_greatestLit_3 rfl (by decide) (L2 := [(2, .int 0), (1, .int 0), (0, .ref (ad (b + 3)))]) rfl ?_
  refine z_sub [2, 1, 0] (L' := [(0, .ref (ad (b + 3))), (1, .int 0), (2, .int 0)]) rfl ?_
  exact z_Panel_greatestLit_4 hs  zFuel _ _ _ _ hF
def E_Panel_greatestLit (b : Nat)  (μ : zI) (ν : zJ) : Option (Int32 × zI × zJ) := e_Panel_greatestLit_0 b μ ν
theorem c_Panel_greatestLit {l : Launch} {D : va_G} {dA : Nat → ClassId} {ad : Nat → Nat} {sh : List zSE} {μ : zI} {ν : zJ} {b : Nat} (hs : zSt sh b) {out : (Int32 × zI × zJ)} (hE : E_Panel_greatestLit b μ ν = some out) : zC l D dA ad sh m_Panel_greatestLit 1 0 0 [.ref (ad (b + 3))] μ ν (zOi out) :=
  zC.of (by decide) (Nat.le_of_ble_eq_true rfl) (z_Panel_greatestLit_0 hs hE)
def e_Panel_voltsAt_67 (b : Nat) (r4 : Int32 → Int32 → Int32 → zI → zJ → Option (Int32 × zI × zJ)) (x1 : Int32) (x2 : Int32) (x3 : Int32) (x4 : Int32) (μ : zI) (ν : zJ) : Option (Int32 × zI × zJ) := r4 x1 x2 (x3 + 1) μ ν
theorem z_Panel_voltsAt_67 {l : Launch} {D : va_G} {dA : Nat → ClassId} {ad : Nat → Nat} {sh : List zSE}  {b : Nat} (hs : zSt sh b) {r4 : Int32 → Int32 → Int32 → zI → zJ → Option (Int32 × zI × zJ)} {x1 : Int32} {x2 : Int32} {x3 : Int32} {x4 : Int32} {μ : zI} {ν : zJ} {out : (Int32 × zI × zJ)} (hr4 : ∀ (x1 : Int32) (x2 : Int32) (x3 : Int32) (μ : zI) (ν : zJ), r4 x1 x2 x3 μ ν = some out → Z l D dA ad sh m_Panel_voltsAt (zR 0 0 0) (zS ad) (zOi out) 0 0 0 0 [] 4 [(0, .ref (ad (b + 3))), (1, .int x1), (2, .int x2), (3, .int x3)] [] μ ν) (hF : e_Panel_voltsAt_67 b r4 x1 x2 x3 x4 μ ν = some out) : Z l D dA ad sh m_Panel_voltsAt (zR 0 0 0) (zS ad) (zOi out) 0 0 0 0 [] 67 [(0, .ref (ad (b + 3))), (1, .int x1), (2, .int x2), (3, .int x3), (4, .int x4)] [] μ ν := by
  unfold e_Panel_voltsAt_67 at hF
  refine z_iinc d_Panel_voltsAt_67 (k := 3) (v := (x3 + 1)) rfl rfl (by decide) (L2 := [(3, .int (x3 + 1)), (0, .ref (ad (b + 3))), (1, .int x1), (2, .int x2), (4, .int x4)]) rfl ?_
  refine z_goto d_Panel_voltsAt_70 (tgt := 4) (by decide) ?_
  refine z_sub [1, 2, 3, 0] (L' := [(0, .ref (ad (b + 3))), (1, .int x1), (2, .int x2), (3, .int (x3 + 1))]) rfl ?_
  exact hr4 _ _ _ _ _ hF
def e_Panel_voltsAt_73 (b : Nat)  (x1 : Int32) (x2 : Int32) (x3 : Int32) (μ : zI) (ν : zJ) : Option (Int32 × zI × zJ) := some (x2, μ, ν)
theorem z_Panel_voltsAt_73 {l : Launch} {D : va_G} {dA : Nat → ClassId} {ad : Nat → Nat} {sh : List zSE}  {b : Nat} (hs : zSt sh b)  {x1 : Int32} {x2 : Int32} {x3 : Int32} {μ : zI} {ν : zJ} {out : (Int32 × zI × zJ)} (hF : e_Panel_voltsAt_73 b  x1 x2 x3 μ ν = some out) : Z l D dA ad sh m_Panel_voltsAt (zR 0 0 0) (zS ad) (zOi out) 0 0 0 0 [] 73 [(0, .ref (ad (b + 3))), (1, .int x1), (2, .int x2), (3, .int x3)] [] μ ν := by
  unfold e_Panel_voltsAt_73 at hF
  refine z_iload_n d_Panel_voltsAt_73 2 rfl rfl ?_
  cases hF
  exact z_ireturn d_Panel_voltsAt_74 rfl rfl ⟨rfl, rfl, rfl⟩
def f_Panel_voltsAt_4 (b : Nat)  : Nat → Int32 → Int32 → Int32 → zI → zJ → Option (Int32 × zI × zJ)
  | 0, _, _, _, _, _ => none
  | n + 1, x1, x2, x3, μ, ν => (if (μ (b + 3) 0) ≤ x3 then e_Panel_voltsAt_73 b x1 x2 x3 μ ν else (if 6 ≤ x3 then e_Panel_voltsAt_73 b x1 x2 x3 μ ν else (if zin x3 6 = true then (if zin x3 6 = true then zlet (α := Int32) ((μ (b + 7) (Int32.toNatClampNeg x3)) * (μ (b + 7) (Int32.toNatClampNeg x3))) fun y5 => (if zin x3 6 = true then (if (μ (b + 7) (Int32.toNatClampNeg x3)) ≤ x1 then e_Panel_voltsAt_67 b (f_Panel_voltsAt_4 b n) x1 x2 x3 y5 μ ν else (if y5 ≤ 0 then e_Panel_voltsAt_67 b (f_Panel_voltsAt_4 b n) x1 x2 x3 y5 μ ν else (if zin x3 6 = true then (if y5 = 0 then none else zlet (α := Int32) (x2 + (((μ (b + 5) (Int32.toNatClampNeg x3)) * (y5 - (x1 * x1))) / y5)) fun y11 => e_Panel_voltsAt_67 b (f_Panel_voltsAt_4 b n) x1 y11 x3 y5 μ ν) else none))) else none) else none) else none)))
theorem z_Panel_voltsAt_4 {l : Launch} {D : va_G} {dA : Nat → ClassId} {ad : Nat → Nat} {sh : List zSE}  {b : Nat} (hs : zSt sh b)  {out : (Int32 × zI × zJ)} : ∀ (n : Nat) (x1 : Int32) (x2 : Int32) (x3 : Int32) (μ : zI) (ν : zJ), f_Panel_voltsAt_4 b  n x1 x2 x3 μ ν = some out → Z l D dA ad sh m_Panel_voltsAt (zR 0 0 0) (zS ad) (zOi out) 0 0 0 0 [] 4 [(0, .ref (ad (b + 3))), (1, .int x1), (2, .int x2), (3, .int x3)] [] μ ν := by
  intro n
  induction n with
  | zero => intro x1 x2 x3 μ ν hF; cases hF
  | succ n ih =>
    intro x1 x2 x3 μ ν hF
    dsimp only [f_Panel_voltsAt_4] at hF
    refine z_iload_n d_Panel_voltsAt_4 3 rfl rfl ?_
    refine z_aload_n d_Panel_voltsAt_5 0 rfl rfl ?_
    refine z_get d_Panel_voltsAt_6 f_Panel_27 (hs 3 _ rfl) rfl ?_
    refine z_icmp_ge d_Panel_voltsAt_9 (tgt := 73) (by decide) (fun cy1 => ?_) (fun cy1 => ?_)
    · replace hF := zh_t cy1 hF
      exact z_Panel_voltsAt_73 hs  hF
    · replace hF := zh_f cy1 hF
      refine z_iload_n d_Panel_voltsAt_12 3 rfl rfl ?_
      refine z_bipush d_Panel_voltsAt_13 (v := 6) (by decide) ?_
      refine z_icmp_ge d_Panel_voltsAt_15 (tgt := 73) (by decide) (fun cy2 => ?_) (fun cy2 => ?_)
      · replace hF := zh_t cy2 hF
        exact z_Panel_voltsAt_73 hs  hF
      · replace hF := zh_f cy2 hF
        refine z_aload_n d_Panel_voltsAt_18 0 rfl rfl ?_
        refine z_getr d_Panel_voltsAt_19 (q := (b + 7)) f_Panel_21 (hs 3 _ rfl) rfl ?_
        refine z_iload_n d_Panel_voltsAt_22 3 rfl rfl ?_
        obtain ⟨hy3, hF⟩ := zh_if hF
        refine z_iald d_Panel_voltsAt_23 (hs 7 _ rfl) (zin_vp hy3) ?_
        refine z_aload_n d_Panel_voltsAt_24 0 rfl rfl ?_
        refine z_getr d_Panel_voltsAt_25 (q := (b + 7)) f_Panel_21 (hs 3 _ rfl) rfl ?_
        refine z_iload_n d_Panel_voltsAt_28 3 rfl rfl ?_
        obtain ⟨hy4, hF⟩ := zh_if hF
        refine z_iald d_Panel_voltsAt_29 (hs 7 _ rfl) (zin_vp hy4) ?_
        refine z_imul d_Panel_voltsAt_30 ?_
        obtain ⟨y5, hy5, hF⟩ := zh_let hF
        refine z_eqi hy5 ?_
        refine z_istore d_Panel_voltsAt_31 (by decide) (L2 := [(4, .int y5), (0, .ref (ad (b + 3))), (1, .int x1), (2, .int x2), (3, .int x3)]) rfl ?_
        refine z_iload_n d_Panel_voltsAt_33 2 rfl rfl ?_
        refine z_aload_n d_Panel_voltsAt_34 1 rfl rfl ?_
        refine z_getr d_Panel_voltsAt_35 (q := (b + 7)) f_Panel_21 (hs 3 _ rfl) rfl ?_
        refine z_iload_n d_Panel_voltsAt_38 4 rfl rfl ?_
        obtain ⟨hy6, hF⟩ := zh_if hF
        refine z_iald d_Panel_voltsAt_39 (hs 7 _ rfl) (zin_vp hy6) ?_
        refine z_icmp_ge d_Panel_voltsAt_40 (tgt := 67) (by decide) (fun cy7 => ?_) (fun cy7 => ?_)
        · replace hF := zh_t cy7 hF
          refine z_sub [1, 2, 3, 4, 0] (L' := [(0, .ref (ad (b + 3))), (1, .int x1), (2, .int x2), (3, .int x3), (4, .int y5)]) rfl ?_
          exact z_Panel_voltsAt_67 hs (fun a0 a1 a2 a3 a4 => ih a0 a1 a2 a3 a4) hF
        · replace hF := zh_f cy7 hF
          refine z_iload d_Panel_voltsAt_43 0 rfl ?_
          refine z_if_le d_Panel_voltsAt_45 (tgt := 67) (by decide) (fun cy8 => ?_) (fun cy8 => ?_)
          · replace hF := zh_t cy8 hF
            refine z_sub [1, 2, 3, 4, 0] (L' := [(0, .ref (ad (b + 3))), (1, .int x1), (2, .int x2), (3, .int x3), (4, .int y5)]) rfl ?_
            exact z_Panel_voltsAt_67 hs (fun a0 a1 a2 a3 a4 => ih a0 a1 a2 a3 a4) hF
          · replace hF := zh_f cy8 hF
            refine z_iload_n d_Panel_voltsAt_48 3 rfl rfl ?_
            refine z_aload_n d_Panel_voltsAt_49 1 rfl rfl ?_
            refine z_getr d_Panel_voltsAt_50 (q := (b + 5)) f_Panel_15 (hs 3 _ rfl) rfl ?_
            refine z_iload_n d_Panel_voltsAt_53 4 rfl rfl ?_
            obtain ⟨hy9, hF⟩ := zh_if hF
            refine z_iald d_Panel_voltsAt_54 (hs 5 _ rfl) (zin_vp hy9) ?_
            refine z_iload d_Panel_voltsAt_55 0 rfl ?_
            refine z_iload_n d_Panel_voltsAt_57 2 rfl rfl ?_
            refine z_iload_n d_Panel_voltsAt_58 2 rfl rfl ?_
            refine z_imul d_Panel_voltsAt_59 ?_
            refine z_isub d_Panel_voltsAt_60 ?_
            refine z_imul d_Panel_voltsAt_61 ?_
            refine z_iload d_Panel_voltsAt_62 0 rfl ?_
            obtain ⟨hy10, hF⟩ := zh_ne hF
            refine z_idiv d_Panel_voltsAt_64 hy10 ?_
            refine z_iadd d_Panel_voltsAt_65 ?_
            obtain ⟨y11, hy11, hF⟩ := zh_let hF
            refine z_eqi hy11 ?_
            refine z_istore_n d_Panel_voltsAt_66 rfl (by decide) (L2 := [(2, .int y11), (4, .int y5), (0, .ref (ad (b + 3))), (1, .int x1), (3, .int x3)]) rfl ?_
            refine z_sub [2, 3, 0, 4, 1] (L' := [(0, .ref (ad (b + 3))), (1, .int x1), (2, .int y11), (3, .int x3), (4, .int y5)]) rfl ?_
            exact z_Panel_voltsAt_67 hs (fun a0 a1 a2 a3 a4 => ih a0 a1 a2 a3 a4) hF
def e_Panel_voltsAt_0 (b : Nat)  (x1 : Int32) (μ : zI) (ν : zJ) : Option (Int32 × zI × zJ) := f_Panel_voltsAt_4 b zFuel x1 0 0 μ ν
theorem z_Panel_voltsAt_0 {l : Launch} {D : va_G} {dA : Nat → ClassId} {ad : Nat → Nat} {sh : List zSE}  {b : Nat} (hs : zSt sh b)  {x1 : Int32} {μ : zI} {ν : zJ} {out : (Int32 × zI × zJ)} (hF : e_Panel_voltsAt_0 b  x1 μ ν = some out) : Z l D dA ad sh m_Panel_voltsAt (zR 0 0 0) (zS ad) (zOi out) 0 0 0 0 [] 0 [(0, .ref (ad (b + 3))), (1, .int x1)] [] μ ν := by
  unfold e_Panel_voltsAt_0 at hF
  refine z_iconst d_Panel_voltsAt_0 (v := 0) (by decide) ?_
  refine z_istore_n d_Panel_voltsAt_1 rfl (by decide) (L2 := [(2, .int 0), (0, .ref (ad (b + 3))), (1, .int x1)]) rfl ?_
  refine z_iconst d_Panel_voltsAt_2 (v := 0) (by decide) ?_
  refine z_istore_n d_Panel_voltsAt_3 rfl (by decide) (L2 := [(3, .int 0), (2, .int 0), (0, .ref (ad (b + 3))), (1, .int x1)]) rfl ?_
  refine z_sub [2, 3, 1, 0] (L' := [(0, .ref (ad (b + 3))), (1, .int x1), (2, .int 0), (3, .int 0)]) rfl ?_
  exact z_Panel_voltsAt_4 hs  zFuel _ _ _ _ _ hF
def E_Panel_voltsAt (b : Nat) (x1 : Int32) (μ : zI) (ν : zJ) : Option (Int32 × zI × zJ) := e_Panel_voltsAt_0 b x1 μ ν
theorem c_Panel_voltsAt {l : Launch} {D : va_G} {dA : Nat → ClassId} {ad : Nat → Nat} {sh : List zSE} {μ : zI} {ν : zJ} {b : Nat} {x1 : Int32} (hs : zSt sh b) {out : (Int32 × zI × zJ)} (hE : E_Panel_voltsAt b x1 μ ν = some out) : zC l D dA ad sh m_Panel_voltsAt 0 0 0 [.ref (ad (b + 3)), .int x1] μ ν (zOi out) :=
  zC.of (by decide) (Nat.le_of_ble_eq_true rfl) (z_Panel_voltsAt_0 hs hE)
def e_Panel_reckon_81 (b : Nat) (r25 : Int32 → Int32 → zI → zJ → Option (zI × zJ)) (x1 : Int32) (x2 : Int32) (μ : zI) (ν : zJ) : Option (zI × zJ) := r25 x1 (x2 + 1) μ ν
theorem z_Panel_reckon_81 {l : Launch} {D : va_G} {dA : Nat → ClassId} {ad : Nat → Nat} {sh : List zSE}  {b : Nat} (hs : zSt sh b) {r25 : Int32 → Int32 → zI → zJ → Option (zI × zJ)} {x1 : Int32} {x2 : Int32} {μ : zI} {ν : zJ} {out : (zI × zJ)} (hr25 : ∀ (x1 : Int32) (x2 : Int32) (μ : zI) (ν : zJ), r25 x1 x2 μ ν = some out → Z l D dA ad sh m_Panel_reckon (zR 2 0 0) (zS ad) (zOv out) 0 0 0 0 [] 25 [(0, .ref (ad (b + 3))), (1, .int x1), (2, .int x2)] [] μ ν) (hF : e_Panel_reckon_81 b r25 x1 x2 μ ν = some out) : Z l D dA ad sh m_Panel_reckon (zR 2 0 0) (zS ad) (zOv out) 0 0 0 0 [] 81 [(0, .ref (ad (b + 3))), (1, .int x1), (2, .int x2)] [] μ ν := by
  unfold e_Panel_reckon_81 at hF
  refine z_iinc d_Panel_reckon_81 (k := 2) (v := (x2 + 1)) rfl rfl (by decide) (L2 := [(2, .int (x2 + 1)), (0, .ref (ad (b + 3))), (1, .int x1)]) rfl ?_
  refine z_goto d_Panel_reckon_84 (tgt := 25) (by decide) ?_
  refine z_sub [1, 2, 0] (L' := [(0, .ref (ad (b + 3))), (1, .int x1), (2, .int (x2 + 1))]) rfl ?_
  exact hr25 _ _ _ _ hF
def e_Panel_reckon_87 (b : Nat)  (x1 : Int32) (x2 : Int32) (μ : zI) (ν : zJ) : Option (zI × zJ) := some (μ, ν)
theorem z_Panel_reckon_87 {l : Launch} {D : va_G} {dA : Nat → ClassId} {ad : Nat → Nat} {sh : List zSE}  {b : Nat} (hs : zSt sh b)  {x1 : Int32} {x2 : Int32} {μ : zI} {ν : zJ} {out : (zI × zJ)} (hF : e_Panel_reckon_87 b  x1 x2 μ ν = some out) : Z l D dA ad sh m_Panel_reckon (zR 2 0 0) (zS ad) (zOv out) 0 0 0 0 [] 87 [(0, .ref (ad (b + 3))), (1, .int x1), (2, .int x2)] [] μ ν := by
  unfold e_Panel_reckon_87 at hF
  cases hF
  exact z_return d_Panel_reckon_87 rfl ⟨rfl, rfl, rfl⟩
def f_Panel_reckon_25 (b : Nat)  : Nat → Int32 → Int32 → zI → zJ → Option (zI × zJ)
  | 0, _, _, _, _ => none
  | n + 1, x1, x2, μ, ν => (if 1000 ≤ x2 then e_Panel_reckon_87 b x1 x2 μ ν else (if x1 ≤ x2 then e_Panel_reckon_87 b x1 x2 μ ν else Option.bind (E_Panel_voltsAt b x2 μ ν) fun ty3 => (if zin x2 1000 = true then zlet (zu ty3.2.1 (b + 8) (Int32.toNatClampNeg x2) ((x2 * ty3.1) / 10)) fun μy5 => (if zin x2 1000 = true then (if (μy5 (b + 8) (Int32.toNatClampNeg x2)) ≤ (μy5 (b + 3) 2) then e_Panel_reckon_81 b (f_Panel_reckon_25 b n) x1 x2 μy5 ty3.2.2 else (if zin x2 1000 = true then zlet (zu μy5 (b + 3) 2 (μy5 (b + 8) (Int32.toNatClampNeg x2))) fun μy9 => zlet (zu μy9 (b + 3) 1 x2) fun μy10 => e_Panel_reckon_81 b (f_Panel_reckon_25 b n) x1 x2 μy10 ty3.2.2 else none)) else none) else none)))
theorem z_Panel_reckon_25 {l : Launch} {D : va_G} {dA : Nat → ClassId} {ad : Nat → Nat} {sh : List zSE}  {b : Nat} (hs : zSt sh b)  {out : (zI × zJ)} : ∀ (n : Nat) (x1 : Int32) (x2 : Int32) (μ : zI) (ν : zJ), f_Panel_reckon_25 b  n x1 x2 μ ν = some out → Z l D dA ad sh m_Panel_reckon (zR 2 0 0) (zS ad) (zOv out) 0 0 0 0 [] 25 [(0, .ref (ad (b + 3))), (1, .int x1), (2, .int x2)] [] μ ν := by
  intro n
  induction n with
  | zero => intro x1 x2 μ ν hF; cases hF
  | succ n ih =>
    intro x1 x2 μ ν hF
    dsimp only [f_Panel_reckon_25] at hF
    refine z_iload_n d_Panel_reckon_25 2 rfl rfl ?_
    refine z_sipush d_Panel_reckon_26 (v := 1000) (by decide) ?_
    refine z_icmp_ge d_Panel_reckon_29 (tgt := 87) (by decide) (fun cy1 => ?_) (fun cy1 => ?_)
    · replace hF := zh_t cy1 hF
      exact z_Panel_reckon_87 hs  hF
    · replace hF := zh_f cy1 hF
      refine z_iload_n d_Panel_reckon_32 2 rfl rfl ?_
      refine z_iload_n d_Panel_reckon_33 1 rfl rfl ?_
      refine z_icmp_ge d_Panel_reckon_34 (tgt := 87) (by decide) (fun cy2 => ?_) (fun cy2 => ?_)
      · replace hF := zh_t cy2 hF
        exact z_Panel_reckon_87 hs  hF
      · replace hF := zh_f cy2 hF
        refine z_aload_n d_Panel_reckon_37 0 rfl rfl ?_
        refine z_getr d_Panel_reckon_38 (q := (b + 8)) f_Panel_24 (hs 3 _ rfl) rfl ?_
        refine z_iload_n d_Panel_reckon_41 2 rfl rfl ?_
        refine z_iload_n d_Panel_reckon_42 2 rfl rfl ?_
        refine z_aload_n d_Panel_reckon_43 0 rfl rfl ?_
        refine z_iload_n d_Panel_reckon_44 2 rfl rfl ?_
        obtain ⟨ty3, hty3, hF⟩ := zh_bind hF
        refine z_callV d_Panel_reckon_45 (c_Panel_voltsAt hs hty3) mv_Panel_voltsAt l_Panel_63 (fun _ _ h => h) (hs 3 _ rfl) rfl rfl ⟨Nat.le_of_ble_eq_true rfl, Nat.le_of_ble_eq_true rfl⟩ ⟨Nat.le_of_ble_eq_true rfl, Nat.le_of_ble_eq_true rfl⟩ rfl (Nat.le_of_ble_eq_true rfl) (fun r μ' ν' hq => ?_)
        obtain ⟨rfl, rfl, rfl⟩ := hq
        show Z _ _ _ _ _ _ _ _ _ _ _ 0 0 _ _ _ [.int ty3.1, .int x2, .int x2, .ref (ad (b + 8))] _ _
        refine z_imul d_Panel_reckon_48 ?_
        refine z_bipush d_Panel_reckon_49 (v := 10) (by decide) ?_
        refine z_idiv d_Panel_reckon_51 (by decide) ?_
        obtain ⟨hy4, hF⟩ := zh_if hF
        refine z_iast d_Panel_reckon_52 (hs 8 _ rfl) (zin_vp hy4) ?_
        obtain ⟨μy5, hy5, hF⟩ := zh_let hF
        refine z_eqm hy5 ?_
        refine z_aload_n d_Panel_reckon_53 0 rfl rfl ?_
        refine z_getr d_Panel_reckon_54 (q := (b + 8)) f_Panel_24 (hs 3 _ rfl) rfl ?_
        refine z_iload_n d_Panel_reckon_57 2 rfl rfl ?_
        obtain ⟨hy6, hF⟩ := zh_if hF
        refine z_iald d_Panel_reckon_58 (hs 8 _ rfl) (zin_vp hy6) ?_
        refine z_aload_n d_Panel_reckon_59 0 rfl rfl ?_
        refine z_get d_Panel_reckon_60 f_Panel_34 (hs 3 _ rfl) rfl ?_
        refine z_icmp_le d_Panel_reckon_63 (tgt := 81) (by decide) (fun cy7 => ?_) (fun cy7 => ?_)
        · replace hF := zh_t cy7 hF
          exact z_Panel_reckon_81 hs (fun a0 a1 a2 a3 => ih a0 a1 a2 a3) hF
        · replace hF := zh_f cy7 hF
          refine z_aload_n d_Panel_reckon_66 0 rfl rfl ?_
          refine z_aload_n d_Panel_reckon_67 0 rfl rfl ?_
          refine z_getr d_Panel_reckon_68 (q := (b + 8)) f_Panel_24 (hs 3 _ rfl) rfl ?_
          refine z_iload_n d_Panel_reckon_71 2 rfl rfl ?_
          obtain ⟨hy8, hF⟩ := zh_if hF
          refine z_iald d_Panel_reckon_72 (hs 8 _ rfl) (zin_vp hy8) ?_
          refine z_put d_Panel_reckon_73 f_Panel_34 (hs 3 _ rfl) rfl (CL_fin _ _ (fun q hq => by cases hq; rfl)) rfl rfl ?_
          obtain ⟨μy9, hy9, hF⟩ := zh_let hF
          refine z_eqm hy9 ?_
          refine z_aload_n d_Panel_reckon_76 0 rfl rfl ?_
          refine z_iload_n d_Panel_reckon_77 2 rfl rfl ?_
          refine z_put d_Panel_reckon_78 f_Panel_31 (hs 3 _ rfl) rfl (CL_fin _ _ (fun q hq => by cases hq; rfl)) rfl rfl ?_
          obtain ⟨μy10, hy10, hF⟩ := zh_let hF
          refine z_eqm hy10 ?_
          exact z_Panel_reckon_81 hs (fun a0 a1 a2 a3 => ih a0 a1 a2 a3) hF
def e_Panel_reckon_0 (b : Nat)   (μ : zI) (ν : zJ) : Option (zI × zJ) := Option.bind (E_Panel_greatestLit b μ ν) fun ty1 => zlet (α := Int32) ty1.1 fun y2 => zlet (zu ty1.2.1 (b + 3) 1 0) fun μy3 => zlet (zu μy3 (b + 3) 2 0) fun μy4 => zlet (zr μy4 (b + 8) (fun j => if j < 1000 then 0 else μy4 (b + 8) j)) fun μy5 => f_Panel_reckon_25 b zFuel y2 0 μy5 ty1.2.2
theorem z_Panel_reckon_0 {l : Launch} {D : va_G} {dA : Nat → ClassId} {ad : Nat → Nat} {sh : List zSE}  {b : Nat} (hs : zSt sh b)   {μ : zI} {ν : zJ} {out : (zI × zJ)} (hF : e_Panel_reckon_0 b   μ ν = some out) : Z l D dA ad sh m_Panel_reckon (zR 2 0 0) (zS ad) (zOv out) 0 0 0 0 [] 0 [(0, .ref (ad (b + 3)))] [] μ ν := by
  unfold e_Panel_reckon_0 at hF
  refine z_aload_n d_Panel_reckon_0 0 rfl rfl ?_
  obtain ⟨ty1, hty1, hF⟩ := zh_bind hF
  refine z_callV d_Panel_reckon_1 (c_Panel_greatestLit hs hty1) mv_Panel_greatestLit l_Panel_53 (fun _ _ h => h) (hs 3 _ rfl) rfl rfl ⟨Nat.le_of_ble_eq_true rfl, Nat.le_of_ble_eq_true rfl⟩ ⟨Nat.le_of_ble_eq_true rfl, Nat.le_of_ble_eq_true rfl⟩ rfl (Nat.le_of_ble_eq_true rfl) (fun r μ' ν' hq => ?_)
  obtain ⟨rfl, rfl, rfl⟩ := hq
  show Z _ _ _ _ _ _ _ _ _ _ _ 0 0 _ _ _ [.int ty1.1] _ _
  obtain ⟨y2, hy2, hF⟩ := zh_let hF
  refine z_eqi hy2 ?_
  refine z_istore_n d_Panel_reckon_4 rfl (by decide) (L2 := [(1, .int y2), (0, .ref (ad (b + 3)))]) rfl ?_
  refine z_aload_n d_Panel_reckon_5 1 rfl rfl ?_
  refine z_iconst d_Panel_reckon_6 (v := 0) (by decide) ?_
  refine z_put d_Panel_reckon_7 f_Panel_31 (hs 3 _ rfl) rfl (CL_fin _ _ (fun q hq => by cases hq; rfl)) rfl rfl ?_
  obtain ⟨μy3, hy3, hF⟩ := zh_let hF
  refine z_eqm hy3 ?_
  refine z_aload_n d_Panel_reckon_10 1 rfl rfl ?_
  refine z_iconst d_Panel_reckon_11 (v := 0) (by decide) ?_
  refine z_put d_Panel_reckon_12 f_Panel_34 (hs 3 _ rfl) rfl (CL_fin _ _ (fun q hq => by cases hq; rfl)) rfl rfl ?_
  obtain ⟨μy4, hy4, hF⟩ := zh_let hF
  refine z_eqm hy4 ?_
  refine z_aload_n d_Panel_reckon_15 1 rfl rfl ?_
  refine z_getr d_Panel_reckon_16 (q := (b + 8)) f_Panel_24 (hs 3 _ rfl) rfl ?_
  refine z_iconst d_Panel_reckon_19 (v := 0) (by decide) ?_
  refine z_callS d_Panel_reckon_20 (c_fill_I (hs 8 _ rfl) (Nat.le_of_ble_eq_true rfl)) ms_fill_I l_Panel_57 (fun _ _ h => h) rfl ⟨Nat.le_of_ble_eq_true rfl, Nat.le_of_ble_eq_true rfl⟩ ⟨Nat.le_of_ble_eq_true rfl, Nat.le_of_ble_eq_true rfl⟩ rfl (Nat.le_of_ble_eq_true rfl) (fun r μ' ν' hq => ?_)
  obtain ⟨rfl, rfl, rfl⟩ := hq
  obtain ⟨μy5, hy5, hF⟩ := zh_let hF
  refine z_eqm hy5 ?_
  refine z_iconst d_Panel_reckon_23 (v := 0) (by decide) ?_
  refine z_istore_n d_Panel_reckon_24 rfl (by decide) (L2 := [(2, .int 0), (1, .int y2), (0, .ref (ad (b + 3)))]) rfl ?_
  refine z_sub [2, 1, 0] (L' := [(0, .ref (ad (b + 3))), (1, .int y2), (2, .int 0)]) rfl ?_
  exact z_Panel_reckon_25 hs  zFuel _ _ _ _ hF
def E_Panel_reckon (b : Nat)  (μ : zI) (ν : zJ) : Option (zI × zJ) := e_Panel_reckon_0 b μ ν
theorem c_Panel_reckon {l : Launch} {D : va_G} {dA : Nat → ClassId} {ad : Nat → Nat} {sh : List zSE} {μ : zI} {ν : zJ} {b : Nat} (hs : zSt sh b) {out : (zI × zJ)} (hE : E_Panel_reckon b μ ν = some out) : zC l D dA ad sh m_Panel_reckon 2 0 0 [.ref (ad (b + 3))] μ ν (zOv out) :=
  zC.of (by decide) (Nat.le_of_ble_eq_true rfl) (z_Panel_reckon_0 hs hE)
def e_Told_get_20 (b : Nat)  (x1 : Int32) (s0 : Int32) (μ : zI) (ν : zJ) : Option (Int32 × zI × zJ) := some (s0, μ, ν)
theorem z_Told_get_20 {l : Launch} {D : va_G} {dA : Nat → ClassId} {ad : Nat → Nat} {sh : List zSE}  {b : Nat} (hs : zSt sh b)  {x1 : Int32} {s0 : Int32} {μ : zI} {ν : zJ} {out : (Int32 × zI × zJ)} (hF : e_Told_get_20 b  x1 s0 μ ν = some out) : Z l D dA ad sh m_Told_get (zR 0 0 0) (zS ad) (zOi out) 0 0 0 0 [] 20 [(0, .ref (ad (b + 1))), (1, .int x1)] [.int s0] μ ν := by
  unfold e_Told_get_20 at hF
  cases hF
  exact z_ireturn d_Told_get_20 rfl rfl ⟨rfl, rfl, rfl⟩
def e_Told_get_19 (b : Nat)  (x1 : Int32) (μ : zI) (ν : zJ) : Option (Int32 × zI × zJ) := e_Told_get_20 b x1 0 μ ν
theorem z_Told_get_19 {l : Launch} {D : va_G} {dA : Nat → ClassId} {ad : Nat → Nat} {sh : List zSE}  {b : Nat} (hs : zSt sh b)  {x1 : Int32} {μ : zI} {ν : zJ} {out : (Int32 × zI × zJ)} (hF : e_Told_get_19 b  x1 μ ν = some out) : Z l D dA ad sh m_Told_get (zR 0 0 0) (zS ad) (zOi out) 0 0 0 0 [] 19 [(0, .ref (ad (b + 1))), (1, .int x1)] [] μ ν := by
  unfold e_Told_get_19 at hF
  refine z_iconst d_Told_get_19 (v := 0) (by decide) ?_
  exact z_Told_get_20 hs  hF
def e_Told_get_0 (b : Nat)  (x1 : Int32) (μ : zI) (ν : zJ) : Option (Int32 × zI × zJ) := (if x1 < 0 then e_Told_get_19 b x1 μ ν else (if 19 ≤ x1 then e_Told_get_19 b x1 μ ν else (if zin x1 19 = true then e_Told_get_20 b x1 (μ (b + 2) (Int32.toNatClampNeg x1)) μ ν else none)))
theorem z_Told_get_0 {l : Launch} {D : va_G} {dA : Nat → ClassId} {ad : Nat → Nat} {sh : List zSE}  {b : Nat} (hs : zSt sh b)  {x1 : Int32} {μ : zI} {ν : zJ} {out : (Int32 × zI × zJ)} (hF : e_Told_get_0 b  x1 μ ν = some out) : Z l D dA ad sh m_Told_get (zR 0 0 0) (zS ad) (zOi out) 0 0 0 0 [] 0 [(0, .ref (ad (b + 1))), (1, .int x1)] [] μ ν := by
  unfold e_Told_get_0 at hF
  refine z_iload_n d_Told_get_0 1 rfl rfl ?_
  refine z_if_lt d_Told_get_1 (tgt := 19) (by decide) (fun cy1 => ?_) (fun cy1 => ?_)
  · replace hF := zh_t cy1 hF
    exact z_Told_get_19 hs  hF
  · replace hF := zh_f cy1 hF
    refine z_iload_n d_Told_get_4 1 rfl rfl ?_
    refine z_bipush d_Told_get_5 (v := 19) (by decide) ?_
    refine z_icmp_ge d_Told_get_7 (tgt := 19) (by decide) (fun cy2 => ?_) (fun cy2 => ?_)
    · replace hF := zh_t cy2 hF
      exact z_Told_get_19 hs  hF
    · replace hF := zh_f cy2 hF
      refine z_aload_n d_Told_get_10 0 rfl rfl ?_
      refine z_getr d_Told_get_11 (q := (b + 2)) f_Told_9 (hs 1 _ rfl) rfl ?_
      refine z_iload_n d_Told_get_14 1 rfl rfl ?_
      obtain ⟨hy3, hF⟩ := zh_if hF
      refine z_iald d_Told_get_15 (hs 2 _ rfl) (zin_vp hy3) ?_
      refine z_goto d_Told_get_16 (tgt := 20) (by decide) ?_
      exact z_Told_get_20 hs  hF
def E_Told_get (b : Nat) (x1 : Int32) (μ : zI) (ν : zJ) : Option (Int32 × zI × zJ) := e_Told_get_0 b x1 μ ν
theorem c_Told_get {l : Launch} {D : va_G} {dA : Nat → ClassId} {ad : Nat → Nat} {sh : List zSE} {μ : zI} {ν : zJ} {b : Nat} {x1 : Int32} (hs : zSt sh b) {out : (Int32 × zI × zJ)} (hE : E_Told_get b x1 μ ν = some out) : zC l D dA ad sh m_Told_get 0 0 0 [.ref (ad (b + 1)), .int x1] μ ν (zOi out) :=
  zC.of (by decide) (Nat.le_of_ble_eq_true rfl) (z_Told_get_0 hs hE)
def e_Station_begin_0 (b : Nat)   (μ : zI) (ν : zJ) : Option (zI × zJ) := Option.bind (E_Panel_reckon b μ ν) fun ty1 => Option.bind (E_Told_get b 12 ty1.1 ty1.2) fun ty2 => zlet (zu ty2.2.1 (b + 11) 2 ty2.1) fun μy3 => some (μy3, ty2.2.2)
theorem z_Station_begin_0 {l : Launch} {D : va_G} {dA : Nat → ClassId} {ad : Nat → Nat} {sh : List zSE}  {b : Nat} (hs : zSt sh b)   {μ : zI} {ν : zJ} {out : (zI × zJ)} (hF : e_Station_begin_0 b   μ ν = some out) : Z l D dA ad sh m_Station_begin (zR 3 0 0) (zS ad) (zOv out) 0 0 0 0 [] 0 [(0, .ref (ad b))] [] μ ν := by
  unfold e_Station_begin_0 at hF
  refine z_aload_n d_Station_begin_0 0 rfl rfl ?_
  refine z_getr d_Station_begin_1 (q := (b + 3)) f_Station_19 (hs 0 _ rfl) rfl ?_
  obtain ⟨ty1, hty1, hF⟩ := zh_bind hF
  refine z_callV d_Station_begin_4 (c_Panel_reckon hs hty1) mv_Panel_reckon l_Station_77 (fun _ _ h => h) (hs 3 _ rfl) rfl rfl ⟨Nat.le_of_ble_eq_true rfl, Nat.le_of_ble_eq_true rfl⟩ ⟨Nat.le_of_ble_eq_true rfl, Nat.le_of_ble_eq_true rfl⟩ rfl (Nat.le_of_ble_eq_true rfl) (fun r μ' ν' hq => ?_)
  obtain ⟨rfl, rfl, rfl⟩ := hq
  show Z _ _ _ _ _ _ _ _ _ _ _ 0 0 _ _ _ [] _ _
  refine z_aload_n d_Station_begin_7 0 rfl rfl ?_
  refine z_getr d_Station_begin_8 (q := (b + 11)) f_Station_33 (hs 0 _ rfl) rfl ?_
  refine z_aload_n d_Station_begin_11 0 rfl rfl ?_
  refine z_getr d_Station_begin_12 (q := (b + 1)) f_Station_10 (hs 0 _ rfl) rfl ?_
  refine z_bipush d_Station_begin_15 (v := 12) (by decide) ?_
  obtain ⟨ty2, hty2, hF⟩ := zh_bind hF
  refine z_callV d_Station_begin_17 (c_Told_get hs hty2) mv_Told_get l_Station_80 (fun _ _ h => h) (hs 1 _ rfl) rfl rfl ⟨Nat.le_of_ble_eq_true rfl, Nat.le_of_ble_eq_true rfl⟩ ⟨Nat.le_of_ble_eq_true rfl, Nat.le_of_ble_eq_true rfl⟩ rfl (Nat.le_of_ble_eq_true rfl) (fun r μ' ν' hq => ?_)
  obtain ⟨rfl, rfl, rfl⟩ := hq
  show Z _ _ _ _ _ _ _ _ _ _ _ 0 0 _ _ _ [.int ty2.1, .ref (ad (b + 11))] _ _
  refine z_put d_Station_begin_20 f_Station_84 (hs 11 _ rfl) rfl (CL_fin _ _ (fun q hq => by cases hq; rfl)) rfl rfl ?_
  obtain ⟨μy3, hy3, hF⟩ := zh_let hF
  refine z_eqm hy3 ?_
  cases hF
  exact z_return d_Station_begin_23 rfl ⟨rfl, rfl, rfl⟩
def E_Station_begin (b : Nat)  (μ : zI) (ν : zJ) : Option (zI × zJ) := e_Station_begin_0 b μ ν
theorem c_Station_begin {l : Launch} {D : va_G} {dA : Nat → ClassId} {ad : Nat → Nat} {sh : List zSE} {μ : zI} {ν : zJ} {b : Nat} (hs : zSt sh b) {out : (zI × zJ)} (hE : E_Station_begin b μ ν = some out) : zC l D dA ad sh m_Station_begin 3 0 0 [.ref (ad b)] μ ν (zOv out) :=
  zC.of (by decide) (Nat.le_of_ble_eq_true rfl) (z_Station_begin_0 hs hE)
def e_Tape_hasRoomFor_17   (x1 : Int32) (s0 : Int32) (μ : zI) (ν : zJ) : Option (Int32 × zI × zJ) := (if zb s0 = true then some (s0, μ, ν) else none)
theorem z_Tape_hasRoomFor_17 {l : Launch} {D : va_G} {dA : Nat → ClassId} {ad : Nat → Nat} {sh : List zSE}  (hr : zRo sh)  {x1 : Int32} {s0 : Int32} {μ : zI} {ν : zJ} {out : (Int32 × zI × zJ)} (hF : e_Tape_hasRoomFor_17   x1 s0 μ ν = some out) : Z l D dA ad sh m_Tape_hasRoomFor (zR 0 0 0) (zS ad) (zOi out) 0 0 0 0 [] 17 [(0, .ref (ad 1)), (1, .int x1)] [.int s0] μ ν := by
  unfold e_Tape_hasRoomFor_17 at hF
  obtain ⟨hy1, hF⟩ := zh_if hF
  cases hF
  exact z_ireturn d_Tape_hasRoomFor_17 rfl (zb_n hy1) ⟨rfl, rfl, rfl⟩
def e_Tape_hasRoomFor_0   (x1 : Int32) (μ : zI) (ν : zJ) : Option (Int32 × zI × zJ) := (if 900 < ((μ 1 1) + x1) then e_Tape_hasRoomFor_17 x1 0 μ ν else e_Tape_hasRoomFor_17 x1 1 μ ν)
theorem z_Tape_hasRoomFor_0 {l : Launch} {D : va_G} {dA : Nat → ClassId} {ad : Nat → Nat} {sh : List zSE}  (hr : zRo sh)  {x1 : Int32} {μ : zI} {ν : zJ} {out : (Int32 × zI × zJ)} (hF : e_Tape_hasRoomFor_0   x1 μ ν = some out) : Z l D dA ad sh m_Tape_hasRoomFor (zR 0 0 0) (zS ad) (zOi out) 0 0 0 0 [] 0 [(0, .ref (ad 1)), (1, .int x1)] [] μ ν := by
  unfold e_Tape_hasRoomFor_0 at hF
  refine z_aload_n d_Tape_hasRoomFor_0 0 rfl rfl ?_
  refine z_get d_Tape_hasRoomFor_1 f_Tape_13 (hr 1 _ rfl) rfl ?_
  refine z_iload_n d_Tape_hasRoomFor_4 1 rfl rfl ?_
  refine z_iadd d_Tape_hasRoomFor_5 ?_
  refine z_sipush d_Tape_hasRoomFor_6 (v := 900) (by decide) ?_
  refine z_icmp_gt d_Tape_hasRoomFor_9 (tgt := 16) (by decide) (fun cy1 => ?_) (fun cy1 => ?_)
  · replace hF := zh_t cy1 hF
    refine z_iconst d_Tape_hasRoomFor_16 (v := 0) (by decide) ?_
    exact z_Tape_hasRoomFor_17 hr  hF
  · replace hF := zh_f cy1 hF
    refine z_iconst d_Tape_hasRoomFor_12 (v := 1) (by decide) ?_
    refine z_goto d_Tape_hasRoomFor_13 (tgt := 17) (by decide) ?_
    exact z_Tape_hasRoomFor_17 hr  hF
def E_Tape_hasRoomFor  (x1 : Int32) (μ : zI) (ν : zJ) : Option (Int32 × zI × zJ) := e_Tape_hasRoomFor_0 x1 μ ν
theorem c_Tape_hasRoomFor {l : Launch} {D : va_G} {dA : Nat → ClassId} {ad : Nat → Nat} {sh : List zSE} {μ : zI} {ν : zJ} {x1 : Int32} (hr : zRo sh) {out : (Int32 × zI × zJ)} (hE : E_Tape_hasRoomFor x1 μ ν = some out) : zC l D dA ad sh m_Tape_hasRoomFor 0 0 0 [.ref (ad 1), .int x1] μ ν (zOi out) :=
  zC.of (by decide) (Nat.le_of_ble_eq_true rfl) (z_Tape_hasRoomFor_0 hr hE)
def e_Tape_addNumber_40  (r3 : Int32 → Int32 → zI → zJ → Option (zI × zJ)) (x1 : Int32) (x2 : Int32) (μ : zI) (ν : zJ) : Option (zI × zJ) := r3 x1 (x2 + (-8)) μ ν
theorem z_Tape_addNumber_40 {l : Launch} {D : va_G} {dA : Nat → ClassId} {ad : Nat → Nat} {sh : List zSE}  (hr : zRo sh) {r3 : Int32 → Int32 → zI → zJ → Option (zI × zJ)} {x1 : Int32} {x2 : Int32} {μ : zI} {ν : zJ} {out : (zI × zJ)} (hr3 : ∀ (x1 : Int32) (x2 : Int32) (μ : zI) (ν : zJ), r3 x1 x2 μ ν = some out → Z l D dA ad sh m_Tape_addNumber (zR 0 0 0) (zS ad) (zOv out) 0 0 0 0 [] 3 [(0, .ref (ad 1)), (1, .int x1), (2, .int x2)] [] μ ν) (hF : e_Tape_addNumber_40  r3 x1 x2 μ ν = some out) : Z l D dA ad sh m_Tape_addNumber (zR 0 0 0) (zS ad) (zOv out) 0 0 0 0 [] 40 [(0, .ref (ad 1)), (1, .int x1), (2, .int x2)] [] μ ν := by
  unfold e_Tape_addNumber_40 at hF
  refine z_iinc d_Tape_addNumber_40 (k := 2) (v := (x2 + (-8))) rfl rfl (by decide) (L2 := [(2, .int (x2 + (-8))), (0, .ref (ad 1)), (1, .int x1)]) rfl ?_
  refine z_goto d_Tape_addNumber_43 (tgt := 3) (by decide) ?_
  refine z_sub [1, 2, 0] (L' := [(0, .ref (ad 1)), (1, .int x1), (2, .int (x2 + (-8)))]) rfl ?_
  exact hr3 _ _ _ _ hF
def f_Tape_addNumber_3   : Nat → Int32 → Int32 → zI → zJ → Option (zI × zJ)
  | 0, _, _, _, _ => none
  | n + 1, x1, x2, μ, ν => (if x2 < 0 then some (μ, ν) else (if 900 ≤ (μ 1 1) then e_Tape_addNumber_40 (f_Tape_addNumber_3  n) x1 x2 μ ν else (if zin (μ 1 1) 900 = true then zlet (zu μ 2 (Int32.toNatClampNeg (μ 1 1)) (vp_nar .byte ((Int32.toInt8 (((x1).toUInt32 >>> ((x2 : Int32).toUInt32 &&& Int32.toUInt32 31)).toInt32)).toInt32))) fun μy4 => zlet (zu μy4 1 1 ((μy4 1 1) + 1)) fun μy5 => e_Tape_addNumber_40 (f_Tape_addNumber_3  n) x1 x2 μy5 ν else none)))
theorem z_Tape_addNumber_3 {l : Launch} {D : va_G} {dA : Nat → ClassId} {ad : Nat → Nat} {sh : List zSE}  (hr : zRo sh)  {out : (zI × zJ)} : ∀ (n : Nat) (x1 : Int32) (x2 : Int32) (μ : zI) (ν : zJ), f_Tape_addNumber_3   n x1 x2 μ ν = some out → Z l D dA ad sh m_Tape_addNumber (zR 0 0 0) (zS ad) (zOv out) 0 0 0 0 [] 3 [(0, .ref (ad 1)), (1, .int x1), (2, .int x2)] [] μ ν := by
  intro n
  induction n with
  | zero => intro x1 x2 μ ν hF; cases hF
  | succ n ih =>
    intro x1 x2 μ ν hF
    dsimp only [f_Tape_addNumber_3] at hF
    refine z_iload_n d_Tape_addNumber_3 2 rfl rfl ?_
    refine z_if_lt d_Tape_addNumber_4 (tgt := 46) (by decide) (fun cy1 => ?_) (fun cy1 => ?_)
    · replace hF := zh_t cy1 hF
      cases hF
      exact z_return d_Tape_addNumber_46 rfl ⟨rfl, rfl, rfl⟩
    · replace hF := zh_f cy1 hF
      refine z_aload_n d_Tape_addNumber_7 0 rfl rfl ?_
      refine z_get d_Tape_addNumber_8 f_Tape_13 (hr 1 _ rfl) rfl ?_
      refine z_sipush d_Tape_addNumber_11 (v := 900) (by decide) ?_
      refine z_icmp_ge d_Tape_addNumber_14 (tgt := 40) (by decide) (fun cy2 => ?_) (fun cy2 => ?_)
      · replace hF := zh_t cy2 hF
        exact z_Tape_addNumber_40 hr (fun a0 a1 a2 a3 => ih a0 a1 a2 a3) hF
      · replace hF := zh_f cy2 hF
        refine z_aload_n d_Tape_addNumber_17 0 rfl rfl ?_
        refine z_getr d_Tape_addNumber_18 (q := 2) f_Tape_9 (hr 1 _ rfl) rfl ?_
        refine z_aload_n d_Tape_addNumber_21 0 rfl rfl ?_
        refine z_get d_Tape_addNumber_22 f_Tape_13 (hr 1 _ rfl) rfl ?_
        refine z_iload_n d_Tape_addNumber_25 1 rfl rfl ?_
        refine z_iload_n d_Tape_addNumber_26 2 rfl rfl ?_
        refine z_iushr d_Tape_addNumber_27 ?_
        refine z_i2b d_Tape_addNumber_28 ?_
        obtain ⟨hy3, hF⟩ := zh_if hF
        refine z_bast d_Tape_addNumber_29 (hr 2 _ rfl) (zin_vp hy3) ?_
        obtain ⟨μy4, hy4, hF⟩ := zh_let hF
        refine z_eqm hy4 ?_
        refine z_aload_n d_Tape_addNumber_30 0 rfl rfl ?_
        refine z_dup d_Tape_addNumber_31 rfl ?_
        refine z_get d_Tape_addNumber_32 f_Tape_13 (hr 1 _ rfl) rfl ?_
        refine z_iconst d_Tape_addNumber_35 (v := 1) (by decide) ?_
        refine z_iadd d_Tape_addNumber_36 ?_
        refine z_put d_Tape_addNumber_37 f_Tape_13 (hr 1 _ rfl) rfl (CL_fin _ _ (fun q hq => by cases hq; rfl)) rfl rfl ?_
        obtain ⟨μy5, hy5, hF⟩ := zh_let hF
        refine z_eqm hy5 ?_
        exact z_Tape_addNumber_40 hr (fun a0 a1 a2 a3 => ih a0 a1 a2 a3) hF
def e_Tape_addNumber_0   (x1 : Int32) (μ : zI) (ν : zJ) : Option (zI × zJ) := f_Tape_addNumber_3 zFuel x1 24 μ ν
theorem z_Tape_addNumber_0 {l : Launch} {D : va_G} {dA : Nat → ClassId} {ad : Nat → Nat} {sh : List zSE}  (hr : zRo sh)  {x1 : Int32} {μ : zI} {ν : zJ} {out : (zI × zJ)} (hF : e_Tape_addNumber_0   x1 μ ν = some out) : Z l D dA ad sh m_Tape_addNumber (zR 0 0 0) (zS ad) (zOv out) 0 0 0 0 [] 0 [(0, .ref (ad 1)), (1, .int x1)] [] μ ν := by
  unfold e_Tape_addNumber_0 at hF
  refine z_bipush d_Tape_addNumber_0 (v := 24) (by decide) ?_
  refine z_istore_n d_Tape_addNumber_2 rfl (by decide) (L2 := [(2, .int 24), (0, .ref (ad 1)), (1, .int x1)]) rfl ?_
  refine z_sub [1, 2, 0] (L' := [(0, .ref (ad 1)), (1, .int x1), (2, .int 24)]) rfl ?_
  exact z_Tape_addNumber_3 hr  zFuel _ _ _ _ hF
def E_Tape_addNumber  (x1 : Int32) (μ : zI) (ν : zJ) : Option (zI × zJ) := e_Tape_addNumber_0 x1 μ ν
theorem c_Tape_addNumber {l : Launch} {D : va_G} {dA : Nat → ClassId} {ad : Nat → Nat} {sh : List zSE} {μ : zI} {ν : zJ} {x1 : Int32} (hr : zRo sh) {out : (zI × zJ)} (hE : E_Tape_addNumber x1 μ ν = some out) : zC l D dA ad sh m_Tape_addNumber 0 0 0 [.ref (ad 1), .int x1] μ ν (zOv out) :=
  zC.of (by decide) (Nat.le_of_ble_eq_true rfl) (z_Tape_addNumber_0 hr hE)
def e_Reader_signAt_39   (x1 : Int32) (s0 : Int32) (μ : zI) (ν : zJ) : Option (Int32 × zI × zJ) := some (s0, μ, ν)
theorem z_Reader_signAt_39 {l : Launch} {D : va_G} {dA : Nat → ClassId} {ad : Nat → Nat} {sh : List zSE}  (hr : zRo sh)  {x1 : Int32} {s0 : Int32} {μ : zI} {ν : zJ} {out : (Int32 × zI × zJ)} (hF : e_Reader_signAt_39   x1 s0 μ ν = some out) : Z l D dA ad sh m_Reader_signAt (zR 0 0 0) (zS ad) (zOi out) 0 0 0 0 [] 39 [(0, .ref (ad 3)), (1, .int x1)] [.int s0] μ ν := by
  unfold e_Reader_signAt_39 at hF
  cases hF
  exact z_ireturn d_Reader_signAt_39 rfl rfl ⟨rfl, rfl, rfl⟩
def e_Reader_signAt_38   (x1 : Int32) (μ : zI) (ν : zJ) : Option (Int32 × zI × zJ) := e_Reader_signAt_39 x1 0 μ ν
theorem z_Reader_signAt_38 {l : Launch} {D : va_G} {dA : Nat → ClassId} {ad : Nat → Nat} {sh : List zSE}  (hr : zRo sh)  {x1 : Int32} {μ : zI} {ν : zJ} {out : (Int32 × zI × zJ)} (hF : e_Reader_signAt_38   x1 μ ν = some out) : Z l D dA ad sh m_Reader_signAt (zR 0 0 0) (zS ad) (zOi out) 0 0 0 0 [] 38 [(0, .ref (ad 3)), (1, .int x1)] [] μ ν := by
  unfold e_Reader_signAt_38 at hF
  refine z_iconst d_Reader_signAt_38 (v := 0) (by decide) ?_
  exact z_Reader_signAt_39 hr  hF
def e_Reader_signAt_0   (x1 : Int32) (μ : zI) (ν : zJ) : Option (Int32 × zI × zJ) := (if x1 < 0 then e_Reader_signAt_38 x1 μ ν else (if (μ 1 1) ≤ x1 then e_Reader_signAt_38 x1 μ ν else (if 900 ≤ x1 then e_Reader_signAt_38 x1 μ ν else (if zin x1 900 = true then e_Reader_signAt_39 x1 ((μ 2 (Int32.toNatClampNeg x1)) &&& 255) μ ν else none))))
theorem z_Reader_signAt_0 {l : Launch} {D : va_G} {dA : Nat → ClassId} {ad : Nat → Nat} {sh : List zSE}  (hr : zRo sh)  {x1 : Int32} {μ : zI} {ν : zJ} {out : (Int32 × zI × zJ)} (hF : e_Reader_signAt_0   x1 μ ν = some out) : Z l D dA ad sh m_Reader_signAt (zR 0 0 0) (zS ad) (zOi out) 0 0 0 0 [] 0 [(0, .ref (ad 3)), (1, .int x1)] [] μ ν := by
  unfold e_Reader_signAt_0 at hF
  refine z_iload_n d_Reader_signAt_0 1 rfl rfl ?_
  refine z_if_lt d_Reader_signAt_1 (tgt := 38) (by decide) (fun cy1 => ?_) (fun cy1 => ?_)
  · replace hF := zh_t cy1 hF
    exact z_Reader_signAt_38 hr  hF
  · replace hF := zh_f cy1 hF
    refine z_iload_n d_Reader_signAt_4 1 rfl rfl ?_
    refine z_aload_n d_Reader_signAt_5 0 rfl rfl ?_
    refine z_getr d_Reader_signAt_6 (q := 1) f_Reader_9 (hr 3 _ rfl) rfl ?_
    refine z_get d_Reader_signAt_9 f_Reader_188 (hr 1 _ rfl) rfl ?_
    refine z_icmp_ge d_Reader_signAt_12 (tgt := 38) (by decide) (fun cy2 => ?_) (fun cy2 => ?_)
    · replace hF := zh_t cy2 hF
      exact z_Reader_signAt_38 hr  hF
    · replace hF := zh_f cy2 hF
      refine z_iload_n d_Reader_signAt_15 1 rfl rfl ?_
      refine z_sipush d_Reader_signAt_16 (v := 900) (by decide) ?_
      refine z_icmp_ge d_Reader_signAt_19 (tgt := 38) (by decide) (fun cy3 => ?_) (fun cy3 => ?_)
      · replace hF := zh_t cy3 hF
        exact z_Reader_signAt_38 hr  hF
      · replace hF := zh_f cy3 hF
        refine z_aload_n d_Reader_signAt_22 0 rfl rfl ?_
        refine z_getr d_Reader_signAt_23 (q := 1) f_Reader_9 (hr 3 _ rfl) rfl ?_
        refine z_getr d_Reader_signAt_26 (q := 2) f_Reader_193 (hr 1 _ rfl) rfl ?_
        refine z_iload_n d_Reader_signAt_29 1 rfl rfl ?_
        obtain ⟨hy4, hF⟩ := zh_if hF
        refine z_bald d_Reader_signAt_30 (hr 2 _ rfl) (zin_vp hy4) ?_
        refine z_sipush d_Reader_signAt_31 (v := 255) (by decide) ?_
        refine z_iand d_Reader_signAt_34 ?_
        refine z_goto d_Reader_signAt_35 (tgt := 39) (by decide) ?_
        exact z_Reader_signAt_39 hr  hF
def E_Reader_signAt  (x1 : Int32) (μ : zI) (ν : zJ) : Option (Int32 × zI × zJ) := e_Reader_signAt_0 x1 μ ν
theorem c_Reader_signAt {l : Launch} {D : va_G} {dA : Nat → ClassId} {ad : Nat → Nat} {sh : List zSE} {μ : zI} {ν : zJ} {x1 : Int32} (hr : zRo sh) {out : (Int32 × zI × zJ)} (hE : E_Reader_signAt x1 μ ν = some out) : zC l D dA ad sh m_Reader_signAt 0 0 0 [.ref (ad 3), .int x1] μ ν (zOi out) :=
  zC.of (by decide) (Nat.le_of_ble_eq_true rfl) (z_Reader_signAt_0 hr hE)
def e_Reader_kindOf_12   (x0 : Int32) (μ : zI) (ν : zJ) : Option (Int32 × zI × zJ) := some (1, μ, ν)
theorem z_Reader_kindOf_12 {l : Launch} {D : va_G} {dA : Nat → ClassId} {ad : Nat → Nat} {sh : List zSE}    {x0 : Int32} {μ : zI} {ν : zJ} {out : (Int32 × zI × zJ)} (hF : e_Reader_kindOf_12   x0 μ ν = some out) : Z l D dA ad sh m_Reader_kindOf (zR 0 0 0) (zS ad) (zOi out) 0 0 0 0 [] 12 [(0, .int x0)] [] μ ν := by
  unfold e_Reader_kindOf_12 at hF
  refine z_iconst d_Reader_kindOf_12 (v := 1) (by decide) ?_
  cases hF
  exact z_ireturn d_Reader_kindOf_13 rfl rfl ⟨rfl, rfl, rfl⟩
def e_Reader_kindOf_53   (x0 : Int32) (s0 : Int32) (μ : zI) (ν : zJ) : Option (Int32 × zI × zJ) := some (s0, μ, ν)
theorem z_Reader_kindOf_53 {l : Launch} {D : va_G} {dA : Nat → ClassId} {ad : Nat → Nat} {sh : List zSE}    {x0 : Int32} {s0 : Int32} {μ : zI} {ν : zJ} {out : (Int32 × zI × zJ)} (hF : e_Reader_kindOf_53   x0 s0 μ ν = some out) : Z l D dA ad sh m_Reader_kindOf (zR 0 0 0) (zS ad) (zOi out) 0 0 0 0 [] 53 [(0, .int x0)] [.int s0] μ ν := by
  unfold e_Reader_kindOf_53 at hF
  cases hF
  exact z_ireturn d_Reader_kindOf_53 rfl rfl ⟨rfl, rfl, rfl⟩
def e_Reader_kindOf_42   (x0 : Int32) (μ : zI) (ν : zJ) : Option (Int32 × zI × zJ) := (if x0 = 59 then e_Reader_kindOf_53 x0 4 μ ν else e_Reader_kindOf_53 x0 5 μ ν)
theorem z_Reader_kindOf_42 {l : Launch} {D : va_G} {dA : Nat → ClassId} {ad : Nat → Nat} {sh : List zSE}    {x0 : Int32} {μ : zI} {ν : zJ} {out : (Int32 × zI × zJ)} (hF : e_Reader_kindOf_42   x0 μ ν = some out) : Z l D dA ad sh m_Reader_kindOf (zR 0 0 0) (zS ad) (zOi out) 0 0 0 0 [] 42 [(0, .int x0)] [] μ ν := by
  unfold e_Reader_kindOf_42 at hF
  refine z_iload_n d_Reader_kindOf_42 0 rfl rfl ?_
  refine z_bipush d_Reader_kindOf_43 (v := 59) (by decide) ?_
  refine z_icmp_ne d_Reader_kindOf_45 (tgt := 52) (by decide) (fun cy1 => ?_) (fun cy1 => ?_)
  · replace hF := zh_f cy1 hF
    refine z_iconst d_Reader_kindOf_52 (v := 5) (by decide) ?_
    exact z_Reader_kindOf_53   hF
  · replace hF := zh_t cy1 hF
    refine z_iconst d_Reader_kindOf_48 (v := 4) (by decide) ?_
    refine z_goto d_Reader_kindOf_49 (tgt := 53) (by decide) ?_
    exact z_Reader_kindOf_53   hF
def e_Reader_kindOf_28   (x0 : Int32) (μ : zI) (ν : zJ) : Option (Int32 × zI × zJ) := (if x0 < 48 then e_Reader_kindOf_42 x0 μ ν else (if 57 < x0 then e_Reader_kindOf_42 x0 μ ν else some (3, μ, ν)))
theorem z_Reader_kindOf_28 {l : Launch} {D : va_G} {dA : Nat → ClassId} {ad : Nat → Nat} {sh : List zSE}    {x0 : Int32} {μ : zI} {ν : zJ} {out : (Int32 × zI × zJ)} (hF : e_Reader_kindOf_28   x0 μ ν = some out) : Z l D dA ad sh m_Reader_kindOf (zR 0 0 0) (zS ad) (zOi out) 0 0 0 0 [] 28 [(0, .int x0)] [] μ ν := by
  unfold e_Reader_kindOf_28 at hF
  refine z_iload_n d_Reader_kindOf_28 0 rfl rfl ?_
  refine z_bipush d_Reader_kindOf_29 (v := 48) (by decide) ?_
  refine z_icmp_lt d_Reader_kindOf_31 (tgt := 42) (by decide) (fun cy1 => ?_) (fun cy1 => ?_)
  · replace hF := zh_t cy1 hF
    exact z_Reader_kindOf_42   hF
  · replace hF := zh_f cy1 hF
    refine z_iload_n d_Reader_kindOf_34 0 rfl rfl ?_
    refine z_bipush d_Reader_kindOf_35 (v := 57) (by decide) ?_
    refine z_icmp_gt d_Reader_kindOf_37 (tgt := 42) (by decide) (fun cy2 => ?_) (fun cy2 => ?_)
    · replace hF := zh_t cy2 hF
      exact z_Reader_kindOf_42   hF
    · replace hF := zh_f cy2 hF
      refine z_iconst d_Reader_kindOf_40 (v := 3) (by decide) ?_
      cases hF
      exact z_ireturn d_Reader_kindOf_41 rfl rfl ⟨rfl, rfl, rfl⟩
def e_Reader_kindOf_0   (x0 : Int32) (μ : zI) (ν : zJ) : Option (Int32 × zI × zJ) := (if x0 = 10 then e_Reader_kindOf_12 x0 μ ν else (if x0 = 32 then e_Reader_kindOf_12 x0 μ ν else (if x0 < 97 then e_Reader_kindOf_28 x0 μ ν else (if 122 < x0 then e_Reader_kindOf_28 x0 μ ν else some (2, μ, ν)))))
theorem z_Reader_kindOf_0 {l : Launch} {D : va_G} {dA : Nat → ClassId} {ad : Nat → Nat} {sh : List zSE}    {x0 : Int32} {μ : zI} {ν : zJ} {out : (Int32 × zI × zJ)} (hF : e_Reader_kindOf_0   x0 μ ν = some out) : Z l D dA ad sh m_Reader_kindOf (zR 0 0 0) (zS ad) (zOi out) 0 0 0 0 [] 0 [(0, .int x0)] [] μ ν := by
  unfold e_Reader_kindOf_0 at hF
  refine z_iload_n d_Reader_kindOf_0 0 rfl rfl ?_
  refine z_bipush d_Reader_kindOf_1 (v := 10) (by decide) ?_
  refine z_icmp_eq d_Reader_kindOf_3 (tgt := 12) (by decide) (fun cy1 => ?_) (fun cy1 => ?_)
  · replace hF := zh_t cy1 hF
    exact z_Reader_kindOf_12   hF
  · replace hF := zh_f cy1 hF
    refine z_iload_n d_Reader_kindOf_6 0 rfl rfl ?_
    refine z_bipush d_Reader_kindOf_7 (v := 32) (by decide) ?_
    refine z_icmp_ne d_Reader_kindOf_9 (tgt := 14) (by decide) (fun cy2 => ?_) (fun cy2 => ?_)
    · replace hF := zh_f cy2 hF
      refine z_iload_n d_Reader_kindOf_14 0 rfl rfl ?_
      refine z_bipush d_Reader_kindOf_15 (v := 97) (by decide) ?_
      refine z_icmp_lt d_Reader_kindOf_17 (tgt := 28) (by decide) (fun cy3 => ?_) (fun cy3 => ?_)
      · replace hF := zh_t cy3 hF
        exact z_Reader_kindOf_28   hF
      · replace hF := zh_f cy3 hF
        refine z_iload_n d_Reader_kindOf_20 0 rfl rfl ?_
        refine z_bipush d_Reader_kindOf_21 (v := 122) (by decide) ?_
        refine z_icmp_gt d_Reader_kindOf_23 (tgt := 28) (by decide) (fun cy4 => ?_) (fun cy4 => ?_)
        · replace hF := zh_t cy4 hF
          exact z_Reader_kindOf_28   hF
        · replace hF := zh_f cy4 hF
          refine z_iconst d_Reader_kindOf_26 (v := 2) (by decide) ?_
          cases hF
          exact z_ireturn d_Reader_kindOf_27 rfl rfl ⟨rfl, rfl, rfl⟩
    · replace hF := zh_t cy2 hF
      exact z_Reader_kindOf_12   hF
def E_Reader_kindOf  (x0 : Int32) (μ : zI) (ν : zJ) : Option (Int32 × zI × zJ) := e_Reader_kindOf_0 x0 μ ν
theorem c_Reader_kindOf {l : Launch} {D : va_G} {dA : Nat → ClassId} {ad : Nat → Nat} {sh : List zSE} {μ : zI} {ν : zJ} {x0 : Int32}  {out : (Int32 × zI × zJ)} (hE : E_Reader_kindOf x0 μ ν = some out) : zC l D dA ad sh m_Reader_kindOf 0 0 0 [.int x0] μ ν (zOi out) :=
  zC.of (by decide) (Nat.le_of_ble_eq_true rfl) (z_Reader_kindOf_0  hE)
def e_Reader_nextToken_152    (μ : zI) (ν : zJ) : Option (zI × zJ) := some (μ, ν)
theorem z_Reader_nextToken_152 {l : Launch} {D : va_G} {dA : Nat → ClassId} {ad : Nat → Nat} {sh : List zSE}  (hr : zRo sh)   {μ : zI} {ν : zJ} {out : (zI × zJ)} (hF : e_Reader_nextToken_152    μ ν = some out) : Z l D dA ad sh m_Reader_nextToken (zR 1 0 0) (zS ad) (zOv out) 0 0 0 0 [] 152 [(0, .ref (ad 3))] [] μ ν := by
  unfold e_Reader_nextToken_152 at hF
  cases hF
  exact z_return d_Reader_nextToken_152 rfl ⟨rfl, rfl, rfl⟩
def f_Reader_nextToken_110   : Nat → zI → zJ → Option (zI × zJ)
  | 0, _, _ => none
  | n + 1, μ, ν => (if (μ 3 3) ≤ (μ 3 6) then e_Reader_nextToken_152 μ ν else Option.bind (E_Reader_signAt (μ 3 6) μ ν) fun ty2 => Option.bind (E_Reader_kindOf ty2.1 ty2.2.1 ty2.2.2) fun ty3 => (if ty3.1 = (ty3.2.1 3 4) then zlet (zu ty3.2.1 3 6 ((ty3.2.1 3 6) + 1)) fun μy5 => (f_Reader_nextToken_110  n) μy5 ty3.2.2 else e_Reader_nextToken_152 ty3.2.1 ty3.2.2))
theorem z_Reader_nextToken_110 {l : Launch} {D : va_G} {dA : Nat → ClassId} {ad : Nat → Nat} {sh : List zSE}  (hr : zRo sh)  {out : (zI × zJ)} : ∀ (n : Nat)  (μ : zI) (ν : zJ), f_Reader_nextToken_110   n  μ ν = some out → Z l D dA ad sh m_Reader_nextToken (zR 1 0 0) (zS ad) (zOv out) 0 0 0 0 [] 110 [(0, .ref (ad 3))] [] μ ν := by
  intro n
  induction n with
  | zero => intro  μ ν hF; cases hF
  | succ n ih =>
    intro  μ ν hF
    dsimp only [f_Reader_nextToken_110] at hF
    refine z_aload_n d_Reader_nextToken_110 0 rfl rfl ?_
    refine z_get d_Reader_nextToken_111 f_Reader_25 (hr 3 _ rfl) rfl ?_
    refine z_aload_n d_Reader_nextToken_114 0 rfl rfl ?_
    refine z_get d_Reader_nextToken_115 f_Reader_22 (hr 3 _ rfl) rfl ?_
    refine z_icmp_ge d_Reader_nextToken_118 (tgt := 152) (by decide) (fun cy1 => ?_) (fun cy1 => ?_)
    · replace hF := zh_t cy1 hF
      exact z_Reader_nextToken_152 hr  hF
    · replace hF := zh_f cy1 hF
      refine z_aload_n d_Reader_nextToken_121 0 rfl rfl ?_
      refine z_aload_n d_Reader_nextToken_122 0 rfl rfl ?_
      refine z_get d_Reader_nextToken_123 f_Reader_25 (hr 3 _ rfl) rfl ?_
      obtain ⟨ty2, hty2, hF⟩ := zh_bind hF
      refine z_callV d_Reader_nextToken_126 (c_Reader_signAt hr hty2) mv_Reader_signAt l_Reader_153 (fun _ _ h => h) (hr 3 _ rfl) rfl rfl ⟨Nat.le_of_ble_eq_true rfl, Nat.le_of_ble_eq_true rfl⟩ ⟨Nat.le_of_ble_eq_true rfl, Nat.le_of_ble_eq_true rfl⟩ rfl (Nat.le_of_ble_eq_true rfl) (fun r μ' ν' hq => ?_)
      obtain ⟨rfl, rfl, rfl⟩ := hq
      show Z _ _ _ _ _ _ _ _ _ _ _ 0 0 _ _ _ [.int ty2.1] _ _
      obtain ⟨ty3, hty3, hF⟩ := zh_bind hF
      refine z_callS d_Reader_nextToken_129 (c_Reader_kindOf  hty3) ms_Reader_kindOf l_Reader_180 (fun _ _ h => h) rfl ⟨Nat.le_of_ble_eq_true rfl, Nat.le_of_ble_eq_true rfl⟩ ⟨Nat.le_of_ble_eq_true rfl, Nat.le_of_ble_eq_true rfl⟩ rfl (Nat.le_of_ble_eq_true rfl) (fun r μ' ν' hq => ?_)
      obtain ⟨rfl, rfl, rfl⟩ := hq
      show Z _ _ _ _ _ _ _ _ _ _ _ 0 0 _ _ _ [.int ty3.1] _ _
      refine z_aload_n d_Reader_nextToken_132 0 rfl rfl ?_
      refine z_get d_Reader_nextToken_133 f_Reader_39 (hr 3 _ rfl) rfl ?_
      refine z_icmp_ne d_Reader_nextToken_136 (tgt := 152) (by decide) (fun cy4 => ?_) (fun cy4 => ?_)
      · replace hF := zh_f cy4 hF
        exact z_Reader_nextToken_152 hr  hF
      · replace hF := zh_t cy4 hF
        refine z_aload_n d_Reader_nextToken_139 0 rfl rfl ?_
        refine z_dup d_Reader_nextToken_140 rfl ?_
        refine z_get d_Reader_nextToken_141 f_Reader_25 (hr 3 _ rfl) rfl ?_
        refine z_iconst d_Reader_nextToken_144 (v := 1) (by decide) ?_
        refine z_iadd d_Reader_nextToken_145 ?_
        refine z_put d_Reader_nextToken_146 f_Reader_25 (hr 3 _ rfl) rfl (CL_fin _ _ (fun q hq => by cases hq; rfl)) rfl rfl ?_
        obtain ⟨μy5, hy5, hF⟩ := zh_let hF
        refine z_eqm hy5 ?_
        refine z_goto d_Reader_nextToken_149 (tgt := 110) (by decide) ?_
        exact ih  _ _ hF
def e_Reader_nextToken_74   (s1 : Int32) (μ : zI) (ν : zJ) : Option (zI × zJ) := zlet (zu μ 3 4 s1) fun μy1 => zlet (zu μy1 3 6 (zMin ((μy1 3 5) + 1) (μy1 3 3))) fun μy2 => (if (μy2 3 4) = 2 then f_Reader_nextToken_110 zFuel μy2 ν else (if (μy2 3 4) = 3 then f_Reader_nextToken_110 zFuel μy2 ν else e_Reader_nextToken_152 μy2 ν))
theorem z_Reader_nextToken_74 {l : Launch} {D : va_G} {dA : Nat → ClassId} {ad : Nat → Nat} {sh : List zSE}  (hr : zRo sh)  {s1 : Int32} {μ : zI} {ν : zJ} {out : (zI × zJ)} (hF : e_Reader_nextToken_74   s1 μ ν = some out) : Z l D dA ad sh m_Reader_nextToken (zR 1 0 0) (zS ad) (zOv out) 0 0 0 0 [] 74 [(0, .ref (ad 3))] [.int s1, .ref (ad 3)] μ ν := by
  unfold e_Reader_nextToken_74 at hF
  refine z_put d_Reader_nextToken_74 f_Reader_39 (hr 3 _ rfl) rfl (CL_fin _ _ (fun q hq => by cases hq; rfl)) rfl rfl ?_
  obtain ⟨μy1, hy1, hF⟩ := zh_let hF
  refine z_eqm hy1 ?_
  refine z_aload_n d_Reader_nextToken_77 0 rfl rfl ?_
  refine z_aload_n d_Reader_nextToken_78 0 rfl rfl ?_
  refine z_get d_Reader_nextToken_79 f_Reader_149 (hr 3 _ rfl) rfl ?_
  refine z_iconst d_Reader_nextToken_82 (v := 1) (by decide) ?_
  refine z_iadd d_Reader_nextToken_83 ?_
  refine z_aload_n d_Reader_nextToken_84 0 rfl rfl ?_
  refine z_get d_Reader_nextToken_85 f_Reader_22 (hr 3 _ rfl) rfl ?_
  refine z_min d_Reader_nextToken_88 l_Reader_183 ma_min_s ma_i ma_min_c ⟨Nat.le_of_ble_eq_true rfl, Nat.le_of_ble_eq_true rfl, Nat.zero_le _, Nat.zero_le _⟩ ?_
  refine z_put d_Reader_nextToken_91 f_Reader_25 (hr 3 _ rfl) rfl (CL_fin _ _ (fun q hq => by cases hq; rfl)) rfl rfl ?_
  obtain ⟨μy2, hy2, hF⟩ := zh_let hF
  refine z_eqm hy2 ?_
  refine z_aload_n d_Reader_nextToken_94 0 rfl rfl ?_
  refine z_get d_Reader_nextToken_95 f_Reader_39 (hr 3 _ rfl) rfl ?_
  refine z_iconst d_Reader_nextToken_98 (v := 2) (by decide) ?_
  refine z_icmp_eq d_Reader_nextToken_99 (tgt := 110) (by decide) (fun cy3 => ?_) (fun cy3 => ?_)
  · replace hF := zh_t cy3 hF
    exact z_Reader_nextToken_110 hr  zFuel  _ _ hF
  · replace hF := zh_f cy3 hF
    refine z_aload_n d_Reader_nextToken_102 0 rfl rfl ?_
    refine z_get d_Reader_nextToken_103 f_Reader_39 (hr 3 _ rfl) rfl ?_
    refine z_iconst d_Reader_nextToken_106 (v := 3) (by decide) ?_
    refine z_icmp_ne d_Reader_nextToken_107 (tgt := 152) (by decide) (fun cy4 => ?_) (fun cy4 => ?_)
    · replace hF := zh_f cy4 hF
      exact z_Reader_nextToken_152 hr  hF
    · replace hF := zh_t cy4 hF
      exact z_Reader_nextToken_110 hr  zFuel  _ _ hF
def e_Reader_nextToken_47    (μ : zI) (ν : zJ) : Option (zI × zJ) := (if (μ 3 3) ≤ (μ 3 5) then e_Reader_nextToken_74 0 μ ν else Option.bind (E_Reader_signAt (μ 3 5) μ ν) fun ty2 => Option.bind (E_Reader_kindOf ty2.1 ty2.2.1 ty2.2.2) fun ty3 => e_Reader_nextToken_74 ty3.1 ty3.2.1 ty3.2.2)
theorem z_Reader_nextToken_47 {l : Launch} {D : va_G} {dA : Nat → ClassId} {ad : Nat → Nat} {sh : List zSE}  (hr : zRo sh)   {μ : zI} {ν : zJ} {out : (zI × zJ)} (hF : e_Reader_nextToken_47    μ ν = some out) : Z l D dA ad sh m_Reader_nextToken (zR 1 0 0) (zS ad) (zOv out) 0 0 0 0 [] 47 [(0, .ref (ad 3))] [] μ ν := by
  unfold e_Reader_nextToken_47 at hF
  refine z_aload_n d_Reader_nextToken_47 0 rfl rfl ?_
  refine z_aload_n d_Reader_nextToken_48 0 rfl rfl ?_
  refine z_get d_Reader_nextToken_49 f_Reader_149 (hr 3 _ rfl) rfl ?_
  refine z_aload_n d_Reader_nextToken_52 0 rfl rfl ?_
  refine z_get d_Reader_nextToken_53 f_Reader_22 (hr 3 _ rfl) rfl ?_
  refine z_icmp_ge d_Reader_nextToken_56 (tgt := 73) (by decide) (fun cy1 => ?_) (fun cy1 => ?_)
  · replace hF := zh_t cy1 hF
    refine z_iconst d_Reader_nextToken_73 (v := 0) (by decide) ?_
    exact z_Reader_nextToken_74 hr  hF
  · replace hF := zh_f cy1 hF
    refine z_aload_n d_Reader_nextToken_59 0 rfl rfl ?_
    refine z_aload_n d_Reader_nextToken_60 0 rfl rfl ?_
    refine z_get d_Reader_nextToken_61 f_Reader_149 (hr 3 _ rfl) rfl ?_
    obtain ⟨ty2, hty2, hF⟩ := zh_bind hF
    refine z_callV d_Reader_nextToken_64 (c_Reader_signAt hr hty2) mv_Reader_signAt l_Reader_153 (fun _ _ h => h) (hr 3 _ rfl) rfl rfl ⟨Nat.le_of_ble_eq_true rfl, Nat.le_of_ble_eq_true rfl⟩ ⟨Nat.le_of_ble_eq_true rfl, Nat.le_of_ble_eq_true rfl⟩ rfl (Nat.le_of_ble_eq_true rfl) (fun r μ' ν' hq => ?_)
    obtain ⟨rfl, rfl, rfl⟩ := hq
    show Z _ _ _ _ _ _ _ _ _ _ _ 0 0 _ _ _ [.int ty2.1, .ref (ad 3)] _ _
    obtain ⟨ty3, hty3, hF⟩ := zh_bind hF
    refine z_callS d_Reader_nextToken_67 (c_Reader_kindOf  hty3) ms_Reader_kindOf l_Reader_180 (fun _ _ h => h) rfl ⟨Nat.le_of_ble_eq_true rfl, Nat.le_of_ble_eq_true rfl⟩ ⟨Nat.le_of_ble_eq_true rfl, Nat.le_of_ble_eq_true rfl⟩ rfl (Nat.le_of_ble_eq_true rfl) (fun r μ' ν' hq => ?_)
    obtain ⟨rfl, rfl, rfl⟩ := hq
    show Z _ _ _ _ _ _ _ _ _ _ _ 0 0 _ _ _ [.int ty3.1, .ref (ad 3)] _ _
    refine z_goto d_Reader_nextToken_70 (tgt := 74) (by decide) ?_
    exact z_Reader_nextToken_74 hr  hF
def f_Reader_nextToken_8   : Nat → zI → zJ → Option (zI × zJ)
  | 0, _, _ => none
  | n + 1, μ, ν => (if (μ 3 3) ≤ (μ 3 5) then e_Reader_nextToken_47 μ ν else Option.bind (E_Reader_signAt (μ 3 5) μ ν) fun ty2 => Option.bind (E_Reader_kindOf ty2.1 ty2.2.1 ty2.2.2) fun ty3 => (if ty3.1 = 1 then zlet (zu ty3.2.1 3 5 ((ty3.2.1 3 5) + 1)) fun μy5 => (f_Reader_nextToken_8  n) μy5 ty3.2.2 else e_Reader_nextToken_47 ty3.2.1 ty3.2.2))
theorem z_Reader_nextToken_8 {l : Launch} {D : va_G} {dA : Nat → ClassId} {ad : Nat → Nat} {sh : List zSE}  (hr : zRo sh)  {out : (zI × zJ)} : ∀ (n : Nat)  (μ : zI) (ν : zJ), f_Reader_nextToken_8   n  μ ν = some out → Z l D dA ad sh m_Reader_nextToken (zR 1 0 0) (zS ad) (zOv out) 0 0 0 0 [] 8 [(0, .ref (ad 3))] [] μ ν := by
  intro n
  induction n with
  | zero => intro  μ ν hF; cases hF
  | succ n ih =>
    intro  μ ν hF
    dsimp only [f_Reader_nextToken_8] at hF
    refine z_aload_n d_Reader_nextToken_8 0 rfl rfl ?_
    refine z_get d_Reader_nextToken_9 f_Reader_149 (hr 3 _ rfl) rfl ?_
    refine z_aload_n d_Reader_nextToken_12 0 rfl rfl ?_
    refine z_get d_Reader_nextToken_13 f_Reader_22 (hr 3 _ rfl) rfl ?_
    refine z_icmp_ge d_Reader_nextToken_16 (tgt := 47) (by decide) (fun cy1 => ?_) (fun cy1 => ?_)
    · replace hF := zh_t cy1 hF
      exact z_Reader_nextToken_47 hr  hF
    · replace hF := zh_f cy1 hF
      refine z_aload_n d_Reader_nextToken_19 0 rfl rfl ?_
      refine z_aload_n d_Reader_nextToken_20 0 rfl rfl ?_
      refine z_get d_Reader_nextToken_21 f_Reader_149 (hr 3 _ rfl) rfl ?_
      obtain ⟨ty2, hty2, hF⟩ := zh_bind hF
      refine z_callV d_Reader_nextToken_24 (c_Reader_signAt hr hty2) mv_Reader_signAt l_Reader_153 (fun _ _ h => h) (hr 3 _ rfl) rfl rfl ⟨Nat.le_of_ble_eq_true rfl, Nat.le_of_ble_eq_true rfl⟩ ⟨Nat.le_of_ble_eq_true rfl, Nat.le_of_ble_eq_true rfl⟩ rfl (Nat.le_of_ble_eq_true rfl) (fun r μ' ν' hq => ?_)
      obtain ⟨rfl, rfl, rfl⟩ := hq
      show Z _ _ _ _ _ _ _ _ _ _ _ 0 0 _ _ _ [.int ty2.1] _ _
      obtain ⟨ty3, hty3, hF⟩ := zh_bind hF
      refine z_callS d_Reader_nextToken_27 (c_Reader_kindOf  hty3) ms_Reader_kindOf l_Reader_180 (fun _ _ h => h) rfl ⟨Nat.le_of_ble_eq_true rfl, Nat.le_of_ble_eq_true rfl⟩ ⟨Nat.le_of_ble_eq_true rfl, Nat.le_of_ble_eq_true rfl⟩ rfl (Nat.le_of_ble_eq_true rfl) (fun r μ' ν' hq => ?_)
      obtain ⟨rfl, rfl, rfl⟩ := hq
      show Z _ _ _ _ _ _ _ _ _ _ _ 0 0 _ _ _ [.int ty3.1] _ _
      refine z_iconst d_Reader_nextToken_30 (v := 1) (by decide) ?_
      refine z_icmp_ne d_Reader_nextToken_31 (tgt := 47) (by decide) (fun cy4 => ?_) (fun cy4 => ?_)
      · replace hF := zh_f cy4 hF
        exact z_Reader_nextToken_47 hr  hF
      · replace hF := zh_t cy4 hF
        refine z_aload_n d_Reader_nextToken_34 0 rfl rfl ?_
        refine z_dup d_Reader_nextToken_35 rfl ?_
        refine z_get d_Reader_nextToken_36 f_Reader_149 (hr 3 _ rfl) rfl ?_
        refine z_iconst d_Reader_nextToken_39 (v := 1) (by decide) ?_
        refine z_iadd d_Reader_nextToken_40 ?_
        refine z_put d_Reader_nextToken_41 f_Reader_149 (hr 3 _ rfl) rfl (CL_fin _ _ (fun q hq => by cases hq; rfl)) rfl rfl ?_
        obtain ⟨μy5, hy5, hF⟩ := zh_let hF
        refine z_eqm hy5 ?_
        refine z_goto d_Reader_nextToken_44 (tgt := 8) (by decide) ?_
        exact ih  _ _ hF
def e_Reader_nextToken_0    (μ : zI) (ν : zJ) : Option (zI × zJ) := zlet (zu μ 3 5 (μ 3 6)) fun μy1 => f_Reader_nextToken_8 zFuel μy1 ν
theorem z_Reader_nextToken_0 {l : Launch} {D : va_G} {dA : Nat → ClassId} {ad : Nat → Nat} {sh : List zSE}  (hr : zRo sh)   {μ : zI} {ν : zJ} {out : (zI × zJ)} (hF : e_Reader_nextToken_0    μ ν = some out) : Z l D dA ad sh m_Reader_nextToken (zR 1 0 0) (zS ad) (zOv out) 0 0 0 0 [] 0 [(0, .ref (ad 3))] [] μ ν := by
  unfold e_Reader_nextToken_0 at hF
  refine z_aload_n d_Reader_nextToken_0 0 rfl rfl ?_
  refine z_aload_n d_Reader_nextToken_1 0 rfl rfl ?_
  refine z_get d_Reader_nextToken_2 f_Reader_25 (hr 3 _ rfl) rfl ?_
  refine z_put d_Reader_nextToken_5 f_Reader_149 (hr 3 _ rfl) rfl (CL_fin _ _ (fun q hq => by cases hq; rfl)) rfl rfl ?_
  obtain ⟨μy1, hy1, hF⟩ := zh_let hF
  refine z_eqm hy1 ?_
  exact z_Reader_nextToken_8 hr  zFuel  _ _ hF
def E_Reader_nextToken   (μ : zI) (ν : zJ) : Option (zI × zJ) := e_Reader_nextToken_0 μ ν
theorem c_Reader_nextToken {l : Launch} {D : va_G} {dA : Nat → ClassId} {ad : Nat → Nat} {sh : List zSE} {μ : zI} {ν : zJ} (hr : zRo sh) {out : (zI × zJ)} (hE : E_Reader_nextToken  μ ν = some out) : zC l D dA ad sh m_Reader_nextToken 1 0 0 [.ref (ad 3)] μ ν (zOv out) :=
  zC.of (by decide) (Nat.le_of_ble_eq_true rfl) (z_Reader_nextToken_0 hr hE)
def e_Reader_refuse_20   (x1 : Int32) (μ : zI) (ν : zJ) : Option (zI × zJ) := some (μ, ν)
theorem z_Reader_refuse_20 {l : Launch} {D : va_G} {dA : Nat → ClassId} {ad : Nat → Nat} {sh : List zSE}  (hr : zRo sh)  {x1 : Int32} {μ : zI} {ν : zJ} {out : (zI × zJ)} (hF : e_Reader_refuse_20   x1 μ ν = some out) : Z l D dA ad sh m_Reader_refuse (zR 0 0 0) (zS ad) (zOv out) 0 0 0 0 [] 20 [(0, .ref (ad 3)), (1, .int x1)] [] μ ν := by
  unfold e_Reader_refuse_20 at hF
  cases hF
  exact z_return d_Reader_refuse_20 rfl ⟨rfl, rfl, rfl⟩
def e_Reader_refuse_0   (x1 : Int32) (μ : zI) (ν : zJ) : Option (zI × zJ) := (if (μ 3 0) = 0 then zlet (zu μ 3 0 x1) fun μy2 => zlet (zu μy2 3 1 (μy2 3 5)) fun μy3 => e_Reader_refuse_20 x1 μy3 ν else e_Reader_refuse_20 x1 μ ν)
theorem z_Reader_refuse_0 {l : Launch} {D : va_G} {dA : Nat → ClassId} {ad : Nat → Nat} {sh : List zSE}  (hr : zRo sh)  {x1 : Int32} {μ : zI} {ν : zJ} {out : (zI × zJ)} (hF : e_Reader_refuse_0   x1 μ ν = some out) : Z l D dA ad sh m_Reader_refuse (zR 0 0 0) (zS ad) (zOv out) 0 0 0 0 [] 0 [(0, .ref (ad 3)), (1, .int x1)] [] μ ν := by
  unfold e_Reader_refuse_0 at hF
  refine z_aload_n d_Reader_refuse_0 0 rfl rfl ?_
  refine z_get d_Reader_refuse_1 f_Reader_19 (hr 3 _ rfl) rfl ?_
  refine z_if_ne d_Reader_refuse_4 (tgt := 20) (by decide) (fun cy1 => ?_) (fun cy1 => ?_)
  · replace hF := zh_f cy1 hF
    exact z_Reader_refuse_20 hr  hF
  · replace hF := zh_t cy1 hF
    refine z_aload_n d_Reader_refuse_7 0 rfl rfl ?_
    refine z_iload_n d_Reader_refuse_8 1 rfl rfl ?_
    refine z_put d_Reader_refuse_9 f_Reader_19 (hr 3 _ rfl) rfl (CL_fin _ _ (fun q hq => by cases hq; rfl)) rfl rfl ?_
    obtain ⟨μy2, hy2, hF⟩ := zh_let hF
    refine z_eqm hy2 ?_
    refine z_aload_n d_Reader_refuse_12 0 rfl rfl ?_
    refine z_aload_n d_Reader_refuse_13 0 rfl rfl ?_
    refine z_get d_Reader_refuse_14 f_Reader_149 (hr 3 _ rfl) rfl ?_
    refine z_put d_Reader_refuse_17 f_Reader_15 (hr 3 _ rfl) rfl (CL_fin _ _ (fun q hq => by cases hq; rfl)) rfl rfl ?_
    obtain ⟨μy3, hy3, hF⟩ := zh_let hF
    refine z_eqm hy3 ?_
    exact z_Reader_refuse_20 hr  hF
def E_Reader_refuse  (x1 : Int32) (μ : zI) (ν : zJ) : Option (zI × zJ) := e_Reader_refuse_0 x1 μ ν
theorem c_Reader_refuse {l : Launch} {D : va_G} {dA : Nat → ClassId} {ad : Nat → Nat} {sh : List zSE} {μ : zI} {ν : zJ} {x1 : Int32} (hr : zRo sh) {out : (zI × zJ)} (hE : E_Reader_refuse x1 μ ν = some out) : zC l D dA ad sh m_Reader_refuse 0 0 0 [.ref (ad 3), .int x1] μ ν (zOv out) :=
  zC.of (by decide) (Nat.le_of_ble_eq_true rfl) (z_Reader_refuse_0 hr hE)
def e_Reader_readNumber_75   (x1 : Int32) (x2 : Int32) (x3 : Int32) (x4 : Int32) (μ : zI) (ν : zJ) : Option (Int32 × zI × zJ) := Option.bind (E_Reader_nextToken μ ν) fun ty1 => some (x3, ty1.1, ty1.2)
theorem z_Reader_readNumber_75 {l : Launch} {D : va_G} {dA : Nat → ClassId} {ad : Nat → Nat} {sh : List zSE}  (hr : zRo sh)  {x1 : Int32} {x2 : Int32} {x3 : Int32} {x4 : Int32} {μ : zI} {ν : zJ} {out : (Int32 × zI × zJ)} (hF : e_Reader_readNumber_75   x1 x2 x3 x4 μ ν = some out) : Z l D dA ad sh m_Reader_readNumber (zR 2 0 0) (zS ad) (zOi out) 0 0 0 0 [] 75 [(0, .ref (ad 3)), (1, .int x1), (2, .int x2), (3, .int x3), (4, .int x4)] [] μ ν := by
  unfold e_Reader_readNumber_75 at hF
  refine z_aload_n d_Reader_readNumber_75 0 rfl rfl ?_
  obtain ⟨ty1, hty1, hF⟩ := zh_bind hF
  refine z_callV d_Reader_readNumber_76 (c_Reader_nextToken hr hty1) mv_Reader_nextToken l_Reader_36 (fun _ _ h => h) (hr 3 _ rfl) rfl rfl ⟨Nat.le_of_ble_eq_true rfl, Nat.le_of_ble_eq_true rfl⟩ ⟨Nat.le_of_ble_eq_true rfl, Nat.le_of_ble_eq_true rfl⟩ rfl (Nat.le_of_ble_eq_true rfl) (fun r μ' ν' hq => ?_)
  obtain ⟨rfl, rfl, rfl⟩ := hq
  show Z _ _ _ _ _ _ _ _ _ _ _ 0 0 _ _ _ [] _ _
  refine z_iload_n d_Reader_readNumber_79 3 rfl rfl ?_
  cases hF
  exact z_ireturn d_Reader_readNumber_80 rfl rfl ⟨rfl, rfl, rfl⟩
def e_Reader_readNumber_70   (x1 : Int32) (x2 : Int32) (x3 : Int32) (x4 : Int32) (μ : zI) (ν : zJ) : Option (Int32 × zI × zJ) := Option.bind (E_Reader_refuse 2 μ ν) fun ty1 => e_Reader_readNumber_75 x1 x2 x3 x4 ty1.1 ty1.2
theorem z_Reader_readNumber_70 {l : Launch} {D : va_G} {dA : Nat → ClassId} {ad : Nat → Nat} {sh : List zSE}  (hr : zRo sh)  {x1 : Int32} {x2 : Int32} {x3 : Int32} {x4 : Int32} {μ : zI} {ν : zJ} {out : (Int32 × zI × zJ)} (hF : e_Reader_readNumber_70   x1 x2 x3 x4 μ ν = some out) : Z l D dA ad sh m_Reader_readNumber (zR 2 0 0) (zS ad) (zOi out) 0 0 0 0 [] 70 [(0, .ref (ad 3)), (1, .int x1), (2, .int x2), (3, .int x3), (4, .int x4)] [] μ ν := by
  unfold e_Reader_readNumber_70 at hF
  refine z_aload_n d_Reader_readNumber_70 0 rfl rfl ?_
  refine z_iconst d_Reader_readNumber_71 (v := 2) (by decide) ?_
  obtain ⟨ty1, hty1, hF⟩ := zh_bind hF
  refine z_callV d_Reader_readNumber_72 (c_Reader_refuse hr hty1) mv_Reader_refuse l_Reader_75 (fun _ _ h => h) (hr 3 _ rfl) rfl rfl ⟨Nat.le_of_ble_eq_true rfl, Nat.le_of_ble_eq_true rfl⟩ ⟨Nat.le_of_ble_eq_true rfl, Nat.le_of_ble_eq_true rfl⟩ rfl (Nat.le_of_ble_eq_true rfl) (fun r μ' ν' hq => ?_)
  obtain ⟨rfl, rfl, rfl⟩ := hq
  show Z _ _ _ _ _ _ _ _ _ _ _ 0 0 _ _ _ [] _ _
  exact z_Reader_readNumber_75 hr  hF
def e_Reader_readNumber_44   (x1 : Int32) (x2 : Int32) (x3 : Int32) (x4 : Int32) (μ : zI) (ν : zJ) : Option (Int32 × zI × zJ) := (if (μ 3 4) = 3 then (if x3 < x1 then e_Reader_readNumber_70 x1 x2 x3 x4 μ ν else (if x3 ≤ x2 then e_Reader_readNumber_75 x1 x2 x3 x4 μ ν else e_Reader_readNumber_70 x1 x2 x3 x4 μ ν)) else Option.bind (E_Reader_refuse 1 μ ν) fun ty4 => e_Reader_readNumber_75 x1 x2 x3 x4 ty4.1 ty4.2)
theorem z_Reader_readNumber_44 {l : Launch} {D : va_G} {dA : Nat → ClassId} {ad : Nat → Nat} {sh : List zSE}  (hr : zRo sh)  {x1 : Int32} {x2 : Int32} {x3 : Int32} {x4 : Int32} {μ : zI} {ν : zJ} {out : (Int32 × zI × zJ)} (hF : e_Reader_readNumber_44   x1 x2 x3 x4 μ ν = some out) : Z l D dA ad sh m_Reader_readNumber (zR 2 0 0) (zS ad) (zOi out) 0 0 0 0 [] 44 [(0, .ref (ad 3)), (1, .int x1), (2, .int x2), (3, .int x3), (4, .int x4)] [] μ ν := by
  unfold e_Reader_readNumber_44 at hF
  refine z_aload_n d_Reader_readNumber_44 0 rfl rfl ?_
  refine z_get d_Reader_readNumber_45 f_Reader_39 (hr 3 _ rfl) rfl ?_
  refine z_iconst d_Reader_readNumber_48 (v := 3) (by decide) ?_
  refine z_icmp_eq d_Reader_readNumber_49 (tgt := 60) (by decide) (fun cy1 => ?_) (fun cy1 => ?_)
  · replace hF := zh_t cy1 hF
    refine z_iload_n d_Reader_readNumber_60 3 rfl rfl ?_
    refine z_iload_n d_Reader_readNumber_61 1 rfl rfl ?_
    refine z_icmp_lt d_Reader_readNumber_62 (tgt := 70) (by decide) (fun cy2 => ?_) (fun cy2 => ?_)
    · replace hF := zh_t cy2 hF
      exact z_Reader_readNumber_70 hr  hF
    · replace hF := zh_f cy2 hF
      refine z_iload_n d_Reader_readNumber_65 3 rfl rfl ?_
      refine z_iload_n d_Reader_readNumber_66 2 rfl rfl ?_
      refine z_icmp_le d_Reader_readNumber_67 (tgt := 75) (by decide) (fun cy3 => ?_) (fun cy3 => ?_)
      · replace hF := zh_t cy3 hF
        exact z_Reader_readNumber_75 hr  hF
      · replace hF := zh_f cy3 hF
        exact z_Reader_readNumber_70 hr  hF
  · replace hF := zh_f cy1 hF
    refine z_aload_n d_Reader_readNumber_52 0 rfl rfl ?_
    refine z_iconst d_Reader_readNumber_53 (v := 1) (by decide) ?_
    obtain ⟨ty4, hty4, hF⟩ := zh_bind hF
    refine z_callV d_Reader_readNumber_54 (c_Reader_refuse hr hty4) mv_Reader_refuse l_Reader_75 (fun _ _ h => h) (hr 3 _ rfl) rfl rfl ⟨Nat.le_of_ble_eq_true rfl, Nat.le_of_ble_eq_true rfl⟩ ⟨Nat.le_of_ble_eq_true rfl, Nat.le_of_ble_eq_true rfl⟩ rfl (Nat.le_of_ble_eq_true rfl) (fun r μ' ν' hq => ?_)
    obtain ⟨rfl, rfl, rfl⟩ := hq
    show Z _ _ _ _ _ _ _ _ _ _ _ 0 0 _ _ _ [] _ _
    refine z_goto d_Reader_readNumber_57 (tgt := 75) (by decide) ?_
    exact z_Reader_readNumber_75 hr  hF
def f_Reader_readNumber_8   : Nat → Int32 → Int32 → Int32 → Int32 → zI → zJ → Option (Int32 × zI × zJ)
  | 0, _, _, _, _, _, _ => none
  | n + 1, x1, x2, x3, x4, μ, ν => (if (μ 3 6) ≤ x4 then e_Reader_readNumber_44 x1 x2 x3 x4 μ ν else (if 1000000 ≤ x3 then e_Reader_readNumber_44 x1 x2 x3 x4 μ ν else Option.bind (E_Reader_signAt x4 μ ν) fun ty3 => zlet (α := Int32) (((x3 * 10) + ty3.1) - 48) fun y4 => (f_Reader_readNumber_8  n) x1 x2 y4 (x4 + 1) ty3.2.1 ty3.2.2))
theorem z_Reader_readNumber_8 {l : Launch} {D : va_G} {dA : Nat → ClassId} {ad : Nat → Nat} {sh : List zSE}  (hr : zRo sh)  {out : (Int32 × zI × zJ)} : ∀ (n : Nat) (x1 : Int32) (x2 : Int32) (x3 : Int32) (x4 : Int32) (μ : zI) (ν : zJ), f_Reader_readNumber_8   n x1 x2 x3 x4 μ ν = some out → Z l D dA ad sh m_Reader_readNumber (zR 2 0 0) (zS ad) (zOi out) 0 0 0 0 [] 8 [(0, .ref (ad 3)), (1, .int x1), (2, .int x2), (3, .int x3), (4, .int x4)] [] μ ν := by
  intro n
  induction n with
  | zero => intro x1 x2 x3 x4 μ ν hF; cases hF
  | succ n ih =>
    intro x1 x2 x3 x4 μ ν hF
    dsimp only [f_Reader_readNumber_8] at hF
    refine z_iload d_Reader_readNumber_8 4 rfl ?_
    refine z_aload_n d_Reader_readNumber_10 0 rfl rfl ?_
    refine z_get d_Reader_readNumber_11 f_Reader_25 (hr 3 _ rfl) rfl ?_
    refine z_icmp_ge d_Reader_readNumber_14 (tgt := 44) (by decide) (fun cy1 => ?_) (fun cy1 => ?_)
    · replace hF := zh_t cy1 hF
      exact z_Reader_readNumber_44 hr  hF
    · replace hF := zh_f cy1 hF
      refine z_iload_n d_Reader_readNumber_17 3 rfl rfl ?_
      refine z_ldc d_Reader_readNumber_18 k_Reader_152 ?_
      refine z_icmp_ge d_Reader_readNumber_20 (tgt := 44) (by decide) (fun cy2 => ?_) (fun cy2 => ?_)
      · replace hF := zh_t cy2 hF
        exact z_Reader_readNumber_44 hr  hF
      · replace hF := zh_f cy2 hF
        refine z_iload_n d_Reader_readNumber_23 3 rfl rfl ?_
        refine z_bipush d_Reader_readNumber_24 (v := 10) (by decide) ?_
        refine z_imul d_Reader_readNumber_26 ?_
        refine z_aload_n d_Reader_readNumber_27 0 rfl rfl ?_
        refine z_iload d_Reader_readNumber_28 4 rfl ?_
        obtain ⟨ty3, hty3, hF⟩ := zh_bind hF
        refine z_callV d_Reader_readNumber_30 (c_Reader_signAt hr hty3) mv_Reader_signAt l_Reader_153 (fun _ _ h => h) (hr 3 _ rfl) rfl rfl ⟨Nat.le_of_ble_eq_true rfl, Nat.le_of_ble_eq_true rfl⟩ ⟨Nat.le_of_ble_eq_true rfl, Nat.le_of_ble_eq_true rfl⟩ rfl (Nat.le_of_ble_eq_true rfl) (fun r μ' ν' hq => ?_)
        obtain ⟨rfl, rfl, rfl⟩ := hq
        show Z _ _ _ _ _ _ _ _ _ _ _ 0 0 _ _ _ [.int ty3.1, .int (x3 * 10)] _ _
        refine z_iadd d_Reader_readNumber_33 ?_
        refine z_bipush d_Reader_readNumber_34 (v := 48) (by decide) ?_
        refine z_isub d_Reader_readNumber_36 ?_
        obtain ⟨y4, hy4, hF⟩ := zh_let hF
        refine z_eqi hy4 ?_
        refine z_istore_n d_Reader_readNumber_37 rfl (by decide) (L2 := [(3, .int y4), (0, .ref (ad 3)), (1, .int x1), (2, .int x2), (4, .int x4)]) rfl ?_
        refine z_iinc d_Reader_readNumber_38 (k := 4) (v := (x4 + 1)) rfl rfl (by decide) (L2 := [(4, .int (x4 + 1)), (3, .int y4), (0, .ref (ad 3)), (1, .int x1), (2, .int x2)]) rfl ?_
        refine z_goto d_Reader_readNumber_41 (tgt := 8) (by decide) ?_
        refine z_sub [2, 3, 4, 1, 0] (L' := [(0, .ref (ad 3)), (1, .int x1), (2, .int x2), (3, .int y4), (4, .int (x4 + 1))]) rfl ?_
        exact ih _ _ _ _ _ _ hF
def e_Reader_readNumber_0   (x1 : Int32) (x2 : Int32) (μ : zI) (ν : zJ) : Option (Int32 × zI × zJ) := zlet (α := Int32) (μ 3 5) fun y1 => f_Reader_readNumber_8 zFuel x1 x2 0 y1 μ ν
theorem z_Reader_readNumber_0 {l : Launch} {D : va_G} {dA : Nat → ClassId} {ad : Nat → Nat} {sh : List zSE}  (hr : zRo sh)  {x1 : Int32} {x2 : Int32} {μ : zI} {ν : zJ} {out : (Int32 × zI × zJ)} (hF : e_Reader_readNumber_0   x1 x2 μ ν = some out) : Z l D dA ad sh m_Reader_readNumber (zR 2 0 0) (zS ad) (zOi out) 0 0 0 0 [] 0 [(0, .ref (ad 3)), (1, .int x1), (2, .int x2)] [] μ ν := by
  unfold e_Reader_readNumber_0 at hF
  refine z_iconst d_Reader_readNumber_0 (v := 0) (by decide) ?_
  refine z_istore_n d_Reader_readNumber_1 rfl (by decide) (L2 := [(3, .int 0), (0, .ref (ad 3)), (1, .int x1), (2, .int x2)]) rfl ?_
  refine z_aload_n d_Reader_readNumber_2 1 rfl rfl ?_
  refine z_get d_Reader_readNumber_3 f_Reader_149 (hr 3 _ rfl) rfl ?_
  obtain ⟨y1, hy1, hF⟩ := zh_let hF
  refine z_eqi hy1 ?_
  refine z_istore d_Reader_readNumber_6 (by decide) (L2 := [(4, .int y1), (3, .int 0), (0, .ref (ad 3)), (1, .int x1), (2, .int x2)]) rfl ?_
  refine z_sub [2, 3, 4, 1, 0] (L' := [(0, .ref (ad 3)), (1, .int x1), (2, .int x2), (3, .int 0), (4, .int y1)]) rfl ?_
  exact z_Reader_readNumber_8 hr  zFuel _ _ _ _ _ _ hF
def E_Reader_readNumber  (x1 : Int32) (x2 : Int32) (μ : zI) (ν : zJ) : Option (Int32 × zI × zJ) := e_Reader_readNumber_0 x1 x2 μ ν
theorem c_Reader_readNumber {l : Launch} {D : va_G} {dA : Nat → ClassId} {ad : Nat → Nat} {sh : List zSE} {μ : zI} {ν : zJ} {x1 : Int32} {x2 : Int32} (hr : zRo sh) {out : (Int32 × zI × zJ)} (hE : E_Reader_readNumber x1 x2 μ ν = some out) : zC l D dA ad sh m_Reader_readNumber 2 0 0 [.ref (ad 3), .int x1, .int x2] μ ν (zOi out) :=
  zC.of (by decide) (Nat.le_of_ble_eq_true rfl) (z_Reader_readNumber_0 hr hE)
def e_Panel_addModule_60 (b : Nat)  (x1 : Int32) (x2 : Int32) (μ : zI) (ν : zJ) : Option (zI × zJ) := some (μ, ν)
theorem z_Panel_addModule_60 {l : Launch} {D : va_G} {dA : Nat → ClassId} {ad : Nat → Nat} {sh : List zSE}  {b : Nat} (hs : zSt sh b)  {x1 : Int32} {x2 : Int32} {μ : zI} {ν : zJ} {out : (zI × zJ)} (hF : e_Panel_addModule_60 b  x1 x2 μ ν = some out) : Z l D dA ad sh m_Panel_addModule (zR 0 0 0) (zS ad) (zOv out) 0 0 0 0 [] 60 [(0, .ref (ad (b + 3))), (1, .int x1), (2, .int x2)] [] μ ν := by
  unfold e_Panel_addModule_60 at hF
  cases hF
  exact z_return d_Panel_addModule_60 rfl ⟨rfl, rfl, rfl⟩
def e_Panel_addModule_0 (b : Nat)  (x1 : Int32) (x2 : Int32) (μ : zI) (ν : zJ) : Option (zI × zJ) := (if 6 ≤ (μ (b + 3) 0) then e_Panel_addModule_60 b x1 x2 μ ν else (if zin (μ (b + 3) 0) 6 = true then zlet (zu μ (b + 4) (Int32.toNatClampNeg (μ (b + 3) 0)) x1) fun μy3 => (if zin (μy3 (b + 3) 0) 6 = true then zlet (zu μy3 (b + 5) (Int32.toNatClampNeg (μy3 (b + 3) 0)) x2) fun μy5 => (if zin (μy5 (b + 3) 0) 6 = true then zlet (zu μy5 (b + 6) (Int32.toNatClampNeg (μy5 (b + 3) 0)) 100) fun μy7 => (if zin (μy7 (b + 3) 0) 6 = true then zlet (zu μy7 (b + 7) (Int32.toNatClampNeg (μy7 (b + 3) 0)) x1) fun μy9 => zlet (zu μy9 (b + 3) 0 ((μy9 (b + 3) 0) + 1)) fun μy10 => e_Panel_addModule_60 b x1 x2 μy10 ν else none) else none) else none) else none))
theorem z_Panel_addModule_0 {l : Launch} {D : va_G} {dA : Nat → ClassId} {ad : Nat → Nat} {sh : List zSE}  {b : Nat} (hs : zSt sh b)  {x1 : Int32} {x2 : Int32} {μ : zI} {ν : zJ} {out : (zI × zJ)} (hF : e_Panel_addModule_0 b  x1 x2 μ ν = some out) : Z l D dA ad sh m_Panel_addModule (zR 0 0 0) (zS ad) (zOv out) 0 0 0 0 [] 0 [(0, .ref (ad (b + 3))), (1, .int x1), (2, .int x2)] [] μ ν := by
  unfold e_Panel_addModule_0 at hF
  refine z_aload_n d_Panel_addModule_0 0 rfl rfl ?_
  refine z_get d_Panel_addModule_1 f_Panel_27 (hs 3 _ rfl) rfl ?_
  refine z_bipush d_Panel_addModule_4 (v := 6) (by decide) ?_
  refine z_icmp_ge d_Panel_addModule_6 (tgt := 60) (by decide) (fun cy1 => ?_) (fun cy1 => ?_)
  · replace hF := zh_t cy1 hF
    exact z_Panel_addModule_60 hs  hF
  · replace hF := zh_f cy1 hF
    refine z_aload_n d_Panel_addModule_9 0 rfl rfl ?_
    refine z_getr d_Panel_addModule_10 (q := (b + 4)) f_Panel_11 (hs 3 _ rfl) rfl ?_
    refine z_aload_n d_Panel_addModule_13 0 rfl rfl ?_
    refine z_get d_Panel_addModule_14 f_Panel_27 (hs 3 _ rfl) rfl ?_
    refine z_iload_n d_Panel_addModule_17 1 rfl rfl ?_
    obtain ⟨hy2, hF⟩ := zh_if hF
    refine z_iast d_Panel_addModule_18 (hs 4 _ rfl) (zin_vp hy2) ?_
    obtain ⟨μy3, hy3, hF⟩ := zh_let hF
    refine z_eqm hy3 ?_
    refine z_aload_n d_Panel_addModule_19 0 rfl rfl ?_
    refine z_getr d_Panel_addModule_20 (q := (b + 5)) f_Panel_15 (hs 3 _ rfl) rfl ?_
    refine z_aload_n d_Panel_addModule_23 0 rfl rfl ?_
    refine z_get d_Panel_addModule_24 f_Panel_27 (hs 3 _ rfl) rfl ?_
    refine z_iload_n d_Panel_addModule_27 2 rfl rfl ?_
    obtain ⟨hy4, hF⟩ := zh_if hF
    refine z_iast d_Panel_addModule_28 (hs 5 _ rfl) (zin_vp hy4) ?_
    obtain ⟨μy5, hy5, hF⟩ := zh_let hF
    refine z_eqm hy5 ?_
    refine z_aload_n d_Panel_addModule_29 0 rfl rfl ?_
    refine z_getr d_Panel_addModule_30 (q := (b + 6)) f_Panel_18 (hs 3 _ rfl) rfl ?_
    refine z_aload_n d_Panel_addModule_33 0 rfl rfl ?_
    refine z_get d_Panel_addModule_34 f_Panel_27 (hs 3 _ rfl) rfl ?_
    refine z_bipush d_Panel_addModule_37 (v := 100) (by decide) ?_
    obtain ⟨hy6, hF⟩ := zh_if hF
    refine z_iast d_Panel_addModule_39 (hs 6 _ rfl) (zin_vp hy6) ?_
    obtain ⟨μy7, hy7, hF⟩ := zh_let hF
    refine z_eqm hy7 ?_
    refine z_aload_n d_Panel_addModule_40 0 rfl rfl ?_
    refine z_getr d_Panel_addModule_41 (q := (b + 7)) f_Panel_21 (hs 3 _ rfl) rfl ?_
    refine z_aload_n d_Panel_addModule_44 0 rfl rfl ?_
    refine z_get d_Panel_addModule_45 f_Panel_27 (hs 3 _ rfl) rfl ?_
    refine z_iload_n d_Panel_addModule_48 1 rfl rfl ?_
    obtain ⟨hy8, hF⟩ := zh_if hF
    refine z_iast d_Panel_addModule_49 (hs 7 _ rfl) (zin_vp hy8) ?_
    obtain ⟨μy9, hy9, hF⟩ := zh_let hF
    refine z_eqm hy9 ?_
    refine z_aload_n d_Panel_addModule_50 0 rfl rfl ?_
    refine z_dup d_Panel_addModule_51 rfl ?_
    refine z_get d_Panel_addModule_52 f_Panel_27 (hs 3 _ rfl) rfl ?_
    refine z_iconst d_Panel_addModule_55 (v := 1) (by decide) ?_
    refine z_iadd d_Panel_addModule_56 ?_
    refine z_put d_Panel_addModule_57 f_Panel_27 (hs 3 _ rfl) rfl (CL_fin _ _ (fun q hq => by cases hq; rfl)) rfl rfl ?_
    obtain ⟨μy10, hy10, hF⟩ := zh_let hF
    refine z_eqm hy10 ?_
    exact z_Panel_addModule_60 hs  hF
def E_Panel_addModule (b : Nat) (x1 : Int32) (x2 : Int32) (μ : zI) (ν : zJ) : Option (zI × zJ) := e_Panel_addModule_0 b x1 x2 μ ν
theorem c_Panel_addModule {l : Launch} {D : va_G} {dA : Nat → ClassId} {ad : Nat → Nat} {sh : List zSE} {μ : zI} {ν : zJ} {b : Nat} {x1 : Int32} {x2 : Int32} (hs : zSt sh b) {out : (zI × zJ)} (hE : E_Panel_addModule b x1 x2 μ ν = some out) : zC l D dA ad sh m_Panel_addModule 0 0 0 [.ref (ad (b + 3)), .int x1, .int x2] μ ν (zOv out) :=
  zC.of (by decide) (Nat.le_of_ble_eq_true rfl) (z_Panel_addModule_0 hs hE)
def e_Reader_readModule_77   (x2 : Int32) (x3 : Int32) (μ : zI) (ν : zJ) : Option (zI × zJ) := some (μ, ν)
theorem z_Reader_readModule_77 {l : Launch} {D : va_G} {dA : Nat → ClassId} {ad : Nat → Nat} {sh : List zSE}  (hr : zRo sh)  {x2 : Int32} {x3 : Int32} {μ : zI} {ν : zJ} {out : (zI × zJ)} (hF : e_Reader_readModule_77   x2 x3 μ ν = some out) : Z l D dA ad sh m_Reader_readModule (zR 3 0 0) (zS ad) (zOv out) 0 0 0 0 [] 77 [(0, .ref (ad 3)), (1, .ref (ad 19)), (2, .int x2), (3, .int x3)] [] μ ν := by
  unfold e_Reader_readModule_77 at hF
  cases hF
  exact z_return d_Reader_readModule_77 rfl ⟨rfl, rfl, rfl⟩
def e_Reader_readModule_39    (μ : zI) (ν : zJ) : Option (zI × zJ) := Option.bind (E_Reader_nextToken μ ν) fun ty1 => Option.bind (E_Reader_readNumber 1 999 ty1.1 ty1.2) fun ty2 => zlet (α := Int32) ty2.1 fun y3 => Option.bind (E_Reader_readNumber 1 999 ty2.2.1 ty2.2.2) fun ty4 => zlet (α := Int32) ty4.1 fun y5 => (if (ty4.2.1 3 0) = 0 then Option.bind (E_Panel_addModule 19 y3 y5 ty4.2.1 ty4.2.2) fun ty7 => e_Reader_readModule_77 y3 y5 ty7.1 ty7.2 else e_Reader_readModule_77 y3 y5 ty4.2.1 ty4.2.2)
theorem z_Reader_readModule_39 {l : Launch} {D : va_G} {dA : Nat → ClassId} {ad : Nat → Nat} {sh : List zSE}  (hr : zRo sh)   {μ : zI} {ν : zJ} {out : (zI × zJ)} (hF : e_Reader_readModule_39    μ ν = some out) : Z l D dA ad sh m_Reader_readModule (zR 3 0 0) (zS ad) (zOv out) 0 0 0 0 [] 39 [(0, .ref (ad 3)), (1, .ref (ad 19))] [] μ ν := by
  unfold e_Reader_readModule_39 at hF
  refine z_aload_n d_Reader_readModule_39 0 rfl rfl ?_
  obtain ⟨ty1, hty1, hF⟩ := zh_bind hF
  refine z_callV d_Reader_readModule_40 (c_Reader_nextToken hr hty1) mv_Reader_nextToken l_Reader_36 (fun _ _ h => h) (hr 3 _ rfl) rfl rfl ⟨Nat.le_of_ble_eq_true rfl, Nat.le_of_ble_eq_true rfl⟩ ⟨Nat.le_of_ble_eq_true rfl, Nat.le_of_ble_eq_true rfl⟩ rfl (Nat.le_of_ble_eq_true rfl) (fun r μ' ν' hq => ?_)
  obtain ⟨rfl, rfl, rfl⟩ := hq
  show Z _ _ _ _ _ _ _ _ _ _ _ 0 0 _ _ _ [] _ _
  refine z_aload_n d_Reader_readModule_43 0 rfl rfl ?_
  refine z_iconst d_Reader_readModule_44 (v := 1) (by decide) ?_
  refine z_sipush d_Reader_readModule_45 (v := 999) (by decide) ?_
  obtain ⟨ty2, hty2, hF⟩ := zh_bind hF
  refine z_callV d_Reader_readModule_48 (c_Reader_readNumber hr hty2) mv_Reader_readNumber l_Reader_95 (fun _ _ h => h) (hr 3 _ rfl) rfl rfl ⟨Nat.le_of_ble_eq_true rfl, Nat.le_of_ble_eq_true rfl⟩ ⟨Nat.le_of_ble_eq_true rfl, Nat.le_of_ble_eq_true rfl⟩ rfl (Nat.le_of_ble_eq_true rfl) (fun r μ' ν' hq => ?_)
  obtain ⟨rfl, rfl, rfl⟩ := hq
  show Z _ _ _ _ _ _ _ _ _ _ _ 0 0 _ _ _ [.int ty2.1] _ _
  obtain ⟨y3, hy3, hF⟩ := zh_let hF
  refine z_eqi hy3 ?_
  refine z_istore_n d_Reader_readModule_51 rfl (by decide) (L2 := [(2, .int y3), (0, .ref (ad 3)), (1, .ref (ad 19))]) rfl ?_
  refine z_aload_n d_Reader_readModule_52 1 rfl rfl ?_
  refine z_iconst d_Reader_readModule_53 (v := 1) (by decide) ?_
  refine z_sipush d_Reader_readModule_54 (v := 999) (by decide) ?_
  obtain ⟨ty4, hty4, hF⟩ := zh_bind hF
  refine z_callV d_Reader_readModule_57 (c_Reader_readNumber hr hty4) mv_Reader_readNumber l_Reader_95 (fun _ _ h => h) (hr 3 _ rfl) rfl rfl ⟨Nat.le_of_ble_eq_true rfl, Nat.le_of_ble_eq_true rfl⟩ ⟨Nat.le_of_ble_eq_true rfl, Nat.le_of_ble_eq_true rfl⟩ rfl (Nat.le_of_ble_eq_true rfl) (fun r μ' ν' hq => ?_)
  obtain ⟨rfl, rfl, rfl⟩ := hq
  show Z _ _ _ _ _ _ _ _ _ _ _ 0 0 _ _ _ [.int ty4.1] _ _
  obtain ⟨y5, hy5, hF⟩ := zh_let hF
  refine z_eqi hy5 ?_
  refine z_istore_n d_Reader_readModule_60 rfl (by decide) (L2 := [(3, .int y5), (2, .int y3), (0, .ref (ad 3)), (1, .ref (ad 19))]) rfl ?_
  refine z_aload_n d_Reader_readModule_61 2 rfl rfl ?_
  refine z_get d_Reader_readModule_62 f_Reader_19 (hr 3 _ rfl) rfl ?_
  refine z_if_ne d_Reader_readModule_65 (tgt := 77) (by decide) (fun cy6 => ?_) (fun cy6 => ?_)
  · replace hF := zh_f cy6 hF
    refine z_sub [2, 3, 1, 0] (L' := [(0, .ref (ad 3)), (1, .ref (ad 19)), (2, .int y3), (3, .int y5)]) rfl ?_
    exact z_Reader_readModule_77 hr  hF
  · replace hF := zh_t cy6 hF
    refine z_aload_n d_Reader_readModule_68 3 rfl rfl ?_
    refine z_getr d_Reader_readModule_69 (q := (19 + 3)) f_Reader_88 ((zRo_19 hr) 0 _ rfl) rfl ?_
    refine z_iload_n d_Reader_readModule_72 1 rfl rfl ?_
    refine z_iload_n d_Reader_readModule_73 0 rfl rfl ?_
    obtain ⟨ty7, hty7, hF⟩ := zh_bind hF
    refine z_callV d_Reader_readModule_74 (c_Panel_addModule (zRo_19 hr) hty7) mv_Panel_addModule l_Reader_99 (fun _ _ h => h) ((zRo_19 hr) 3 _ rfl) rfl rfl ⟨Nat.le_of_ble_eq_true rfl, Nat.le_of_ble_eq_true rfl⟩ ⟨Nat.le_of_ble_eq_true rfl, Nat.le_of_ble_eq_true rfl⟩ rfl (Nat.le_of_ble_eq_true rfl) (fun r μ' ν' hq => ?_)
    obtain ⟨rfl, rfl, rfl⟩ := hq
    show Z _ _ _ _ _ _ _ _ _ _ _ 0 0 _ _ _ [] _ _
    refine z_sub [2, 3, 1, 0] (L' := [(0, .ref (ad 3)), (1, .ref (ad 19)), (2, .int y3), (3, .int y5)]) rfl ?_
    exact z_Reader_readModule_77 hr  hF
def e_Reader_readModule_22    (μ : zI) (ν : zJ) : Option (zI × zJ) := (if (μ (19 + 3) 0) < 6 then e_Reader_readModule_39 μ ν else Option.bind (E_Reader_refuse 2 μ ν) fun ty2 => e_Reader_readModule_39 ty2.1 ty2.2)
theorem z_Reader_readModule_22 {l : Launch} {D : va_G} {dA : Nat → ClassId} {ad : Nat → Nat} {sh : List zSE}  (hr : zRo sh)   {μ : zI} {ν : zJ} {out : (zI × zJ)} (hF : e_Reader_readModule_22    μ ν = some out) : Z l D dA ad sh m_Reader_readModule (zR 3 0 0) (zS ad) (zOv out) 0 0 0 0 [] 22 [(0, .ref (ad 3)), (1, .ref (ad 19))] [] μ ν := by
  unfold e_Reader_readModule_22 at hF
  refine z_aload_n d_Reader_readModule_22 1 rfl rfl ?_
  refine z_getr d_Reader_readModule_23 (q := (19 + 3)) f_Reader_88 ((zRo_19 hr) 0 _ rfl) rfl ?_
  refine z_get d_Reader_readModule_26 f_Reader_92 ((zRo_19 hr) 3 _ rfl) rfl ?_
  refine z_bipush d_Reader_readModule_29 (v := 6) (by decide) ?_
  refine z_icmp_lt d_Reader_readModule_31 (tgt := 39) (by decide) (fun cy1 => ?_) (fun cy1 => ?_)
  · replace hF := zh_t cy1 hF
    exact z_Reader_readModule_39 hr  hF
  · replace hF := zh_f cy1 hF
    refine z_aload_n d_Reader_readModule_34 0 rfl rfl ?_
    refine z_iconst d_Reader_readModule_35 (v := 2) (by decide) ?_
    obtain ⟨ty2, hty2, hF⟩ := zh_bind hF
    refine z_callV d_Reader_readModule_36 (c_Reader_refuse hr hty2) mv_Reader_refuse l_Reader_75 (fun _ _ h => h) (hr 3 _ rfl) rfl rfl ⟨Nat.le_of_ble_eq_true rfl, Nat.le_of_ble_eq_true rfl⟩ ⟨Nat.le_of_ble_eq_true rfl, Nat.le_of_ble_eq_true rfl⟩ rfl (Nat.le_of_ble_eq_true rfl) (fun r μ' ν' hq => ?_)
    obtain ⟨rfl, rfl, rfl⟩ := hq
    show Z _ _ _ _ _ _ _ _ _ _ _ 0 0 _ _ _ [] _ _
    exact z_Reader_readModule_39 hr  hF
def e_Reader_readModule_17    (μ : zI) (ν : zJ) : Option (zI × zJ) := Option.bind (E_Reader_refuse 1 μ ν) fun ty1 => e_Reader_readModule_22 ty1.1 ty1.2
theorem z_Reader_readModule_17 {l : Launch} {D : va_G} {dA : Nat → ClassId} {ad : Nat → Nat} {sh : List zSE}  (hr : zRo sh)   {μ : zI} {ν : zJ} {out : (zI × zJ)} (hF : e_Reader_readModule_17    μ ν = some out) : Z l D dA ad sh m_Reader_readModule (zR 3 0 0) (zS ad) (zOv out) 0 0 0 0 [] 17 [(0, .ref (ad 3)), (1, .ref (ad 19))] [] μ ν := by
  unfold e_Reader_readModule_17 at hF
  refine z_aload_n d_Reader_readModule_17 0 rfl rfl ?_
  refine z_iconst d_Reader_readModule_18 (v := 1) (by decide) ?_
  obtain ⟨ty1, hty1, hF⟩ := zh_bind hF
  refine z_callV d_Reader_readModule_19 (c_Reader_refuse hr hty1) mv_Reader_refuse l_Reader_75 (fun _ _ h => h) (hr 3 _ rfl) rfl rfl ⟨Nat.le_of_ble_eq_true rfl, Nat.le_of_ble_eq_true rfl⟩ ⟨Nat.le_of_ble_eq_true rfl, Nat.le_of_ble_eq_true rfl⟩ rfl (Nat.le_of_ble_eq_true rfl) (fun r μ' ν' hq => ?_)
  obtain ⟨rfl, rfl, rfl⟩ := hq
  show Z _ _ _ _ _ _ _ _ _ _ _ 0 0 _ _ _ [] _ _
  exact z_Reader_readModule_22 hr  hF
def e_Reader_readModule_0    (μ : zI) (ν : zJ) : Option (zI × zJ) := (if (μ 3 7) = 0 then (if (μ (19 + 9) 0) ≤ 0 then e_Reader_readModule_22 μ ν else e_Reader_readModule_17 μ ν) else e_Reader_readModule_17 μ ν)
theorem z_Reader_readModule_0 {l : Launch} {D : va_G} {dA : Nat → ClassId} {ad : Nat → Nat} {sh : List zSE}  (hr : zRo sh)   {μ : zI} {ν : zJ} {out : (zI × zJ)} (hF : e_Reader_readModule_0    μ ν = some out) : Z l D dA ad sh m_Reader_readModule (zR 3 0 0) (zS ad) (zOv out) 0 0 0 0 [] 0 [(0, .ref (ad 3)), (1, .ref (ad 19))] [] μ ν := by
  unfold e_Reader_readModule_0 at hF
  refine z_aload_n d_Reader_readModule_0 0 rfl rfl ?_
  refine z_get d_Reader_readModule_1 f_Reader_28 (hr 3 _ rfl) rfl ?_
  refine z_if_ne d_Reader_readModule_4 (tgt := 17) (by decide) (fun cy1 => ?_) (fun cy1 => ?_)
  · replace hF := zh_f cy1 hF
    exact z_Reader_readModule_17 hr  hF
  · replace hF := zh_t cy1 hF
    refine z_aload_n d_Reader_readModule_7 1 rfl rfl ?_
    refine z_getr d_Reader_readModule_8 (q := (19 + 9)) f_Reader_79 ((zRo_19 hr) 0 _ rfl) rfl ?_
    refine z_get d_Reader_readModule_11 f_Reader_83 ((zRo_19 hr) 9 _ rfl) rfl ?_
    refine z_if_le d_Reader_readModule_14 (tgt := 22) (by decide) (fun cy2 => ?_) (fun cy2 => ?_)
    · replace hF := zh_t cy2 hF
      exact z_Reader_readModule_22 hr  hF
    · replace hF := zh_f cy2 hF
      exact z_Reader_readModule_17 hr  hF
def E_Reader_readModule   (μ : zI) (ν : zJ) : Option (zI × zJ) := e_Reader_readModule_0 μ ν
theorem c_Reader_readModule {l : Launch} {D : va_G} {dA : Nat → ClassId} {ad : Nat → Nat} {sh : List zSE} {μ : zI} {ν : zJ} (hr : zRo sh) {out : (zI × zJ)} (hE : E_Reader_readModule  μ ν = some out) : zC l D dA ad sh m_Reader_readModule 3 0 0 [.ref (ad 3), .ref (ad 19)] μ ν (zOv out) :=
  zC.of (by decide) (Nat.le_of_ble_eq_true rfl) (z_Reader_readModule_0 hr hE)
def e_Told_mostOf_19   (x0 : Int32) (s0 : Int32) (μ : zI) (ν : zJ) : Option (Int32 × zI × zJ) := some (s0, μ, ν)
theorem z_Told_mostOf_19 {l : Launch} {D : va_G} {dA : Nat → ClassId} {ad : Nat → Nat} {sh : List zSE}    {x0 : Int32} {s0 : Int32} {μ : zI} {ν : zJ} {out : (Int32 × zI × zJ)} (hF : e_Told_mostOf_19   x0 s0 μ ν = some out) : Z l D dA ad sh m_Told_mostOf (zR 0 0 0) (zS ad) (zOi out) 0 0 0 0 [] 19 [(0, .int x0)] [.int s0] μ ν := by
  unfold e_Told_mostOf_19 at hF
  cases hF
  exact z_ireturn d_Told_mostOf_19 rfl rfl ⟨rfl, rfl, rfl⟩
def e_Told_mostOf_18   (x0 : Int32) (μ : zI) (ν : zJ) : Option (Int32 × zI × zJ) := e_Told_mostOf_19 x0 0 μ ν
theorem z_Told_mostOf_18 {l : Launch} {D : va_G} {dA : Nat → ClassId} {ad : Nat → Nat} {sh : List zSE}    {x0 : Int32} {μ : zI} {ν : zJ} {out : (Int32 × zI × zJ)} (hF : e_Told_mostOf_18   x0 μ ν = some out) : Z l D dA ad sh m_Told_mostOf (zR 0 0 0) (zS ad) (zOi out) 0 0 0 0 [] 18 [(0, .int x0)] [] μ ν := by
  unfold e_Told_mostOf_18 at hF
  refine z_iconst d_Told_mostOf_18 (v := 0) (by decide) ?_
  exact z_Told_mostOf_19   hF
def e_Told_mostOf_0   (x0 : Int32) (μ : zI) (ν : zJ) : Option (Int32 × zI × zJ) := (if x0 < 0 then e_Told_mostOf_18 x0 μ ν else (if 19 ≤ x0 then e_Told_mostOf_18 x0 μ ν else (if zin x0 19 = true then e_Told_mostOf_19 x0 (((zTabs.getD 2 ("", "", [])).2.2).getD (Int32.toNatClampNeg x0) 0) μ ν else none)))
theorem z_Told_mostOf_0 {l : Launch} {D : va_G} {dA : Nat → ClassId} {ad : Nat → Nat} {sh : List zSE}    {x0 : Int32} {μ : zI} {ν : zJ} {out : (Int32 × zI × zJ)} (hF : e_Told_mostOf_0   x0 μ ν = some out) : Z l D dA ad sh m_Told_mostOf (zR 0 0 0) (zS ad) (zOi out) 0 0 0 0 [] 0 [(0, .int x0)] [] μ ν := by
  unfold e_Told_mostOf_0 at hF
  refine z_iload_n d_Told_mostOf_0 0 rfl rfl ?_
  refine z_if_lt d_Told_mostOf_1 (tgt := 18) (by decide) (fun cy1 => ?_) (fun cy1 => ?_)
  · replace hF := zh_t cy1 hF
    exact z_Told_mostOf_18   hF
  · replace hF := zh_f cy1 hF
    refine z_iload_n d_Told_mostOf_4 0 rfl rfl ?_
    refine z_bipush d_Told_mostOf_5 (v := 19) (by decide) ?_
    refine z_icmp_ge d_Told_mostOf_7 (tgt := 18) (by decide) (fun cy2 => ?_) (fun cy2 => ?_)
    · replace hF := zh_t cy2 hF
      exact z_Told_mostOf_18   hF
    · replace hF := zh_f cy2 hF
      refine z_gets d_Told_mostOf_10 (fun _ _ h => h) (k := 2) rfl s_Told_16 ?_
      refine z_iload_n d_Told_mostOf_13 0 rfl rfl ?_
      obtain ⟨hy3, hF⟩ := zh_if hF
      refine z_tald d_Told_mostOf_14 (fun _ _ h => h) (k := 2) rfl (zin_vp hy3) ?_
      refine z_goto d_Told_mostOf_15 (tgt := 19) (by decide) ?_
      exact z_Told_mostOf_19   hF
def E_Told_mostOf  (x0 : Int32) (μ : zI) (ν : zJ) : Option (Int32 × zI × zJ) := e_Told_mostOf_0 x0 μ ν
theorem c_Told_mostOf {l : Launch} {D : va_G} {dA : Nat → ClassId} {ad : Nat → Nat} {sh : List zSE} {μ : zI} {ν : zJ} {x0 : Int32}  {out : (Int32 × zI × zJ)} (hE : E_Told_mostOf x0 μ ν = some out) : zC l D dA ad sh m_Told_mostOf 0 0 0 [.int x0] μ ν (zOi out) :=
  zC.of (by decide) (Nat.le_of_ble_eq_true rfl) (z_Told_mostOf_0  hE)
def e_Told_leastOf_19   (x0 : Int32) (s0 : Int32) (μ : zI) (ν : zJ) : Option (Int32 × zI × zJ) := some (s0, μ, ν)
theorem z_Told_leastOf_19 {l : Launch} {D : va_G} {dA : Nat → ClassId} {ad : Nat → Nat} {sh : List zSE}    {x0 : Int32} {s0 : Int32} {μ : zI} {ν : zJ} {out : (Int32 × zI × zJ)} (hF : e_Told_leastOf_19   x0 s0 μ ν = some out) : Z l D dA ad sh m_Told_leastOf (zR 0 0 0) (zS ad) (zOi out) 0 0 0 0 [] 19 [(0, .int x0)] [.int s0] μ ν := by
  unfold e_Told_leastOf_19 at hF
  cases hF
  exact z_ireturn d_Told_leastOf_19 rfl rfl ⟨rfl, rfl, rfl⟩
def e_Told_leastOf_18   (x0 : Int32) (μ : zI) (ν : zJ) : Option (Int32 × zI × zJ) := e_Told_leastOf_19 x0 0 μ ν
theorem z_Told_leastOf_18 {l : Launch} {D : va_G} {dA : Nat → ClassId} {ad : Nat → Nat} {sh : List zSE}    {x0 : Int32} {μ : zI} {ν : zJ} {out : (Int32 × zI × zJ)} (hF : e_Told_leastOf_18   x0 μ ν = some out) : Z l D dA ad sh m_Told_leastOf (zR 0 0 0) (zS ad) (zOi out) 0 0 0 0 [] 18 [(0, .int x0)] [] μ ν := by
  unfold e_Told_leastOf_18 at hF
  refine z_iconst d_Told_leastOf_18 (v := 0) (by decide) ?_
  exact z_Told_leastOf_19   hF
def e_Told_leastOf_0   (x0 : Int32) (μ : zI) (ν : zJ) : Option (Int32 × zI × zJ) := (if x0 < 0 then e_Told_leastOf_18 x0 μ ν else (if 19 ≤ x0 then e_Told_leastOf_18 x0 μ ν else (if zin x0 19 = true then e_Told_leastOf_19 x0 (((zTabs.getD 1 ("", "", [])).2.2).getD (Int32.toNatClampNeg x0) 0) μ ν else none)))
theorem z_Told_leastOf_0 {l : Launch} {D : va_G} {dA : Nat → ClassId} {ad : Nat → Nat} {sh : List zSE}    {x0 : Int32} {μ : zI} {ν : zJ} {out : (Int32 × zI × zJ)} (hF : e_Told_leastOf_0   x0 μ ν = some out) : Z l D dA ad sh m_Told_leastOf (zR 0 0 0) (zS ad) (zOi out) 0 0 0 0 [] 0 [(0, .int x0)] [] μ ν := by
  unfold e_Told_leastOf_0 at hF
  refine z_iload_n d_Told_leastOf_0 0 rfl rfl ?_
  refine z_if_lt d_Told_leastOf_1 (tgt := 18) (by decide) (fun cy1 => ?_) (fun cy1 => ?_)
  · replace hF := zh_t cy1 hF
    exact z_Told_leastOf_18   hF
  · replace hF := zh_f cy1 hF
    refine z_iload_n d_Told_leastOf_4 0 rfl rfl ?_
    refine z_bipush d_Told_leastOf_5 (v := 19) (by decide) ?_
    refine z_icmp_ge d_Told_leastOf_7 (tgt := 18) (by decide) (fun cy2 => ?_) (fun cy2 => ?_)
    · replace hF := zh_t cy2 hF
      exact z_Told_leastOf_18   hF
    · replace hF := zh_f cy2 hF
      refine z_gets d_Told_leastOf_10 (fun _ _ h => h) (k := 1) rfl s_Told_13 ?_
      refine z_iload_n d_Told_leastOf_13 0 rfl rfl ?_
      obtain ⟨hy3, hF⟩ := zh_if hF
      refine z_tald d_Told_leastOf_14 (fun _ _ h => h) (k := 1) rfl (zin_vp hy3) ?_
      refine z_goto d_Told_leastOf_15 (tgt := 19) (by decide) ?_
      exact z_Told_leastOf_19   hF
def E_Told_leastOf  (x0 : Int32) (μ : zI) (ν : zJ) : Option (Int32 × zI × zJ) := e_Told_leastOf_0 x0 μ ν
theorem c_Told_leastOf {l : Launch} {D : va_G} {dA : Nat → ClassId} {ad : Nat → Nat} {sh : List zSE} {μ : zI} {ν : zJ} {x0 : Int32}  {out : (Int32 × zI × zJ)} (hE : E_Told_leastOf x0 μ ν = some out) : zC l D dA ad sh m_Told_leastOf 0 0 0 [.int x0] μ ν (zOi out) :=
  zC.of (by decide) (Nat.le_of_ble_eq_true rfl) (z_Told_leastOf_0  hE)
def e_Told_put_17 (b : Nat)  (x1 : Int32) (x2 : Int32) (μ : zI) (ν : zJ) : Option (zI × zJ) := some (μ, ν)
theorem z_Told_put_17 {l : Launch} {D : va_G} {dA : Nat → ClassId} {ad : Nat → Nat} {sh : List zSE}  {b : Nat} (hs : zSt sh b)  {x1 : Int32} {x2 : Int32} {μ : zI} {ν : zJ} {out : (zI × zJ)} (hF : e_Told_put_17 b  x1 x2 μ ν = some out) : Z l D dA ad sh m_Told_put (zR 0 0 0) (zS ad) (zOv out) 0 0 0 0 [] 17 [(0, .ref (ad (b + 1))), (1, .int x1), (2, .int x2)] [] μ ν := by
  unfold e_Told_put_17 at hF
  cases hF
  exact z_return d_Told_put_17 rfl ⟨rfl, rfl, rfl⟩
def e_Told_put_0 (b : Nat)  (x1 : Int32) (x2 : Int32) (μ : zI) (ν : zJ) : Option (zI × zJ) := (if x1 < 0 then e_Told_put_17 b x1 x2 μ ν else (if 19 ≤ x1 then e_Told_put_17 b x1 x2 μ ν else (if zin x1 19 = true then zlet (zu μ (b + 2) (Int32.toNatClampNeg x1) x2) fun μy4 => e_Told_put_17 b x1 x2 μy4 ν else none)))
theorem z_Told_put_0 {l : Launch} {D : va_G} {dA : Nat → ClassId} {ad : Nat → Nat} {sh : List zSE}  {b : Nat} (hs : zSt sh b)  {x1 : Int32} {x2 : Int32} {μ : zI} {ν : zJ} {out : (zI × zJ)} (hF : e_Told_put_0 b  x1 x2 μ ν = some out) : Z l D dA ad sh m_Told_put (zR 0 0 0) (zS ad) (zOv out) 0 0 0 0 [] 0 [(0, .ref (ad (b + 1))), (1, .int x1), (2, .int x2)] [] μ ν := by
  unfold e_Told_put_0 at hF
  refine z_iload_n d_Told_put_0 1 rfl rfl ?_
  refine z_if_lt d_Told_put_1 (tgt := 17) (by decide) (fun cy1 => ?_) (fun cy1 => ?_)
  · replace hF := zh_t cy1 hF
    exact z_Told_put_17 hs  hF
  · replace hF := zh_f cy1 hF
    refine z_iload_n d_Told_put_4 1 rfl rfl ?_
    refine z_bipush d_Told_put_5 (v := 19) (by decide) ?_
    refine z_icmp_ge d_Told_put_7 (tgt := 17) (by decide) (fun cy2 => ?_) (fun cy2 => ?_)
    · replace hF := zh_t cy2 hF
      exact z_Told_put_17 hs  hF
    · replace hF := zh_f cy2 hF
      refine z_aload_n d_Told_put_10 0 rfl rfl ?_
      refine z_getr d_Told_put_11 (q := (b + 2)) f_Told_9 (hs 1 _ rfl) rfl ?_
      refine z_iload_n d_Told_put_14 1 rfl rfl ?_
      refine z_iload_n d_Told_put_15 2 rfl rfl ?_
      obtain ⟨hy3, hF⟩ := zh_if hF
      refine z_iast d_Told_put_16 (hs 2 _ rfl) (zin_vp hy3) ?_
      obtain ⟨μy4, hy4, hF⟩ := zh_let hF
      refine z_eqm hy4 ?_
      exact z_Told_put_17 hs  hF
def E_Told_put (b : Nat) (x1 : Int32) (x2 : Int32) (μ : zI) (ν : zJ) : Option (zI × zJ) := e_Told_put_0 b x1 x2 μ ν
theorem c_Told_put {l : Launch} {D : va_G} {dA : Nat → ClassId} {ad : Nat → Nat} {sh : List zSE} {μ : zI} {ν : zJ} {b : Nat} {x1 : Int32} {x2 : Int32} (hs : zSt sh b) {out : (zI × zJ)} (hE : E_Told_put b x1 x2 μ ν = some out) : zC l D dA ad sh m_Told_put 0 0 0 [.ref (ad (b + 1)), .int x1, .int x2] μ ν (zOv out) :=
  zC.of (by decide) (Nat.le_of_ble_eq_true rfl) (z_Told_put_0 hs hE)
def e_Schedule_add_78 (b : Nat)  (x1 : Int32) (x2 : Int32) (x3 : Int32) (x4 : Int32) (x5 : Int32) (x6 : Int32) (μ : zI) (ν : zJ) : Option (zI × zJ) := (if zin ((x5 * 4) + 0) 96 = true then zlet (zu μ (b + 10) (Int32.toNatClampNeg ((x5 * 4) + 0)) x1) fun μy2 => (if zin ((x5 * 4) + 1) 96 = true then zlet (zu μy2 (b + 10) (Int32.toNatClampNeg ((x5 * 4) + 1)) x2) fun μy4 => (if zin ((x5 * 4) + 2) 96 = true then zlet (zu μy4 (b + 10) (Int32.toNatClampNeg ((x5 * 4) + 2)) x3) fun μy6 => (if zin ((x5 * 4) + 3) 96 = true then zlet (zu μy6 (b + 10) (Int32.toNatClampNeg ((x5 * 4) + 3)) x4) fun μy8 => zlet (zu μy8 (b + 9) 0 ((μy8 (b + 9) 0) + 1)) fun μy9 => some (μy9, ν) else none) else none) else none) else none)
theorem z_Schedule_add_78 {l : Launch} {D : va_G} {dA : Nat → ClassId} {ad : Nat → Nat} {sh : List zSE}  {b : Nat} (hs : zSt sh b)  {x1 : Int32} {x2 : Int32} {x3 : Int32} {x4 : Int32} {x5 : Int32} {x6 : Int32} {μ : zI} {ν : zJ} {out : (zI × zJ)} (hF : e_Schedule_add_78 b  x1 x2 x3 x4 x5 x6 μ ν = some out) : Z l D dA ad sh m_Schedule_add (zR 1 0 0) (zS ad) (zOv out) 0 0 0 0 [] 78 [(0, .ref (ad (b + 9))), (1, .int x1), (2, .int x2), (3, .int x3), (4, .int x4), (5, .int x5), (6, .int x6)] [] μ ν := by
  unfold e_Schedule_add_78 at hF
  refine z_aload_n d_Schedule_add_78 0 rfl rfl ?_
  refine z_getr d_Schedule_add_79 (q := (b + 10)) f_Schedule_11 (hs 9 _ rfl) rfl ?_
  refine z_iload d_Schedule_add_82 5 rfl ?_
  refine z_iconst d_Schedule_add_84 (v := 4) (by decide) ?_
  refine z_imul d_Schedule_add_85 ?_
  refine z_iconst d_Schedule_add_86 (v := 0) (by decide) ?_
  refine z_iadd d_Schedule_add_87 ?_
  refine z_iload_n d_Schedule_add_88 1 rfl rfl ?_
  obtain ⟨hy1, hF⟩ := zh_if hF
  refine z_iast d_Schedule_add_89 (hs 10 _ rfl) (zin_vp hy1) ?_
  obtain ⟨μy2, hy2, hF⟩ := zh_let hF
  refine z_eqm hy2 ?_
  refine z_aload_n d_Schedule_add_90 0 rfl rfl ?_
  refine z_getr d_Schedule_add_91 (q := (b + 10)) f_Schedule_11 (hs 9 _ rfl) rfl ?_
  refine z_iload d_Schedule_add_94 5 rfl ?_
  refine z_iconst d_Schedule_add_96 (v := 4) (by decide) ?_
  refine z_imul d_Schedule_add_97 ?_
  refine z_iconst d_Schedule_add_98 (v := 1) (by decide) ?_
  refine z_iadd d_Schedule_add_99 ?_
  refine z_iload_n d_Schedule_add_100 2 rfl rfl ?_
  obtain ⟨hy3, hF⟩ := zh_if hF
  refine z_iast d_Schedule_add_101 (hs 10 _ rfl) (zin_vp hy3) ?_
  obtain ⟨μy4, hy4, hF⟩ := zh_let hF
  refine z_eqm hy4 ?_
  refine z_aload_n d_Schedule_add_102 0 rfl rfl ?_
  refine z_getr d_Schedule_add_103 (q := (b + 10)) f_Schedule_11 (hs 9 _ rfl) rfl ?_
  refine z_iload d_Schedule_add_106 5 rfl ?_
  refine z_iconst d_Schedule_add_108 (v := 4) (by decide) ?_
  refine z_imul d_Schedule_add_109 ?_
  refine z_iconst d_Schedule_add_110 (v := 2) (by decide) ?_
  refine z_iadd d_Schedule_add_111 ?_
  refine z_iload_n d_Schedule_add_112 3 rfl rfl ?_
  obtain ⟨hy5, hF⟩ := zh_if hF
  refine z_iast d_Schedule_add_113 (hs 10 _ rfl) (zin_vp hy5) ?_
  obtain ⟨μy6, hy6, hF⟩ := zh_let hF
  refine z_eqm hy6 ?_
  refine z_aload_n d_Schedule_add_114 0 rfl rfl ?_
  refine z_getr d_Schedule_add_115 (q := (b + 10)) f_Schedule_11 (hs 9 _ rfl) rfl ?_
  refine z_iload d_Schedule_add_118 5 rfl ?_
  refine z_iconst d_Schedule_add_120 (v := 4) (by decide) ?_
  refine z_imul d_Schedule_add_121 ?_
  refine z_iconst d_Schedule_add_122 (v := 3) (by decide) ?_
  refine z_iadd d_Schedule_add_123 ?_
  refine z_iload d_Schedule_add_124 4 rfl ?_
  obtain ⟨hy7, hF⟩ := zh_if hF
  refine z_iast d_Schedule_add_126 (hs 10 _ rfl) (zin_vp hy7) ?_
  obtain ⟨μy8, hy8, hF⟩ := zh_let hF
  refine z_eqm hy8 ?_
  refine z_aload_n d_Schedule_add_127 0 rfl rfl ?_
  refine z_dup d_Schedule_add_128 rfl ?_
  refine z_get d_Schedule_add_129 f_Schedule_15 (hs 9 _ rfl) rfl ?_
  refine z_iconst d_Schedule_add_132 (v := 1) (by decide) ?_
  refine z_iadd d_Schedule_add_133 ?_
  refine z_put d_Schedule_add_134 f_Schedule_15 (hs 9 _ rfl) rfl (CL_fin _ _ (fun q hq => by cases hq; rfl)) rfl rfl ?_
  obtain ⟨μy9, hy9, hF⟩ := zh_let hF
  refine z_eqm hy9 ?_
  cases hF
  exact z_return d_Schedule_add_137 rfl ⟨rfl, rfl, rfl⟩
def f_Schedule_add_22 (b : Nat)  : Nat → Int32 → Int32 → Int32 → Int32 → Int32 → Int32 → zI → zJ → Option (zI × zJ)
  | 0, _, _, _, _, _, _, _, _ => none
  | n + 1, x1, x2, x3, x4, x5, x6, μ, ν => (if x6 ≤ 0 then e_Schedule_add_78 b x1 x2 x3 x4 x5 x6 μ ν else (if zin (((x6 - 1) * 4) + 0) 96 = true then (if (μ (b + 10) (Int32.toNatClampNeg (((x6 - 1) * 4) + 0))) ≤ x1 then e_Schedule_add_78 b x1 x2 x3 x4 x5 x6 μ ν else (if zcp ((x6 - 1) * 4) 4 96 = true then (if zcp (x6 * 4) 4 96 = true then zlet (zr μ (b + 10) (va_cpy (μ (b + 10)) (μ (b + 10)) (Int32.toNatClampNeg ((x6 - 1) * 4)) (Int32.toNatClampNeg (x6 * 4)) 4)) fun μy6 => zlet (α := Int32) (x6 - 1) fun y7 => (f_Schedule_add_22 b n) x1 x2 x3 x4 y7 (x6 + (-1)) μy6 ν else none) else none)) else none))
theorem z_Schedule_add_22 {l : Launch} {D : va_G} {dA : Nat → ClassId} {ad : Nat → Nat} {sh : List zSE}  {b : Nat} (hs : zSt sh b)  {out : (zI × zJ)} : ∀ (n : Nat) (x1 : Int32) (x2 : Int32) (x3 : Int32) (x4 : Int32) (x5 : Int32) (x6 : Int32) (μ : zI) (ν : zJ), f_Schedule_add_22 b  n x1 x2 x3 x4 x5 x6 μ ν = some out → Z l D dA ad sh m_Schedule_add (zR 1 0 0) (zS ad) (zOv out) 0 0 0 0 [] 22 [(0, .ref (ad (b + 9))), (1, .int x1), (2, .int x2), (3, .int x3), (4, .int x4), (5, .int x5), (6, .int x6)] [] μ ν := by
  intro n
  induction n with
  | zero => intro x1 x2 x3 x4 x5 x6 μ ν hF; cases hF
  | succ n ih =>
    intro x1 x2 x3 x4 x5 x6 μ ν hF
    dsimp only [f_Schedule_add_22] at hF
    refine z_iload d_Schedule_add_22 6 rfl ?_
    refine z_if_le d_Schedule_add_24 (tgt := 78) (by decide) (fun cy1 => ?_) (fun cy1 => ?_)
    · replace hF := zh_t cy1 hF
      exact z_Schedule_add_78 hs  hF
    · replace hF := zh_f cy1 hF
      refine z_aload_n d_Schedule_add_27 0 rfl rfl ?_
      refine z_getr d_Schedule_add_28 (q := (b + 10)) f_Schedule_11 (hs 9 _ rfl) rfl ?_
      refine z_iload d_Schedule_add_31 6 rfl ?_
      refine z_iconst d_Schedule_add_33 (v := 1) (by decide) ?_
      refine z_isub d_Schedule_add_34 ?_
      refine z_iconst d_Schedule_add_35 (v := 4) (by decide) ?_
      refine z_imul d_Schedule_add_36 ?_
      refine z_iconst d_Schedule_add_37 (v := 0) (by decide) ?_
      refine z_iadd d_Schedule_add_38 ?_
      obtain ⟨hy2, hF⟩ := zh_if hF
      refine z_iald d_Schedule_add_39 (hs 10 _ rfl) (zin_vp hy2) ?_
      refine z_iload_n d_Schedule_add_40 1 rfl rfl ?_
      refine z_icmp_le d_Schedule_add_41 (tgt := 78) (by decide) (fun cy3 => ?_) (fun cy3 => ?_)
      · replace hF := zh_t cy3 hF
        exact z_Schedule_add_78 hs  hF
      · replace hF := zh_f cy3 hF
        refine z_aload_n d_Schedule_add_44 0 rfl rfl ?_
        refine z_getr d_Schedule_add_45 (q := (b + 10)) f_Schedule_11 (hs 9 _ rfl) rfl ?_
        refine z_iload d_Schedule_add_48 6 rfl ?_
        refine z_iconst d_Schedule_add_50 (v := 1) (by decide) ?_
        refine z_isub d_Schedule_add_51 ?_
        refine z_iconst d_Schedule_add_52 (v := 4) (by decide) ?_
        refine z_imul d_Schedule_add_53 ?_
        refine z_aload_n d_Schedule_add_54 0 rfl rfl ?_
        refine z_getr d_Schedule_add_55 (q := (b + 10)) f_Schedule_11 (hs 9 _ rfl) rfl ?_
        refine z_iload d_Schedule_add_58 6 rfl ?_
        refine z_iconst d_Schedule_add_60 (v := 4) (by decide) ?_
        refine z_imul d_Schedule_add_61 ?_
        refine z_iconst d_Schedule_add_62 (v := 4) (by decide) ?_
        obtain ⟨hy4, hF⟩ := zh_if hF
        obtain ⟨hy5, hF⟩ := zh_if hF
        refine z_copy d_Schedule_add_63 l_Schedule_22 cp_ok (hs 10 _ rfl) (hs 10 _ rfl) (zcp_a hy4) (zcp_a hy5) (zcp_b hy4) (zcp_c hy4) (zcp_c hy5) ⟨Nat.le_of_ble_eq_true rfl, Nat.le_of_ble_eq_true rfl⟩ ?_
        obtain ⟨μy6, hy6, hF⟩ := zh_let hF
        refine z_eqm hy6 ?_
        refine z_iload d_Schedule_add_66 6 rfl ?_
        refine z_iconst d_Schedule_add_68 (v := 1) (by decide) ?_
        refine z_isub d_Schedule_add_69 ?_
        obtain ⟨y7, hy7, hF⟩ := zh_let hF
        refine z_eqi hy7 ?_
        refine z_istore d_Schedule_add_70 (by decide) (L2 := [(5, .int y7), (0, .ref (ad (b + 9))), (1, .int x1), (2, .int x2), (3, .int x3), (4, .int x4), (6, .int x6)]) rfl ?_
        refine z_iinc d_Schedule_add_72 (k := 6) (v := (x6 + (-1))) rfl rfl (by decide) (L2 := [(6, .int (x6 + (-1))), (5, .int y7), (0, .ref (ad (b + 9))), (1, .int x1), (2, .int x2), (3, .int x3), (4, .int x4)]) rfl ?_
        refine z_goto d_Schedule_add_75 (tgt := 22) (by decide) ?_
        refine z_sub [2, 3, 4, 5, 6, 1, 0] (L' := [(0, .ref (ad (b + 9))), (1, .int x1), (2, .int x2), (3, .int x3), (4, .int x4), (5, .int y7), (6, .int (x6 + (-1)))]) rfl ?_
        exact ih _ _ _ _ _ _ _ _ hF
def e_Schedule_add_0 (b : Nat)  (x1 : Int32) (x2 : Int32) (x3 : Int32) (x4 : Int32) (μ : zI) (ν : zJ) : Option (zI × zJ) := (if (μ (b + 9) 0) < 24 then zlet (α := Int32) (μ (b + 9) 0) fun y2 => zlet (α := Int32) (μ (b + 9) 0) fun y3 => f_Schedule_add_22 b zFuel x1 x2 x3 x4 y2 y3 μ ν else some (μ, ν))
theorem z_Schedule_add_0 {l : Launch} {D : va_G} {dA : Nat → ClassId} {ad : Nat → Nat} {sh : List zSE}  {b : Nat} (hs : zSt sh b)  {x1 : Int32} {x2 : Int32} {x3 : Int32} {x4 : Int32} {μ : zI} {ν : zJ} {out : (zI × zJ)} (hF : e_Schedule_add_0 b  x1 x2 x3 x4 μ ν = some out) : Z l D dA ad sh m_Schedule_add (zR 1 0 0) (zS ad) (zOv out) 0 0 0 0 [] 0 [(0, .ref (ad (b + 9))), (1, .int x1), (2, .int x2), (3, .int x3), (4, .int x4)] [] μ ν := by
  unfold e_Schedule_add_0 at hF
  refine z_aload_n d_Schedule_add_0 0 rfl rfl ?_
  refine z_get d_Schedule_add_1 f_Schedule_15 (hs 9 _ rfl) rfl ?_
  refine z_bipush d_Schedule_add_4 (v := 24) (by decide) ?_
  refine z_icmp_lt d_Schedule_add_6 (tgt := 10) (by decide) (fun cy1 => ?_) (fun cy1 => ?_)
  · replace hF := zh_t cy1 hF
    refine z_aload_n d_Schedule_add_10 0 rfl rfl ?_
    refine z_get d_Schedule_add_11 f_Schedule_15 (hs 9 _ rfl) rfl ?_
    obtain ⟨y2, hy2, hF⟩ := zh_let hF
    refine z_eqi hy2 ?_
    refine z_istore d_Schedule_add_14 (by decide) (L2 := [(5, .int y2), (0, .ref (ad (b + 9))), (1, .int x1), (2, .int x2), (3, .int x3), (4, .int x4)]) rfl ?_
    refine z_aload_n d_Schedule_add_16 1 rfl rfl ?_
    refine z_get d_Schedule_add_17 f_Schedule_15 (hs 9 _ rfl) rfl ?_
    obtain ⟨y3, hy3, hF⟩ := zh_let hF
    refine z_eqi hy3 ?_
    refine z_istore d_Schedule_add_20 (by decide) (L2 := [(6, .int y3), (5, .int y2), (0, .ref (ad (b + 9))), (1, .int x1), (2, .int x2), (3, .int x3), (4, .int x4)]) rfl ?_
    refine z_sub [2, 3, 4, 5, 6, 1, 0] (L' := [(0, .ref (ad (b + 9))), (1, .int x1), (2, .int x2), (3, .int x3), (4, .int x4), (5, .int y2), (6, .int y3)]) rfl ?_
    exact z_Schedule_add_22 hs  zFuel _ _ _ _ _ _ _ _ hF
  · replace hF := zh_f cy1 hF
    cases hF
    exact z_return d_Schedule_add_9 rfl ⟨rfl, rfl, rfl⟩
def E_Schedule_add (b : Nat) (x1 : Int32) (x2 : Int32) (x3 : Int32) (x4 : Int32) (μ : zI) (ν : zJ) : Option (zI × zJ) := e_Schedule_add_0 b x1 x2 x3 x4 μ ν
theorem c_Schedule_add {l : Launch} {D : va_G} {dA : Nat → ClassId} {ad : Nat → Nat} {sh : List zSE} {μ : zI} {ν : zJ} {b : Nat} {x1 : Int32} {x2 : Int32} {x3 : Int32} {x4 : Int32} (hs : zSt sh b) {out : (zI × zJ)} (hE : E_Schedule_add b x1 x2 x3 x4 μ ν = some out) : zC l D dA ad sh m_Schedule_add 1 0 0 [.ref (ad (b + 9)), .int x1, .int x2, .int x3, .int x4] μ ν (zOv out) :=
  zC.of (by decide) (Nat.le_of_ble_eq_true rfl) (z_Schedule_add_0 hs hE)
def e_Reader_addComing_20   (x2 : Int32) (x3 : Int32) (x4 : Int32) (x5 : Int32) (μ : zI) (ν : zJ) : Option (zI × zJ) := some (μ, ν)
theorem z_Reader_addComing_20 {l : Launch} {D : va_G} {dA : Nat → ClassId} {ad : Nat → Nat} {sh : List zSE}  (hr : zRo sh)  {x2 : Int32} {x3 : Int32} {x4 : Int32} {x5 : Int32} {μ : zI} {ν : zJ} {out : (zI × zJ)} (hF : e_Reader_addComing_20   x2 x3 x4 x5 μ ν = some out) : Z l D dA ad sh m_Reader_addComing (zR 2 0 0) (zS ad) (zOv out) 0 0 0 0 [] 20 [(0, .ref (ad 3)), (1, .ref (ad 19)), (2, .int x2), (3, .int x3), (4, .int x4), (5, .int x5)] [] μ ν := by
  unfold e_Reader_addComing_20 at hF
  cases hF
  exact z_return d_Reader_addComing_20 rfl ⟨rfl, rfl, rfl⟩
def e_Reader_addComing_0   (x2 : Int32) (x3 : Int32) (x4 : Int32) (x5 : Int32) (μ : zI) (ν : zJ) : Option (zI × zJ) := (if (μ 3 0) = 0 then Option.bind (E_Schedule_add 19 x2 x3 x4 x5 μ ν) fun ty2 => e_Reader_addComing_20 x2 x3 x4 x5 ty2.1 ty2.2 else e_Reader_addComing_20 x2 x3 x4 x5 μ ν)
theorem z_Reader_addComing_0 {l : Launch} {D : va_G} {dA : Nat → ClassId} {ad : Nat → Nat} {sh : List zSE}  (hr : zRo sh)  {x2 : Int32} {x3 : Int32} {x4 : Int32} {x5 : Int32} {μ : zI} {ν : zJ} {out : (zI × zJ)} (hF : e_Reader_addComing_0   x2 x3 x4 x5 μ ν = some out) : Z l D dA ad sh m_Reader_addComing (zR 2 0 0) (zS ad) (zOv out) 0 0 0 0 [] 0 [(0, .ref (ad 3)), (1, .ref (ad 19)), (2, .int x2), (3, .int x3), (4, .int x4), (5, .int x5)] [] μ ν := by
  unfold e_Reader_addComing_0 at hF
  refine z_aload_n d_Reader_addComing_0 0 rfl rfl ?_
  refine z_get d_Reader_addComing_1 f_Reader_19 (hr 3 _ rfl) rfl ?_
  refine z_if_ne d_Reader_addComing_4 (tgt := 20) (by decide) (fun cy1 => ?_) (fun cy1 => ?_)
  · replace hF := zh_f cy1 hF
    exact z_Reader_addComing_20 hr  hF
  · replace hF := zh_t cy1 hF
    refine z_aload_n d_Reader_addComing_7 1 rfl rfl ?_
    refine z_getr d_Reader_addComing_8 (q := (19 + 9)) f_Reader_79 ((zRo_19 hr) 0 _ rfl) rfl ?_
    refine z_iload_n d_Reader_addComing_11 2 rfl rfl ?_
    refine z_iload_n d_Reader_addComing_12 3 rfl rfl ?_
    refine z_iload d_Reader_addComing_13 4 rfl ?_
    refine z_iload d_Reader_addComing_15 5 rfl ?_
    obtain ⟨ty2, hty2, hF⟩ := zh_bind hF
    refine z_callV d_Reader_addComing_17 (c_Schedule_add (zRo_19 hr) hty2) mv_Schedule_add l_Reader_145 (fun _ _ h => h) ((zRo_19 hr) 9 _ rfl) rfl rfl ⟨Nat.le_of_ble_eq_true rfl, Nat.le_of_ble_eq_true rfl⟩ ⟨Nat.le_of_ble_eq_true rfl, Nat.le_of_ble_eq_true rfl⟩ rfl (Nat.le_of_ble_eq_true rfl) (fun r μ' ν' hq => ?_)
    obtain ⟨rfl, rfl, rfl⟩ := hq
    show Z _ _ _ _ _ _ _ _ _ _ _ 0 0 _ _ _ [] _ _
    exact z_Reader_addComing_20 hr  hF
def E_Reader_addComing  (x2 : Int32) (x3 : Int32) (x4 : Int32) (x5 : Int32) (μ : zI) (ν : zJ) : Option (zI × zJ) := e_Reader_addComing_0 x2 x3 x4 x5 μ ν
theorem c_Reader_addComing {l : Launch} {D : va_G} {dA : Nat → ClassId} {ad : Nat → Nat} {sh : List zSE} {μ : zI} {ν : zJ} {x2 : Int32} {x3 : Int32} {x4 : Int32} {x5 : Int32} (hr : zRo sh) {out : (zI × zJ)} (hE : E_Reader_addComing x2 x3 x4 x5 μ ν = some out) : zC l D dA ad sh m_Reader_addComing 2 0 0 [.ref (ad 3), .ref (ad 19), .int x2, .int x3, .int x4, .int x5] μ ν (zOv out) :=
  zC.of (by decide) (Nat.le_of_ble_eq_true rfl) (z_Reader_addComing_0 hr hE)
def e_Told_copyFrom_0 (b : Nat) (b2 : Nat)   (μ : zI) (ν : zJ) : Option (zI × zJ) := (if zcp 0 19 19 = true then (if zcp 0 19 19 = true then zlet (zr μ (b + 2) (va_cpy (μ (b2 + 2)) (μ (b + 2)) 0 0 19)) fun μy3 => some (μy3, ν) else none) else none)
theorem z_Told_copyFrom_0 {l : Launch} {D : va_G} {dA : Nat → ClassId} {ad : Nat → Nat} {sh : List zSE}  {b : Nat} {b2 : Nat} (hs : zSt sh b) (hs2 : zSt sh b2)   {μ : zI} {ν : zJ} {out : (zI × zJ)} (hF : e_Told_copyFrom_0 b b2   μ ν = some out) : Z l D dA ad sh m_Told_copyFrom (zR 1 0 0) (zS ad) (zOv out) 0 0 0 0 [] 0 [(0, .ref (ad (b + 1))), (1, .ref (ad (b2 + 1)))] [] μ ν := by
  unfold e_Told_copyFrom_0 at hF
  refine z_aload_n d_Told_copyFrom_0 1 rfl rfl ?_
  refine z_getr d_Told_copyFrom_1 (q := (b2 + 2)) f_Told_9 (hs2 1 _ rfl) rfl ?_
  refine z_iconst d_Told_copyFrom_4 (v := 0) (by decide) ?_
  refine z_aload_n d_Told_copyFrom_5 0 rfl rfl ?_
  refine z_getr d_Told_copyFrom_6 (q := (b + 2)) f_Told_9 (hs 1 _ rfl) rfl ?_
  refine z_iconst d_Told_copyFrom_9 (v := 0) (by decide) ?_
  refine z_bipush d_Told_copyFrom_10 (v := 19) (by decide) ?_
  obtain ⟨hy1, hF⟩ := zh_if hF
  obtain ⟨hy2, hF⟩ := zh_if hF
  refine z_copy d_Told_copyFrom_12 l_Told_22 cp_ok (hs2 2 _ rfl) (hs 2 _ rfl) (zcp_a hy1) (zcp_a hy2) (zcp_b hy1) (zcp_c hy1) (zcp_c hy2) ⟨Nat.le_of_ble_eq_true rfl, Nat.le_of_ble_eq_true rfl⟩ ?_
  obtain ⟨μy3, hy3, hF⟩ := zh_let hF
  refine z_eqm hy3 ?_
  cases hF
  exact z_return d_Told_copyFrom_15 rfl ⟨rfl, rfl, rfl⟩
def E_Told_copyFrom (b : Nat) (b2 : Nat)  (μ : zI) (ν : zJ) : Option (zI × zJ) := e_Told_copyFrom_0 b b2 μ ν
theorem c_Told_copyFrom {l : Launch} {D : va_G} {dA : Nat → ClassId} {ad : Nat → Nat} {sh : List zSE} {μ : zI} {ν : zJ} {b : Nat} {b2 : Nat} (hs : zSt sh b) (hs2 : zSt sh b2) {out : (zI × zJ)} (hE : E_Told_copyFrom b b2 μ ν = some out) : zC l D dA ad sh m_Told_copyFrom 1 0 0 [.ref (ad (b + 1)), .ref (ad (b2 + 1))] μ ν (zOv out) :=
  zC.of (by decide) (Nat.le_of_ble_eq_true rfl) (z_Told_copyFrom_0 hs hs2 hE)
def e_Panel_copyFrom_0 (b : Nat) (b2 : Nat)   (μ : zI) (ν : zJ) : Option (zI × zJ) := zlet (zu μ (b + 3) 0 (μ (b2 + 3) 0)) fun μy1 => zlet (zu μy1 (b + 3) 1 (μy1 (b2 + 3) 1)) fun μy2 => zlet (zu μy2 (b + 3) 2 (μy2 (b2 + 3) 2)) fun μy3 => (if zcp 0 6 6 = true then (if zcp 0 6 6 = true then zlet (zr μy3 (b + 4) (va_cpy (μy3 (b2 + 4)) (μy3 (b + 4)) 0 0 6)) fun μy6 => (if zcp 0 6 6 = true then (if zcp 0 6 6 = true then zlet (zr μy6 (b + 5) (va_cpy (μy6 (b2 + 5)) (μy6 (b + 5)) 0 0 6)) fun μy9 => (if zcp 0 6 6 = true then (if zcp 0 6 6 = true then zlet (zr μy9 (b + 6) (va_cpy (μy9 (b2 + 6)) (μy9 (b + 6)) 0 0 6)) fun μy12 => (if zcp 0 6 6 = true then (if zcp 0 6 6 = true then zlet (zr μy12 (b + 7) (va_cpy (μy12 (b2 + 7)) (μy12 (b + 7)) 0 0 6)) fun μy15 => (if zcp 0 1000 1000 = true then (if zcp 0 1000 1000 = true then zlet (zr μy15 (b + 8) (va_cpy (μy15 (b2 + 8)) (μy15 (b + 8)) 0 0 1000)) fun μy18 => some (μy18, ν) else none) else none) else none) else none) else none) else none) else none) else none) else none) else none)
theorem z_Panel_copyFrom_0 {l : Launch} {D : va_G} {dA : Nat → ClassId} {ad : Nat → Nat} {sh : List zSE}  {b : Nat} {b2 : Nat} (hs : zSt sh b) (hs2 : zSt sh b2)   {μ : zI} {ν : zJ} {out : (zI × zJ)} (hF : e_Panel_copyFrom_0 b b2   μ ν = some out) : Z l D dA ad sh m_Panel_copyFrom (zR 1 0 0) (zS ad) (zOv out) 0 0 0 0 [] 0 [(0, .ref (ad (b + 3))), (1, .ref (ad (b2 + 3)))] [] μ ν := by
  unfold e_Panel_copyFrom_0 at hF
  refine z_aload_n d_Panel_copyFrom_0 0 rfl rfl ?_
  refine z_aload_n d_Panel_copyFrom_1 1 rfl rfl ?_
  refine z_get d_Panel_copyFrom_2 f_Panel_27 (hs2 3 _ rfl) rfl ?_
  refine z_put d_Panel_copyFrom_5 f_Panel_27 (hs 3 _ rfl) rfl (CL_fin _ _ (fun q hq => by cases hq; rfl)) rfl rfl ?_
  obtain ⟨μy1, hy1, hF⟩ := zh_let hF
  refine z_eqm hy1 ?_
  refine z_aload_n d_Panel_copyFrom_8 0 rfl rfl ?_
  refine z_aload_n d_Panel_copyFrom_9 1 rfl rfl ?_
  refine z_get d_Panel_copyFrom_10 f_Panel_31 (hs2 3 _ rfl) rfl ?_
  refine z_put d_Panel_copyFrom_13 f_Panel_31 (hs 3 _ rfl) rfl (CL_fin _ _ (fun q hq => by cases hq; rfl)) rfl rfl ?_
  obtain ⟨μy2, hy2, hF⟩ := zh_let hF
  refine z_eqm hy2 ?_
  refine z_aload_n d_Panel_copyFrom_16 0 rfl rfl ?_
  refine z_aload_n d_Panel_copyFrom_17 1 rfl rfl ?_
  refine z_get d_Panel_copyFrom_18 f_Panel_34 (hs2 3 _ rfl) rfl ?_
  refine z_put d_Panel_copyFrom_21 f_Panel_34 (hs 3 _ rfl) rfl (CL_fin _ _ (fun q hq => by cases hq; rfl)) rfl rfl ?_
  obtain ⟨μy3, hy3, hF⟩ := zh_let hF
  refine z_eqm hy3 ?_
  refine z_aload_n d_Panel_copyFrom_24 1 rfl rfl ?_
  refine z_getr d_Panel_copyFrom_25 (q := (b2 + 4)) f_Panel_11 (hs2 3 _ rfl) rfl ?_
  refine z_iconst d_Panel_copyFrom_28 (v := 0) (by decide) ?_
  refine z_aload_n d_Panel_copyFrom_29 0 rfl rfl ?_
  refine z_getr d_Panel_copyFrom_30 (q := (b + 4)) f_Panel_11 (hs 3 _ rfl) rfl ?_
  refine z_iconst d_Panel_copyFrom_33 (v := 0) (by decide) ?_
  refine z_bipush d_Panel_copyFrom_34 (v := 6) (by decide) ?_
  obtain ⟨hy4, hF⟩ := zh_if hF
  obtain ⟨hy5, hF⟩ := zh_if hF
  refine z_copy d_Panel_copyFrom_36 l_Panel_37 cp_ok (hs2 4 _ rfl) (hs 4 _ rfl) (zcp_a hy4) (zcp_a hy5) (zcp_b hy4) (zcp_c hy4) (zcp_c hy5) ⟨Nat.le_of_ble_eq_true rfl, Nat.le_of_ble_eq_true rfl⟩ ?_
  obtain ⟨μy6, hy6, hF⟩ := zh_let hF
  refine z_eqm hy6 ?_
  refine z_aload_n d_Panel_copyFrom_39 1 rfl rfl ?_
  refine z_getr d_Panel_copyFrom_40 (q := (b2 + 5)) f_Panel_15 (hs2 3 _ rfl) rfl ?_
  refine z_iconst d_Panel_copyFrom_43 (v := 0) (by decide) ?_
  refine z_aload_n d_Panel_copyFrom_44 0 rfl rfl ?_
  refine z_getr d_Panel_copyFrom_45 (q := (b + 5)) f_Panel_15 (hs 3 _ rfl) rfl ?_
  refine z_iconst d_Panel_copyFrom_48 (v := 0) (by decide) ?_
  refine z_bipush d_Panel_copyFrom_49 (v := 6) (by decide) ?_
  obtain ⟨hy7, hF⟩ := zh_if hF
  obtain ⟨hy8, hF⟩ := zh_if hF
  refine z_copy d_Panel_copyFrom_51 l_Panel_37 cp_ok (hs2 5 _ rfl) (hs 5 _ rfl) (zcp_a hy7) (zcp_a hy8) (zcp_b hy7) (zcp_c hy7) (zcp_c hy8) ⟨Nat.le_of_ble_eq_true rfl, Nat.le_of_ble_eq_true rfl⟩ ?_
  obtain ⟨μy9, hy9, hF⟩ := zh_let hF
  refine z_eqm hy9 ?_
  refine z_aload_n d_Panel_copyFrom_54 1 rfl rfl ?_
  refine z_getr d_Panel_copyFrom_55 (q := (b2 + 6)) f_Panel_18 (hs2 3 _ rfl) rfl ?_
  refine z_iconst d_Panel_copyFrom_58 (v := 0) (by decide) ?_
  refine z_aload_n d_Panel_copyFrom_59 0 rfl rfl ?_
  refine z_getr d_Panel_copyFrom_60 (q := (b + 6)) f_Panel_18 (hs 3 _ rfl) rfl ?_
  refine z_iconst d_Panel_copyFrom_63 (v := 0) (by decide) ?_
  refine z_bipush d_Panel_copyFrom_64 (v := 6) (by decide) ?_
  obtain ⟨hy10, hF⟩ := zh_if hF
  obtain ⟨hy11, hF⟩ := zh_if hF
  refine z_copy d_Panel_copyFrom_66 l_Panel_37 cp_ok (hs2 6 _ rfl) (hs 6 _ rfl) (zcp_a hy10) (zcp_a hy11) (zcp_b hy10) (zcp_c hy10) (zcp_c hy11) ⟨Nat.le_of_ble_eq_true rfl, Nat.le_of_ble_eq_true rfl⟩ ?_
  obtain ⟨μy12, hy12, hF⟩ := zh_let hF
  refine z_eqm hy12 ?_
  refine z_aload_n d_Panel_copyFrom_69 1 rfl rfl ?_
  refine z_getr d_Panel_copyFrom_70 (q := (b2 + 7)) f_Panel_21 (hs2 3 _ rfl) rfl ?_
  refine z_iconst d_Panel_copyFrom_73 (v := 0) (by decide) ?_
  refine z_aload_n d_Panel_copyFrom_74 0 rfl rfl ?_
  refine z_getr d_Panel_copyFrom_75 (q := (b + 7)) f_Panel_21 (hs 3 _ rfl) rfl ?_
  refine z_iconst d_Panel_copyFrom_78 (v := 0) (by decide) ?_
  refine z_bipush d_Panel_copyFrom_79 (v := 6) (by decide) ?_
  obtain ⟨hy13, hF⟩ := zh_if hF
  obtain ⟨hy14, hF⟩ := zh_if hF
  refine z_copy d_Panel_copyFrom_81 l_Panel_37 cp_ok (hs2 7 _ rfl) (hs 7 _ rfl) (zcp_a hy13) (zcp_a hy14) (zcp_b hy13) (zcp_c hy13) (zcp_c hy14) ⟨Nat.le_of_ble_eq_true rfl, Nat.le_of_ble_eq_true rfl⟩ ?_
  obtain ⟨μy15, hy15, hF⟩ := zh_let hF
  refine z_eqm hy15 ?_
  refine z_aload_n d_Panel_copyFrom_84 1 rfl rfl ?_
  refine z_getr d_Panel_copyFrom_85 (q := (b2 + 8)) f_Panel_24 (hs2 3 _ rfl) rfl ?_
  refine z_iconst d_Panel_copyFrom_88 (v := 0) (by decide) ?_
  refine z_aload_n d_Panel_copyFrom_89 0 rfl rfl ?_
  refine z_getr d_Panel_copyFrom_90 (q := (b + 8)) f_Panel_24 (hs 3 _ rfl) rfl ?_
  refine z_iconst d_Panel_copyFrom_93 (v := 0) (by decide) ?_
  refine z_sipush d_Panel_copyFrom_94 (v := 1000) (by decide) ?_
  obtain ⟨hy16, hF⟩ := zh_if hF
  obtain ⟨hy17, hF⟩ := zh_if hF
  refine z_copy d_Panel_copyFrom_97 l_Panel_37 cp_ok (hs2 8 _ rfl) (hs 8 _ rfl) (zcp_a hy16) (zcp_a hy17) (zcp_b hy16) (zcp_c hy16) (zcp_c hy17) ⟨Nat.le_of_ble_eq_true rfl, Nat.le_of_ble_eq_true rfl⟩ ?_
  obtain ⟨μy18, hy18, hF⟩ := zh_let hF
  refine z_eqm hy18 ?_
  cases hF
  exact z_return d_Panel_copyFrom_100 rfl ⟨rfl, rfl, rfl⟩
def E_Panel_copyFrom (b : Nat) (b2 : Nat)  (μ : zI) (ν : zJ) : Option (zI × zJ) := e_Panel_copyFrom_0 b b2 μ ν
theorem c_Panel_copyFrom {l : Launch} {D : va_G} {dA : Nat → ClassId} {ad : Nat → Nat} {sh : List zSE} {μ : zI} {ν : zJ} {b : Nat} {b2 : Nat} (hs : zSt sh b) (hs2 : zSt sh b2) {out : (zI × zJ)} (hE : E_Panel_copyFrom b b2 μ ν = some out) : zC l D dA ad sh m_Panel_copyFrom 1 0 0 [.ref (ad (b + 3)), .ref (ad (b2 + 3))] μ ν (zOv out) :=
  zC.of (by decide) (Nat.le_of_ble_eq_true rfl) (z_Panel_copyFrom_0 hs hs2 hE)
def e_Schedule_copyFrom_0 (b : Nat) (b2 : Nat)   (μ : zI) (ν : zJ) : Option (zI × zJ) := zlet (zu μ (b + 9) 0 (μ (b2 + 9) 0)) fun μy1 => zlet (zu μy1 (b + 9) 1 (μy1 (b2 + 9) 1)) fun μy2 => (if zcp 0 96 96 = true then (if zcp 0 96 96 = true then zlet (zr μy2 (b + 10) (va_cpy (μy2 (b2 + 10)) (μy2 (b + 10)) 0 0 96)) fun μy5 => some (μy5, ν) else none) else none)
theorem z_Schedule_copyFrom_0 {l : Launch} {D : va_G} {dA : Nat → ClassId} {ad : Nat → Nat} {sh : List zSE}  {b : Nat} {b2 : Nat} (hs : zSt sh b) (hs2 : zSt sh b2)   {μ : zI} {ν : zJ} {out : (zI × zJ)} (hF : e_Schedule_copyFrom_0 b b2   μ ν = some out) : Z l D dA ad sh m_Schedule_copyFrom (zR 1 0 0) (zS ad) (zOv out) 0 0 0 0 [] 0 [(0, .ref (ad (b + 9))), (1, .ref (ad (b2 + 9)))] [] μ ν := by
  unfold e_Schedule_copyFrom_0 at hF
  refine z_aload_n d_Schedule_copyFrom_0 0 rfl rfl ?_
  refine z_aload_n d_Schedule_copyFrom_1 1 rfl rfl ?_
  refine z_get d_Schedule_copyFrom_2 f_Schedule_15 (hs2 9 _ rfl) rfl ?_
  refine z_put d_Schedule_copyFrom_5 f_Schedule_15 (hs 9 _ rfl) rfl (CL_fin _ _ (fun q hq => by cases hq; rfl)) rfl rfl ?_
  obtain ⟨μy1, hy1, hF⟩ := zh_let hF
  refine z_eqm hy1 ?_
  refine z_aload_n d_Schedule_copyFrom_8 0 rfl rfl ?_
  refine z_aload_n d_Schedule_copyFrom_9 1 rfl rfl ?_
  refine z_get d_Schedule_copyFrom_10 f_Schedule_19 (hs2 9 _ rfl) rfl ?_
  refine z_put d_Schedule_copyFrom_13 f_Schedule_19 (hs 9 _ rfl) rfl (CL_fin _ _ (fun q hq => by cases hq; rfl)) rfl rfl ?_
  obtain ⟨μy2, hy2, hF⟩ := zh_let hF
  refine z_eqm hy2 ?_
  refine z_aload_n d_Schedule_copyFrom_16 1 rfl rfl ?_
  refine z_getr d_Schedule_copyFrom_17 (q := (b2 + 10)) f_Schedule_11 (hs2 9 _ rfl) rfl ?_
  refine z_iconst d_Schedule_copyFrom_20 (v := 0) (by decide) ?_
  refine z_aload_n d_Schedule_copyFrom_21 0 rfl rfl ?_
  refine z_getr d_Schedule_copyFrom_22 (q := (b + 10)) f_Schedule_11 (hs 9 _ rfl) rfl ?_
  refine z_iconst d_Schedule_copyFrom_25 (v := 0) (by decide) ?_
  refine z_bipush d_Schedule_copyFrom_26 (v := 96) (by decide) ?_
  obtain ⟨hy3, hF⟩ := zh_if hF
  obtain ⟨hy4, hF⟩ := zh_if hF
  refine z_copy d_Schedule_copyFrom_28 l_Schedule_22 cp_ok (hs2 10 _ rfl) (hs 10 _ rfl) (zcp_a hy3) (zcp_a hy4) (zcp_b hy3) (zcp_c hy3) (zcp_c hy4) ⟨Nat.le_of_ble_eq_true rfl, Nat.le_of_ble_eq_true rfl⟩ ?_
  obtain ⟨μy5, hy5, hF⟩ := zh_let hF
  refine z_eqm hy5 ?_
  cases hF
  exact z_return d_Schedule_copyFrom_31 rfl ⟨rfl, rfl, rfl⟩
def E_Schedule_copyFrom (b : Nat) (b2 : Nat)  (μ : zI) (ν : zJ) : Option (zI × zJ) := e_Schedule_copyFrom_0 b b2 μ ν
theorem c_Schedule_copyFrom {l : Launch} {D : va_G} {dA : Nat → ClassId} {ad : Nat → Nat} {sh : List zSE} {μ : zI} {ν : zJ} {b : Nat} {b2 : Nat} (hs : zSt sh b) (hs2 : zSt sh b2) {out : (zI × zJ)} (hE : E_Schedule_copyFrom b b2 μ ν = some out) : zC l D dA ad sh m_Schedule_copyFrom 1 0 0 [.ref (ad (b + 9)), .ref (ad (b2 + 9))] μ ν (zOv out) :=
  zC.of (by decide) (Nat.le_of_ble_eq_true rfl) (z_Schedule_copyFrom_0 hs hs2 hE)
def e_Follower_copyFrom_0 (b : Nat) (b2 : Nat)   (μ : zI) (ν : zJ) : Option (zI × zJ) := zlet (zu μ (b + 11) 0 (μ (b2 + 11) 0)) fun μy1 => zlet (zu μy1 (b + 11) 1 (μy1 (b2 + 11) 1)) fun μy2 => zlet (zu μy2 (b + 11) 2 (μy2 (b2 + 11) 2)) fun μy3 => zlet (zu μy3 (b + 11) 3 (μy3 (b2 + 11) 3)) fun μy4 => zlet (zu μy4 (b + 11) 4 (μy4 (b2 + 11) 4)) fun μy5 => zlet (zu μy5 (b + 11) 5 (μy5 (b2 + 11) 5)) fun μy6 => zlet (zu μy6 (b + 11) 6 (μy6 (b2 + 11) 6)) fun μy7 => (if zb (μy7 (b2 + 11) 7) = true then zlet (zu μy7 (b + 11) 7 (μy7 (b2 + 11) 7)) fun μy9 => (if zb (μy9 (b2 + 11) 8) = true then zlet (zu μy9 (b + 11) 8 (μy9 (b2 + 11) 8)) fun μy11 => (if zb (μy11 (b2 + 11) 9) = true then zlet (zu μy11 (b + 11) 9 (μy11 (b2 + 11) 9)) fun μy13 => (if zb (μy13 (b2 + 11) 10) = true then zlet (zu μy13 (b + 11) 10 (μy13 (b2 + 11) 10)) fun μy15 => zlet (zu μy15 (b + 11) 11 (μy15 (b2 + 11) 11)) fun μy16 => zlet (zu μy16 (b + 11) 12 (μy16 (b2 + 11) 12)) fun μy17 => some (μy17, ν) else none) else none) else none) else none)
theorem z_Follower_copyFrom_0 {l : Launch} {D : va_G} {dA : Nat → ClassId} {ad : Nat → Nat} {sh : List zSE}  {b : Nat} {b2 : Nat} (hs : zSt sh b) (hs2 : zSt sh b2)   {μ : zI} {ν : zJ} {out : (zI × zJ)} (hF : e_Follower_copyFrom_0 b b2   μ ν = some out) : Z l D dA ad sh m_Follower_copyFrom (zR 0 0 0) (zS ad) (zOv out) 0 0 0 0 [] 0 [(0, .ref (ad (b + 11))), (1, .ref (ad (b2 + 11)))] [] μ ν := by
  unfold e_Follower_copyFrom_0 at hF
  refine z_aload_n d_Follower_copyFrom_0 0 rfl rfl ?_
  refine z_aload_n d_Follower_copyFrom_1 1 rfl rfl ?_
  refine z_get d_Follower_copyFrom_2 f_Follower_9 (hs2 11 _ rfl) rfl ?_
  refine z_put d_Follower_copyFrom_5 f_Follower_9 (hs 11 _ rfl) rfl (CL_fin _ _ (fun q hq => by cases hq; rfl)) rfl rfl ?_
  obtain ⟨μy1, hy1, hF⟩ := zh_let hF
  refine z_eqm hy1 ?_
  refine z_aload_n d_Follower_copyFrom_8 0 rfl rfl ?_
  refine z_aload_n d_Follower_copyFrom_9 1 rfl rfl ?_
  refine z_get d_Follower_copyFrom_10 f_Follower_15 (hs2 11 _ rfl) rfl ?_
  refine z_put d_Follower_copyFrom_13 f_Follower_15 (hs 11 _ rfl) rfl (CL_fin _ _ (fun q hq => by cases hq; rfl)) rfl rfl ?_
  obtain ⟨μy2, hy2, hF⟩ := zh_let hF
  refine z_eqm hy2 ?_
  refine z_aload_n d_Follower_copyFrom_16 0 rfl rfl ?_
  refine z_aload_n d_Follower_copyFrom_17 1 rfl rfl ?_
  refine z_get d_Follower_copyFrom_18 f_Follower_18 (hs2 11 _ rfl) rfl ?_
  refine z_put d_Follower_copyFrom_21 f_Follower_18 (hs 11 _ rfl) rfl (CL_fin _ _ (fun q hq => by cases hq; rfl)) rfl rfl ?_
  obtain ⟨μy3, hy3, hF⟩ := zh_let hF
  refine z_eqm hy3 ?_
  refine z_aload_n d_Follower_copyFrom_24 0 rfl rfl ?_
  refine z_aload_n d_Follower_copyFrom_25 1 rfl rfl ?_
  refine z_get d_Follower_copyFrom_26 f_Follower_21 (hs2 11 _ rfl) rfl ?_
  refine z_put d_Follower_copyFrom_29 f_Follower_21 (hs 11 _ rfl) rfl (CL_fin _ _ (fun q hq => by cases hq; rfl)) rfl rfl ?_
  obtain ⟨μy4, hy4, hF⟩ := zh_let hF
  refine z_eqm hy4 ?_
  refine z_aload_n d_Follower_copyFrom_32 0 rfl rfl ?_
  refine z_aload_n d_Follower_copyFrom_33 1 rfl rfl ?_
  refine z_get d_Follower_copyFrom_34 f_Follower_24 (hs2 11 _ rfl) rfl ?_
  refine z_put d_Follower_copyFrom_37 f_Follower_24 (hs 11 _ rfl) rfl (CL_fin _ _ (fun q hq => by cases hq; rfl)) rfl rfl ?_
  obtain ⟨μy5, hy5, hF⟩ := zh_let hF
  refine z_eqm hy5 ?_
  refine z_aload_n d_Follower_copyFrom_40 0 rfl rfl ?_
  refine z_aload_n d_Follower_copyFrom_41 1 rfl rfl ?_
  refine z_get d_Follower_copyFrom_42 f_Follower_27 (hs2 11 _ rfl) rfl ?_
  refine z_put d_Follower_copyFrom_45 f_Follower_27 (hs 11 _ rfl) rfl (CL_fin _ _ (fun q hq => by cases hq; rfl)) rfl rfl ?_
  obtain ⟨μy6, hy6, hF⟩ := zh_let hF
  refine z_eqm hy6 ?_
  refine z_aload_n d_Follower_copyFrom_48 0 rfl rfl ?_
  refine z_aload_n d_Follower_copyFrom_49 1 rfl rfl ?_
  refine z_get d_Follower_copyFrom_50 f_Follower_30 (hs2 11 _ rfl) rfl ?_
  refine z_put d_Follower_copyFrom_53 f_Follower_30 (hs 11 _ rfl) rfl (CL_fin _ _ (fun q hq => by cases hq; rfl)) rfl rfl ?_
  obtain ⟨μy7, hy7, hF⟩ := zh_let hF
  refine z_eqm hy7 ?_
  refine z_aload_n d_Follower_copyFrom_56 0 rfl rfl ?_
  refine z_aload_n d_Follower_copyFrom_57 1 rfl rfl ?_
  refine z_get d_Follower_copyFrom_58 f_Follower_33 (hs2 11 _ rfl) rfl ?_
  obtain ⟨hy8, hF⟩ := zh_if hF
  refine z_put d_Follower_copyFrom_61 f_Follower_33 (hs 11 _ rfl) rfl (CL_fin _ _ (fun q hq => by cases hq; rfl)) (zb_n hy8) (zb_f hy8) ?_
  obtain ⟨μy9, hy9, hF⟩ := zh_let hF
  refine z_eqm hy9 ?_
  refine z_aload_n d_Follower_copyFrom_64 0 rfl rfl ?_
  refine z_aload_n d_Follower_copyFrom_65 1 rfl rfl ?_
  refine z_get d_Follower_copyFrom_66 f_Follower_37 (hs2 11 _ rfl) rfl ?_
  obtain ⟨hy10, hF⟩ := zh_if hF
  refine z_put d_Follower_copyFrom_69 f_Follower_37 (hs 11 _ rfl) rfl (CL_fin _ _ (fun q hq => by cases hq; rfl)) (zb_n hy10) (zb_f hy10) ?_
  obtain ⟨μy11, hy11, hF⟩ := zh_let hF
  refine z_eqm hy11 ?_
  refine z_aload_n d_Follower_copyFrom_72 0 rfl rfl ?_
  refine z_aload_n d_Follower_copyFrom_73 1 rfl rfl ?_
  refine z_get d_Follower_copyFrom_74 f_Follower_40 (hs2 11 _ rfl) rfl ?_
  obtain ⟨hy12, hF⟩ := zh_if hF
  refine z_put d_Follower_copyFrom_77 f_Follower_40 (hs 11 _ rfl) rfl (CL_fin _ _ (fun q hq => by cases hq; rfl)) (zb_n hy12) (zb_f hy12) ?_
  obtain ⟨μy13, hy13, hF⟩ := zh_let hF
  refine z_eqm hy13 ?_
  refine z_aload_n d_Follower_copyFrom_80 0 rfl rfl ?_
  refine z_aload_n d_Follower_copyFrom_81 1 rfl rfl ?_
  refine z_get d_Follower_copyFrom_82 f_Follower_43 (hs2 11 _ rfl) rfl ?_
  obtain ⟨hy14, hF⟩ := zh_if hF
  refine z_put d_Follower_copyFrom_85 f_Follower_43 (hs 11 _ rfl) rfl (CL_fin _ _ (fun q hq => by cases hq; rfl)) (zb_n hy14) (zb_f hy14) ?_
  obtain ⟨μy15, hy15, hF⟩ := zh_let hF
  refine z_eqm hy15 ?_
  refine z_aload_n d_Follower_copyFrom_88 0 rfl rfl ?_
  refine z_aload_n d_Follower_copyFrom_89 1 rfl rfl ?_
  refine z_get d_Follower_copyFrom_90 f_Follower_46 (hs2 11 _ rfl) rfl ?_
  refine z_put d_Follower_copyFrom_93 f_Follower_46 (hs 11 _ rfl) rfl (CL_fin _ _ (fun q hq => by cases hq; rfl)) rfl rfl ?_
  obtain ⟨μy16, hy16, hF⟩ := zh_let hF
  refine z_eqm hy16 ?_
  refine z_aload_n d_Follower_copyFrom_96 0 rfl rfl ?_
  refine z_aload_n d_Follower_copyFrom_97 1 rfl rfl ?_
  refine z_get d_Follower_copyFrom_98 f_Follower_49 (hs2 11 _ rfl) rfl ?_
  refine z_put d_Follower_copyFrom_101 f_Follower_49 (hs 11 _ rfl) rfl (CL_fin _ _ (fun q hq => by cases hq; rfl)) rfl rfl ?_
  obtain ⟨μy17, hy17, hF⟩ := zh_let hF
  refine z_eqm hy17 ?_
  cases hF
  exact z_return d_Follower_copyFrom_104 rfl ⟨rfl, rfl, rfl⟩
def E_Follower_copyFrom (b : Nat) (b2 : Nat)  (μ : zI) (ν : zJ) : Option (zI × zJ) := e_Follower_copyFrom_0 b b2 μ ν
theorem c_Follower_copyFrom {l : Launch} {D : va_G} {dA : Nat → ClassId} {ad : Nat → Nat} {sh : List zSE} {μ : zI} {ν : zJ} {b : Nat} {b2 : Nat} (hs : zSt sh b) (hs2 : zSt sh b2) {out : (zI × zJ)} (hE : E_Follower_copyFrom b b2 μ ν = some out) : zC l D dA ad sh m_Follower_copyFrom 0 0 0 [.ref (ad (b + 11)), .ref (ad (b2 + 11))] μ ν (zOv out) :=
  zC.of (by decide) (Nat.le_of_ble_eq_true rfl) (z_Follower_copyFrom_0 hs hs2 hE)
def e_Battery_copyFrom_0 (b : Nat) (b2 : Nat)   (μ : zI) (ν : zJ) : Option (zI × zJ) := zlet (zu μ (b + 12) 0 (μ (b2 + 12) 0)) fun μy1 => zlet (zu μy1 (b + 12) 1 (μy1 (b2 + 12) 1)) fun μy2 => zlet (zu μy2 (b + 12) 2 (μy2 (b2 + 12) 2)) fun μy3 => zlet (zu μy3 (b + 12) 3 (μy3 (b2 + 12) 3)) fun μy4 => zlet (zu μy4 (b + 12) 4 (μy4 (b2 + 12) 4)) fun μy5 => zlet (zu μy5 (b + 12) 5 (μy5 (b2 + 12) 5)) fun μy6 => some (μy6, ν)
theorem z_Battery_copyFrom_0 {l : Launch} {D : va_G} {dA : Nat → ClassId} {ad : Nat → Nat} {sh : List zSE}  {b : Nat} {b2 : Nat} (hs : zSt sh b) (hs2 : zSt sh b2)   {μ : zI} {ν : zJ} {out : (zI × zJ)} (hF : e_Battery_copyFrom_0 b b2   μ ν = some out) : Z l D dA ad sh m_Battery_copyFrom (zR 0 0 0) (zS ad) (zOv out) 0 0 0 0 [] 0 [(0, .ref (ad (b + 12))), (1, .ref (ad (b2 + 12)))] [] μ ν := by
  unfold e_Battery_copyFrom_0 at hF
  refine z_aload_n d_Battery_copyFrom_0 0 rfl rfl ?_
  refine z_aload_n d_Battery_copyFrom_1 1 rfl rfl ?_
  refine z_get d_Battery_copyFrom_2 f_Battery_9 (hs2 12 _ rfl) rfl ?_
  refine z_put d_Battery_copyFrom_5 f_Battery_9 (hs 12 _ rfl) rfl (CL_fin _ _ (fun q hq => by cases hq; rfl)) rfl rfl ?_
  obtain ⟨μy1, hy1, hF⟩ := zh_let hF
  refine z_eqm hy1 ?_
  refine z_aload_n d_Battery_copyFrom_8 0 rfl rfl ?_
  refine z_aload_n d_Battery_copyFrom_9 1 rfl rfl ?_
  refine z_get d_Battery_copyFrom_10 f_Battery_15 (hs2 12 _ rfl) rfl ?_
  refine z_put d_Battery_copyFrom_13 f_Battery_15 (hs 12 _ rfl) rfl (CL_fin _ _ (fun q hq => by cases hq; rfl)) rfl rfl ?_
  obtain ⟨μy2, hy2, hF⟩ := zh_let hF
  refine z_eqm hy2 ?_
  refine z_aload_n d_Battery_copyFrom_16 0 rfl rfl ?_
  refine z_aload_n d_Battery_copyFrom_17 1 rfl rfl ?_
  refine z_get d_Battery_copyFrom_18 f_Battery_18 (hs2 12 _ rfl) rfl ?_
  refine z_put d_Battery_copyFrom_21 f_Battery_18 (hs 12 _ rfl) rfl (CL_fin _ _ (fun q hq => by cases hq; rfl)) rfl rfl ?_
  obtain ⟨μy3, hy3, hF⟩ := zh_let hF
  refine z_eqm hy3 ?_
  refine z_aload_n d_Battery_copyFrom_24 0 rfl rfl ?_
  refine z_aload_n d_Battery_copyFrom_25 1 rfl rfl ?_
  refine z_get d_Battery_copyFrom_26 f_Battery_21 (hs2 12 _ rfl) rfl ?_
  refine z_put d_Battery_copyFrom_29 f_Battery_21 (hs 12 _ rfl) rfl (CL_fin _ _ (fun q hq => by cases hq; rfl)) rfl rfl ?_
  obtain ⟨μy4, hy4, hF⟩ := zh_let hF
  refine z_eqm hy4 ?_
  refine z_aload_n d_Battery_copyFrom_32 0 rfl rfl ?_
  refine z_aload_n d_Battery_copyFrom_33 1 rfl rfl ?_
  refine z_get d_Battery_copyFrom_34 f_Battery_24 (hs2 12 _ rfl) rfl ?_
  refine z_put d_Battery_copyFrom_37 f_Battery_24 (hs 12 _ rfl) rfl (CL_fin _ _ (fun q hq => by cases hq; rfl)) rfl rfl ?_
  obtain ⟨μy5, hy5, hF⟩ := zh_let hF
  refine z_eqm hy5 ?_
  refine z_aload_n d_Battery_copyFrom_40 0 rfl rfl ?_
  refine z_aload_n d_Battery_copyFrom_41 1 rfl rfl ?_
  refine z_get d_Battery_copyFrom_42 f_Battery_27 (hs2 12 _ rfl) rfl ?_
  refine z_put d_Battery_copyFrom_45 f_Battery_27 (hs 12 _ rfl) rfl (CL_fin _ _ (fun q hq => by cases hq; rfl)) rfl rfl ?_
  obtain ⟨μy6, hy6, hF⟩ := zh_let hF
  refine z_eqm hy6 ?_
  cases hF
  exact z_return d_Battery_copyFrom_48 rfl ⟨rfl, rfl, rfl⟩
def E_Battery_copyFrom (b : Nat) (b2 : Nat)  (μ : zI) (ν : zJ) : Option (zI × zJ) := e_Battery_copyFrom_0 b b2 μ ν
theorem c_Battery_copyFrom {l : Launch} {D : va_G} {dA : Nat → ClassId} {ad : Nat → Nat} {sh : List zSE} {μ : zI} {ν : zJ} {b : Nat} {b2 : Nat} (hs : zSt sh b) (hs2 : zSt sh b2) {out : (zI × zJ)} (hE : E_Battery_copyFrom b b2 μ ν = some out) : zC l D dA ad sh m_Battery_copyFrom 0 0 0 [.ref (ad (b + 12)), .ref (ad (b2 + 12))] μ ν (zOv out) :=
  zC.of (by decide) (Nat.le_of_ble_eq_true rfl) (z_Battery_copyFrom_0 hs hs2 hE)
def e_Inverter_copyFrom_0 (b : Nat) (b2 : Nat)   (μ : zI) (ν : zJ) : Option (zI × zJ) := (if zb (μ (b2 + 13) 0) = true then zlet (zu μ (b + 13) 0 (μ (b2 + 13) 0)) fun μy2 => zlet (zu μy2 (b + 13) 1 (μy2 (b2 + 13) 1)) fun μy3 => zlet (zu μy3 (b + 13) 2 (μy3 (b2 + 13) 2)) fun μy4 => zlet (zu μy4 (b + 13) 3 (μy4 (b2 + 13) 3)) fun μy5 => zlet (zu μy5 (b + 13) 4 (μy5 (b2 + 13) 4)) fun μy6 => zlet (zu μy6 (b + 13) 5 (μy6 (b2 + 13) 5)) fun μy7 => zlet (zu μy7 (b + 13) 6 (μy7 (b2 + 13) 6)) fun μy8 => (if zb (μy8 (b2 + 13) 7) = true then zlet (zu μy8 (b + 13) 7 (μy8 (b2 + 13) 7)) fun μy10 => some (μy10, ν) else none) else none)
theorem z_Inverter_copyFrom_0 {l : Launch} {D : va_G} {dA : Nat → ClassId} {ad : Nat → Nat} {sh : List zSE}  {b : Nat} {b2 : Nat} (hs : zSt sh b) (hs2 : zSt sh b2)   {μ : zI} {ν : zJ} {out : (zI × zJ)} (hF : e_Inverter_copyFrom_0 b b2   μ ν = some out) : Z l D dA ad sh m_Inverter_copyFrom (zR 0 0 0) (zS ad) (zOv out) 0 0 0 0 [] 0 [(0, .ref (ad (b + 13))), (1, .ref (ad (b2 + 13)))] [] μ ν := by
  unfold e_Inverter_copyFrom_0 at hF
  refine z_aload_n d_Inverter_copyFrom_0 0 rfl rfl ?_
  refine z_aload_n d_Inverter_copyFrom_1 1 rfl rfl ?_
  refine z_get d_Inverter_copyFrom_2 f_Inverter_9 (hs2 13 _ rfl) rfl ?_
  obtain ⟨hy1, hF⟩ := zh_if hF
  refine z_put d_Inverter_copyFrom_5 f_Inverter_9 (hs 13 _ rfl) rfl (CL_fin _ _ (fun q hq => by cases hq; rfl)) (zb_n hy1) (zb_f hy1) ?_
  obtain ⟨μy2, hy2, hF⟩ := zh_let hF
  refine z_eqm hy2 ?_
  refine z_aload_n d_Inverter_copyFrom_8 0 rfl rfl ?_
  refine z_aload_n d_Inverter_copyFrom_9 1 rfl rfl ?_
  refine z_get d_Inverter_copyFrom_10 f_Inverter_15 (hs2 13 _ rfl) rfl ?_
  refine z_put d_Inverter_copyFrom_13 f_Inverter_15 (hs 13 _ rfl) rfl (CL_fin _ _ (fun q hq => by cases hq; rfl)) rfl rfl ?_
  obtain ⟨μy3, hy3, hF⟩ := zh_let hF
  refine z_eqm hy3 ?_
  refine z_aload_n d_Inverter_copyFrom_16 0 rfl rfl ?_
  refine z_aload_n d_Inverter_copyFrom_17 1 rfl rfl ?_
  refine z_get d_Inverter_copyFrom_18 f_Inverter_20 (hs2 13 _ rfl) rfl ?_
  refine z_put d_Inverter_copyFrom_21 f_Inverter_20 (hs 13 _ rfl) rfl (CL_fin _ _ (fun q hq => by cases hq; rfl)) rfl rfl ?_
  obtain ⟨μy4, hy4, hF⟩ := zh_let hF
  refine z_eqm hy4 ?_
  refine z_aload_n d_Inverter_copyFrom_24 0 rfl rfl ?_
  refine z_aload_n d_Inverter_copyFrom_25 1 rfl rfl ?_
  refine z_get d_Inverter_copyFrom_26 f_Inverter_23 (hs2 13 _ rfl) rfl ?_
  refine z_put d_Inverter_copyFrom_29 f_Inverter_23 (hs 13 _ rfl) rfl (CL_fin _ _ (fun q hq => by cases hq; rfl)) rfl rfl ?_
  obtain ⟨μy5, hy5, hF⟩ := zh_let hF
  refine z_eqm hy5 ?_
  refine z_aload_n d_Inverter_copyFrom_32 0 rfl rfl ?_
  refine z_aload_n d_Inverter_copyFrom_33 1 rfl rfl ?_
  refine z_get d_Inverter_copyFrom_34 f_Inverter_26 (hs2 13 _ rfl) rfl ?_
  refine z_put d_Inverter_copyFrom_37 f_Inverter_26 (hs 13 _ rfl) rfl (CL_fin _ _ (fun q hq => by cases hq; rfl)) rfl rfl ?_
  obtain ⟨μy6, hy6, hF⟩ := zh_let hF
  refine z_eqm hy6 ?_
  refine z_aload_n d_Inverter_copyFrom_40 0 rfl rfl ?_
  refine z_aload_n d_Inverter_copyFrom_41 1 rfl rfl ?_
  refine z_get d_Inverter_copyFrom_42 f_Inverter_29 (hs2 13 _ rfl) rfl ?_
  refine z_put d_Inverter_copyFrom_45 f_Inverter_29 (hs 13 _ rfl) rfl (CL_fin _ _ (fun q hq => by cases hq; rfl)) rfl rfl ?_
  obtain ⟨μy7, hy7, hF⟩ := zh_let hF
  refine z_eqm hy7 ?_
  refine z_aload_n d_Inverter_copyFrom_48 0 rfl rfl ?_
  refine z_aload_n d_Inverter_copyFrom_49 1 rfl rfl ?_
  refine z_get d_Inverter_copyFrom_50 f_Inverter_32 (hs2 13 _ rfl) rfl ?_
  refine z_put d_Inverter_copyFrom_53 f_Inverter_32 (hs 13 _ rfl) rfl (CL_fin _ _ (fun q hq => by cases hq; rfl)) rfl rfl ?_
  obtain ⟨μy8, hy8, hF⟩ := zh_let hF
  refine z_eqm hy8 ?_
  refine z_aload_n d_Inverter_copyFrom_56 0 rfl rfl ?_
  refine z_aload_n d_Inverter_copyFrom_57 1 rfl rfl ?_
  refine z_get d_Inverter_copyFrom_58 f_Inverter_35 (hs2 13 _ rfl) rfl ?_
  obtain ⟨hy9, hF⟩ := zh_if hF
  refine z_put d_Inverter_copyFrom_61 f_Inverter_35 (hs 13 _ rfl) rfl (CL_fin _ _ (fun q hq => by cases hq; rfl)) (zb_n hy9) (zb_f hy9) ?_
  obtain ⟨μy10, hy10, hF⟩ := zh_let hF
  refine z_eqm hy10 ?_
  cases hF
  exact z_return d_Inverter_copyFrom_64 rfl ⟨rfl, rfl, rfl⟩
def E_Inverter_copyFrom (b : Nat) (b2 : Nat)  (μ : zI) (ν : zJ) : Option (zI × zJ) := e_Inverter_copyFrom_0 b b2 μ ν
theorem c_Inverter_copyFrom {l : Launch} {D : va_G} {dA : Nat → ClassId} {ad : Nat → Nat} {sh : List zSE} {μ : zI} {ν : zJ} {b : Nat} {b2 : Nat} (hs : zSt sh b) (hs2 : zSt sh b2) {out : (zI × zJ)} (hE : E_Inverter_copyFrom b b2 μ ν = some out) : zC l D dA ad sh m_Inverter_copyFrom 0 0 0 [.ref (ad (b + 13)), .ref (ad (b2 + 13))] μ ν (zOv out) :=
  zC.of (by decide) (Nat.le_of_ble_eq_true rfl) (z_Inverter_copyFrom_0 hs hs2 hE)
def e_Station_copyFrom_0 (b : Nat) (b2 : Nat)   (μ : zI) (ν : zJ) : Option (zI × zJ) := zlet (zu μ b 0 (μ b2 0)) fun μy1 => zlet (zu μy1 b 1 (μy1 b2 1)) fun μy2 => Option.bind (E_Told_copyFrom b b2 μy2 ν) fun ty3 => Option.bind (E_Panel_copyFrom b b2 ty3.1 ty3.2) fun ty4 => Option.bind (E_Schedule_copyFrom b b2 ty4.1 ty4.2) fun ty5 => Option.bind (E_Follower_copyFrom b b2 ty5.1 ty5.2) fun ty6 => Option.bind (E_Battery_copyFrom b b2 ty6.1 ty6.2) fun ty7 => Option.bind (E_Inverter_copyFrom b b2 ty7.1 ty7.2) fun ty8 => (if zcp 0 11 11 = true then (if zcp 0 11 11 = true then zlet (zrl ty8.2 (b + 14) (va_cpy (ty8.2 (b2 + 14)) (ty8.2 (b + 14)) 0 0 11)) fun νy11 => some (ty8.1, νy11) else none) else none)
theorem z_Station_copyFrom_0 {l : Launch} {D : va_G} {dA : Nat → ClassId} {ad : Nat → Nat} {sh : List zSE}  {b : Nat} {b2 : Nat} (hs : zSt sh b) (hs2 : zSt sh b2)   {μ : zI} {ν : zJ} {out : (zI × zJ)} (hF : e_Station_copyFrom_0 b b2   μ ν = some out) : Z l D dA ad sh m_Station_copyFrom (zR 2 0 0) (zS ad) (zOv out) 0 0 0 0 [] 0 [(0, .ref (ad b)), (1, .ref (ad b2))] [] μ ν := by
  unfold e_Station_copyFrom_0 at hF
  refine z_aload_n d_Station_copyFrom_0 0 rfl rfl ?_
  refine z_aload_n d_Station_copyFrom_1 1 rfl rfl ?_
  refine z_get d_Station_copyFrom_2 f_Station_61 (hs2 0 _ rfl) rfl ?_
  refine z_put d_Station_copyFrom_5 f_Station_61 (hs 0 _ rfl) rfl (CL_fin _ _ (fun q hq => by cases hq; rfl)) rfl rfl ?_
  obtain ⟨μy1, hy1, hF⟩ := zh_let hF
  refine z_eqm hy1 ?_
  refine z_aload_n d_Station_copyFrom_8 0 rfl rfl ?_
  refine z_aload_n d_Station_copyFrom_9 1 rfl rfl ?_
  refine z_get d_Station_copyFrom_10 f_Station_65 (hs2 0 _ rfl) rfl ?_
  refine z_put d_Station_copyFrom_13 f_Station_65 (hs 0 _ rfl) rfl (CL_fin _ _ (fun q hq => by cases hq; rfl)) rfl rfl ?_
  obtain ⟨μy2, hy2, hF⟩ := zh_let hF
  refine z_eqm hy2 ?_
  refine z_aload_n d_Station_copyFrom_16 0 rfl rfl ?_
  refine z_getr d_Station_copyFrom_17 (q := (b + 1)) f_Station_10 (hs 0 _ rfl) rfl ?_
  refine z_aload_n d_Station_copyFrom_20 1 rfl rfl ?_
  refine z_getr d_Station_copyFrom_21 (q := (b2 + 1)) f_Station_10 (hs2 0 _ rfl) rfl ?_
  obtain ⟨ty3, hty3, hF⟩ := zh_bind hF
  refine z_callV d_Station_copyFrom_24 (c_Told_copyFrom hs hs2 hty3) mv_Told_copyFrom l_Station_87 (fun _ _ h => h) (hs 1 _ rfl) rfl rfl ⟨Nat.le_of_ble_eq_true rfl, Nat.le_of_ble_eq_true rfl⟩ ⟨Nat.le_of_ble_eq_true rfl, Nat.le_of_ble_eq_true rfl⟩ rfl (Nat.le_of_ble_eq_true rfl) (fun r μ' ν' hq => ?_)
  obtain ⟨rfl, rfl, rfl⟩ := hq
  show Z _ _ _ _ _ _ _ _ _ _ _ 0 0 _ _ _ [] _ _
  refine z_aload_n d_Station_copyFrom_27 0 rfl rfl ?_
  refine z_getr d_Station_copyFrom_28 (q := (b + 3)) f_Station_19 (hs 0 _ rfl) rfl ?_
  refine z_aload_n d_Station_copyFrom_31 1 rfl rfl ?_
  refine z_getr d_Station_copyFrom_32 (q := (b2 + 3)) f_Station_19 (hs2 0 _ rfl) rfl ?_
  obtain ⟨ty4, hty4, hF⟩ := zh_bind hF
  refine z_callV d_Station_copyFrom_35 (c_Panel_copyFrom hs hs2 hty4) mv_Panel_copyFrom l_Station_91 (fun _ _ h => h) (hs 3 _ rfl) rfl rfl ⟨Nat.le_of_ble_eq_true rfl, Nat.le_of_ble_eq_true rfl⟩ ⟨Nat.le_of_ble_eq_true rfl, Nat.le_of_ble_eq_true rfl⟩ rfl (Nat.le_of_ble_eq_true rfl) (fun r μ' ν' hq => ?_)
  obtain ⟨rfl, rfl, rfl⟩ := hq
  show Z _ _ _ _ _ _ _ _ _ _ _ 0 0 _ _ _ [] _ _
  refine z_aload_n d_Station_copyFrom_38 0 rfl rfl ?_
  refine z_getr d_Station_copyFrom_39 (q := (b + 9)) f_Station_26 (hs 0 _ rfl) rfl ?_
  refine z_aload_n d_Station_copyFrom_42 1 rfl rfl ?_
  refine z_getr d_Station_copyFrom_43 (q := (b2 + 9)) f_Station_26 (hs2 0 _ rfl) rfl ?_
  obtain ⟨ty5, hty5, hF⟩ := zh_bind hF
  refine z_callV d_Station_copyFrom_46 (c_Schedule_copyFrom hs hs2 hty5) mv_Schedule_copyFrom l_Station_94 (fun _ _ h => h) (hs 9 _ rfl) rfl rfl ⟨Nat.le_of_ble_eq_true rfl, Nat.le_of_ble_eq_true rfl⟩ ⟨Nat.le_of_ble_eq_true rfl, Nat.le_of_ble_eq_true rfl⟩ rfl (Nat.le_of_ble_eq_true rfl) (fun r μ' ν' hq => ?_)
  obtain ⟨rfl, rfl, rfl⟩ := hq
  show Z _ _ _ _ _ _ _ _ _ _ _ 0 0 _ _ _ [] _ _
  refine z_aload_n d_Station_copyFrom_49 0 rfl rfl ?_
  refine z_getr d_Station_copyFrom_50 (q := (b + 11)) f_Station_33 (hs 0 _ rfl) rfl ?_
  refine z_aload_n d_Station_copyFrom_53 1 rfl rfl ?_
  refine z_getr d_Station_copyFrom_54 (q := (b2 + 11)) f_Station_33 (hs2 0 _ rfl) rfl ?_
  obtain ⟨ty6, hty6, hF⟩ := zh_bind hF
  refine z_callV d_Station_copyFrom_57 (c_Follower_copyFrom hs hs2 hty6) mv_Follower_copyFrom l_Station_97 (fun _ _ h => h) (hs 11 _ rfl) rfl rfl ⟨Nat.le_of_ble_eq_true rfl, Nat.le_of_ble_eq_true rfl⟩ ⟨Nat.le_of_ble_eq_true rfl, Nat.le_of_ble_eq_true rfl⟩ rfl (Nat.le_of_ble_eq_true rfl) (fun r μ' ν' hq => ?_)
  obtain ⟨rfl, rfl, rfl⟩ := hq
  show Z _ _ _ _ _ _ _ _ _ _ _ 0 0 _ _ _ [] _ _
  refine z_aload_n d_Station_copyFrom_60 0 rfl rfl ?_
  refine z_getr d_Station_copyFrom_61 (q := (b + 12)) f_Station_40 (hs 0 _ rfl) rfl ?_
  refine z_aload_n d_Station_copyFrom_64 1 rfl rfl ?_
  refine z_getr d_Station_copyFrom_65 (q := (b2 + 12)) f_Station_40 (hs2 0 _ rfl) rfl ?_
  obtain ⟨ty7, hty7, hF⟩ := zh_bind hF
  refine z_callV d_Station_copyFrom_68 (c_Battery_copyFrom hs hs2 hty7) mv_Battery_copyFrom l_Station_100 (fun _ _ h => h) (hs 12 _ rfl) rfl rfl ⟨Nat.le_of_ble_eq_true rfl, Nat.le_of_ble_eq_true rfl⟩ ⟨Nat.le_of_ble_eq_true rfl, Nat.le_of_ble_eq_true rfl⟩ rfl (Nat.le_of_ble_eq_true rfl) (fun r μ' ν' hq => ?_)
  obtain ⟨rfl, rfl, rfl⟩ := hq
  show Z _ _ _ _ _ _ _ _ _ _ _ 0 0 _ _ _ [] _ _
  refine z_aload_n d_Station_copyFrom_71 0 rfl rfl ?_
  refine z_getr d_Station_copyFrom_72 (q := (b + 13)) f_Station_47 (hs 0 _ rfl) rfl ?_
  refine z_aload_n d_Station_copyFrom_75 1 rfl rfl ?_
  refine z_getr d_Station_copyFrom_76 (q := (b2 + 13)) f_Station_47 (hs2 0 _ rfl) rfl ?_
  obtain ⟨ty8, hty8, hF⟩ := zh_bind hF
  refine z_callV d_Station_copyFrom_79 (c_Inverter_copyFrom hs hs2 hty8) mv_Inverter_copyFrom l_Station_103 (fun _ _ h => h) (hs 13 _ rfl) rfl rfl ⟨Nat.le_of_ble_eq_true rfl, Nat.le_of_ble_eq_true rfl⟩ ⟨Nat.le_of_ble_eq_true rfl, Nat.le_of_ble_eq_true rfl⟩ rfl (Nat.le_of_ble_eq_true rfl) (fun r μ' ν' hq => ?_)
  obtain ⟨rfl, rfl, rfl⟩ := hq
  show Z _ _ _ _ _ _ _ _ _ _ _ 0 0 _ _ _ [] _ _
  refine z_aload_n d_Station_copyFrom_82 1 rfl rfl ?_
  refine z_getr d_Station_copyFrom_83 (q := (b2 + 14)) f_Station_51 (hs2 0 _ rfl) rfl ?_
  refine z_iconst d_Station_copyFrom_86 (v := 0) (by decide) ?_
  refine z_aload_n d_Station_copyFrom_87 0 rfl rfl ?_
  refine z_getr d_Station_copyFrom_88 (q := (b + 14)) f_Station_51 (hs 0 _ rfl) rfl ?_
  refine z_iconst d_Station_copyFrom_91 (v := 0) (by decide) ?_
  refine z_bipush d_Station_copyFrom_92 (v := 11) (by decide) ?_
  obtain ⟨hy9, hF⟩ := zh_if hF
  obtain ⟨hy10, hF⟩ := zh_if hF
  refine z_copyl d_Station_copyFrom_94 l_Station_106 cp_ok (hs2 14 _ rfl) (hs 14 _ rfl) (zcp_a hy9) (zcp_a hy10) (zcp_b hy9) (zcp_c hy9) (zcp_c hy10) ⟨Nat.le_of_ble_eq_true rfl, Nat.le_of_ble_eq_true rfl⟩ ?_
  obtain ⟨νy11, hy11, hF⟩ := zh_let hF
  refine z_eqn hy11 ?_
  cases hF
  exact z_return d_Station_copyFrom_97 rfl ⟨rfl, rfl, rfl⟩
def E_Station_copyFrom (b : Nat) (b2 : Nat)  (μ : zI) (ν : zJ) : Option (zI × zJ) := e_Station_copyFrom_0 b b2 μ ν
theorem c_Station_copyFrom {l : Launch} {D : va_G} {dA : Nat → ClassId} {ad : Nat → Nat} {sh : List zSE} {μ : zI} {ν : zJ} {b : Nat} {b2 : Nat} (hs : zSt sh b) (hs2 : zSt sh b2) {out : (zI × zJ)} (hE : E_Station_copyFrom b b2 μ ν = some out) : zC l D dA ad sh m_Station_copyFrom 2 0 0 [.ref (ad b), .ref (ad b2)] μ ν (zOv out) :=
  zC.of (by decide) (Nat.le_of_ble_eq_true rfl) (z_Station_copyFrom_0 hs hs2 hE)
def e_Schedule_left_0 (b : Nat)   (μ : zI) (ν : zJ) : Option (Int32 × zI × zJ) := some (((μ (b + 9) 0) - (μ (b + 9) 1)), μ, ν)
theorem z_Schedule_left_0 {l : Launch} {D : va_G} {dA : Nat → ClassId} {ad : Nat → Nat} {sh : List zSE}  {b : Nat} (hs : zSt sh b)   {μ : zI} {ν : zJ} {out : (Int32 × zI × zJ)} (hF : e_Schedule_left_0 b   μ ν = some out) : Z l D dA ad sh m_Schedule_left (zR 0 0 0) (zS ad) (zOi out) 0 0 0 0 [] 0 [(0, .ref (ad (b + 9)))] [] μ ν := by
  unfold e_Schedule_left_0 at hF
  refine z_aload_n d_Schedule_left_0 0 rfl rfl ?_
  refine z_get d_Schedule_left_1 f_Schedule_15 (hs 9 _ rfl) rfl ?_
  refine z_aload_n d_Schedule_left_4 0 rfl rfl ?_
  refine z_get d_Schedule_left_5 f_Schedule_19 (hs 9 _ rfl) rfl ?_
  refine z_isub d_Schedule_left_8 ?_
  cases hF
  exact z_ireturn d_Schedule_left_9 rfl rfl ⟨rfl, rfl, rfl⟩
def E_Schedule_left (b : Nat)  (μ : zI) (ν : zJ) : Option (Int32 × zI × zJ) := e_Schedule_left_0 b μ ν
theorem c_Schedule_left {l : Launch} {D : va_G} {dA : Nat → ClassId} {ad : Nat → Nat} {sh : List zSE} {μ : zI} {ν : zJ} {b : Nat} (hs : zSt sh b) {out : (Int32 × zI × zJ)} (hE : E_Schedule_left b μ ν = some out) : zC l D dA ad sh m_Schedule_left 0 0 0 [.ref (ad (b + 9))] μ ν (zOi out) :=
  zC.of (by decide) (Nat.le_of_ble_eq_true rfl) (z_Schedule_left_0 hs hE)
def e_Schedule_get_51 (b : Nat)  (x1 : Int32) (x2 : Int32) (x3 : Int32) (s0 : Int32) (μ : zI) (ν : zJ) : Option (Int32 × zI × zJ) := some (s0, μ, ν)
theorem z_Schedule_get_51 {l : Launch} {D : va_G} {dA : Nat → ClassId} {ad : Nat → Nat} {sh : List zSE}  {b : Nat} (hs : zSt sh b)  {x1 : Int32} {x2 : Int32} {x3 : Int32} {s0 : Int32} {μ : zI} {ν : zJ} {out : (Int32 × zI × zJ)} (hF : e_Schedule_get_51 b  x1 x2 x3 s0 μ ν = some out) : Z l D dA ad sh m_Schedule_get (zR 1 0 0) (zS ad) (zOi out) 0 0 0 0 [] 51 [(0, .ref (ad (b + 9))), (1, .int x1), (2, .int x2), (3, .int x3)] [.int s0] μ ν := by
  unfold e_Schedule_get_51 at hF
  cases hF
  exact z_ireturn d_Schedule_get_51 rfl rfl ⟨rfl, rfl, rfl⟩
def e_Schedule_get_26 (b : Nat)  (x1 : Int32) (x2 : Int32) (s0 : Int32) (μ : zI) (ν : zJ) : Option (Int32 × zI × zJ) := (if s0 = 0 then e_Schedule_get_51 b x1 x2 s0 (-2) μ ν else (if zin ((((μ (b + 9) 1) + x1) * 4) + x2) 96 = true then e_Schedule_get_51 b x1 x2 s0 (μ (b + 10) (Int32.toNatClampNeg ((((μ (b + 9) 1) + x1) * 4) + x2))) μ ν else none))
theorem z_Schedule_get_26 {l : Launch} {D : va_G} {dA : Nat → ClassId} {ad : Nat → Nat} {sh : List zSE}  {b : Nat} (hs : zSt sh b)  {x1 : Int32} {x2 : Int32} {s0 : Int32} {μ : zI} {ν : zJ} {out : (Int32 × zI × zJ)} (hF : e_Schedule_get_26 b  x1 x2 s0 μ ν = some out) : Z l D dA ad sh m_Schedule_get (zR 1 0 0) (zS ad) (zOi out) 0 0 0 0 [] 26 [(0, .ref (ad (b + 9))), (1, .int x1), (2, .int x2)] [.int s0] μ ν := by
  unfold e_Schedule_get_26 at hF
  refine z_istore_n d_Schedule_get_26 rfl (by decide) (L2 := [(3, .int s0), (0, .ref (ad (b + 9))), (1, .int x1), (2, .int x2)]) rfl ?_
  refine z_iload_n d_Schedule_get_27 0 rfl rfl ?_
  refine z_if_eq d_Schedule_get_28 (tgt := 49) (by decide) (fun cy1 => ?_) (fun cy1 => ?_)
  · replace hF := zh_t cy1 hF
    refine z_bipush d_Schedule_get_49 (v := (-2)) (by decide) ?_
    refine z_sub [1, 2, 3, 0] (L' := [(0, .ref (ad (b + 9))), (1, .int x1), (2, .int x2), (3, .int s0)]) rfl ?_
    exact z_Schedule_get_51 hs  hF
  · replace hF := zh_f cy1 hF
    refine z_aload_n d_Schedule_get_31 1 rfl rfl ?_
    refine z_getr d_Schedule_get_32 (q := (b + 10)) f_Schedule_11 (hs 9 _ rfl) rfl ?_
    refine z_aload_n d_Schedule_get_35 1 rfl rfl ?_
    refine z_get d_Schedule_get_36 f_Schedule_19 (hs 9 _ rfl) rfl ?_
    refine z_iload_n d_Schedule_get_39 2 rfl rfl ?_
    refine z_iadd d_Schedule_get_40 ?_
    refine z_iconst d_Schedule_get_41 (v := 4) (by decide) ?_
    refine z_imul d_Schedule_get_42 ?_
    refine z_iload_n d_Schedule_get_43 3 rfl rfl ?_
    refine z_iadd d_Schedule_get_44 ?_
    obtain ⟨hy2, hF⟩ := zh_if hF
    refine z_iald d_Schedule_get_45 (hs 10 _ rfl) (zin_vp hy2) ?_
    refine z_goto d_Schedule_get_46 (tgt := 51) (by decide) ?_
    refine z_sub [1, 2, 3, 0] (L' := [(0, .ref (ad (b + 9))), (1, .int x1), (2, .int x2), (3, .int s0)]) rfl ?_
    exact z_Schedule_get_51 hs  hF
def e_Schedule_get_25 (b : Nat)  (x1 : Int32) (x2 : Int32) (μ : zI) (ν : zJ) : Option (Int32 × zI × zJ) := e_Schedule_get_26 b x1 x2 0 μ ν
theorem z_Schedule_get_25 {l : Launch} {D : va_G} {dA : Nat → ClassId} {ad : Nat → Nat} {sh : List zSE}  {b : Nat} (hs : zSt sh b)  {x1 : Int32} {x2 : Int32} {μ : zI} {ν : zJ} {out : (Int32 × zI × zJ)} (hF : e_Schedule_get_25 b  x1 x2 μ ν = some out) : Z l D dA ad sh m_Schedule_get (zR 1 0 0) (zS ad) (zOi out) 0 0 0 0 [] 25 [(0, .ref (ad (b + 9))), (1, .int x1), (2, .int x2)] [] μ ν := by
  unfold e_Schedule_get_25 at hF
  refine z_iconst d_Schedule_get_25 (v := 0) (by decide) ?_
  exact z_Schedule_get_26 hs  hF
def e_Schedule_get_0 (b : Nat)  (x1 : Int32) (x2 : Int32) (μ : zI) (ν : zJ) : Option (Int32 × zI × zJ) := (if x1 < 0 then e_Schedule_get_25 b x1 x2 μ ν else Option.bind (E_Schedule_left b μ ν) fun ty2 => (if ty2.1 ≤ x1 then e_Schedule_get_25 b x1 x2 ty2.2.1 ty2.2.2 else (if x2 < 0 then e_Schedule_get_25 b x1 x2 ty2.2.1 ty2.2.2 else (if 4 ≤ x2 then e_Schedule_get_25 b x1 x2 ty2.2.1 ty2.2.2 else e_Schedule_get_26 b x1 x2 1 ty2.2.1 ty2.2.2))))
theorem z_Schedule_get_0 {l : Launch} {D : va_G} {dA : Nat → ClassId} {ad : Nat → Nat} {sh : List zSE}  {b : Nat} (hs : zSt sh b)  {x1 : Int32} {x2 : Int32} {μ : zI} {ν : zJ} {out : (Int32 × zI × zJ)} (hF : e_Schedule_get_0 b  x1 x2 μ ν = some out) : Z l D dA ad sh m_Schedule_get (zR 1 0 0) (zS ad) (zOi out) 0 0 0 0 [] 0 [(0, .ref (ad (b + 9))), (1, .int x1), (2, .int x2)] [] μ ν := by
  unfold e_Schedule_get_0 at hF
  refine z_iload_n d_Schedule_get_0 1 rfl rfl ?_
  refine z_if_lt d_Schedule_get_1 (tgt := 25) (by decide) (fun cy1 => ?_) (fun cy1 => ?_)
  · replace hF := zh_t cy1 hF
    exact z_Schedule_get_25 hs  hF
  · replace hF := zh_f cy1 hF
    refine z_iload_n d_Schedule_get_4 1 rfl rfl ?_
    refine z_aload_n d_Schedule_get_5 0 rfl rfl ?_
    obtain ⟨ty2, hty2, hF⟩ := zh_bind hF
    refine z_callV d_Schedule_get_6 (c_Schedule_left hs hty2) mv_Schedule_left l_Schedule_28 (fun _ _ h => h) (hs 9 _ rfl) rfl rfl ⟨Nat.le_of_ble_eq_true rfl, Nat.le_of_ble_eq_true rfl⟩ ⟨Nat.le_of_ble_eq_true rfl, Nat.le_of_ble_eq_true rfl⟩ rfl (Nat.le_of_ble_eq_true rfl) (fun r μ' ν' hq => ?_)
    obtain ⟨rfl, rfl, rfl⟩ := hq
    show Z _ _ _ _ _ _ _ _ _ _ _ 0 0 _ _ _ [.int ty2.1, .int x1] _ _
    refine z_icmp_ge d_Schedule_get_9 (tgt := 25) (by decide) (fun cy3 => ?_) (fun cy3 => ?_)
    · replace hF := zh_t cy3 hF
      exact z_Schedule_get_25 hs  hF
    · replace hF := zh_f cy3 hF
      refine z_iload_n d_Schedule_get_12 2 rfl rfl ?_
      refine z_if_lt d_Schedule_get_13 (tgt := 25) (by decide) (fun cy4 => ?_) (fun cy4 => ?_)
      · replace hF := zh_t cy4 hF
        exact z_Schedule_get_25 hs  hF
      · replace hF := zh_f cy4 hF
        refine z_iload_n d_Schedule_get_16 2 rfl rfl ?_
        refine z_iconst d_Schedule_get_17 (v := 4) (by decide) ?_
        refine z_icmp_ge d_Schedule_get_18 (tgt := 25) (by decide) (fun cy5 => ?_) (fun cy5 => ?_)
        · replace hF := zh_t cy5 hF
          exact z_Schedule_get_25 hs  hF
        · replace hF := zh_f cy5 hF
          refine z_iconst d_Schedule_get_21 (v := 1) (by decide) ?_
          refine z_goto d_Schedule_get_22 (tgt := 26) (by decide) ?_
          exact z_Schedule_get_26 hs  hF
def E_Schedule_get (b : Nat) (x1 : Int32) (x2 : Int32) (μ : zI) (ν : zJ) : Option (Int32 × zI × zJ) := e_Schedule_get_0 b x1 x2 μ ν
theorem c_Schedule_get {l : Launch} {D : va_G} {dA : Nat → ClassId} {ad : Nat → Nat} {sh : List zSE} {μ : zI} {ν : zJ} {b : Nat} {x1 : Int32} {x2 : Int32} (hs : zSt sh b) {out : (Int32 × zI × zJ)} (hE : E_Schedule_get b x1 x2 μ ν = some out) : zC l D dA ad sh m_Schedule_get 1 0 0 [.ref (ad (b + 9)), .int x1, .int x2] μ ν (zOi out) :=
  zC.of (by decide) (Nat.le_of_ble_eq_true rfl) (z_Schedule_get_0 hs hE)
def e_Panel_has_23 (b : Nat)  (x1 : Int32) (s0 : Int32) (μ : zI) (ν : zJ) : Option (Int32 × zI × zJ) := (if zb s0 = true then some (s0, μ, ν) else none)
theorem z_Panel_has_23 {l : Launch} {D : va_G} {dA : Nat → ClassId} {ad : Nat → Nat} {sh : List zSE}  {b : Nat} (hs : zSt sh b)  {x1 : Int32} {s0 : Int32} {μ : zI} {ν : zJ} {out : (Int32 × zI × zJ)} (hF : e_Panel_has_23 b  x1 s0 μ ν = some out) : Z l D dA ad sh m_Panel_has (zR 0 0 0) (zS ad) (zOi out) 0 0 0 0 [] 23 [(0, .ref (ad (b + 3))), (1, .int x1)] [.int s0] μ ν := by
  unfold e_Panel_has_23 at hF
  obtain ⟨hy1, hF⟩ := zh_if hF
  cases hF
  exact z_ireturn d_Panel_has_23 rfl (zb_n hy1) ⟨rfl, rfl, rfl⟩
def e_Panel_has_22 (b : Nat)  (x1 : Int32) (μ : zI) (ν : zJ) : Option (Int32 × zI × zJ) := e_Panel_has_23 b x1 0 μ ν
theorem z_Panel_has_22 {l : Launch} {D : va_G} {dA : Nat → ClassId} {ad : Nat → Nat} {sh : List zSE}  {b : Nat} (hs : zSt sh b)  {x1 : Int32} {μ : zI} {ν : zJ} {out : (Int32 × zI × zJ)} (hF : e_Panel_has_22 b  x1 μ ν = some out) : Z l D dA ad sh m_Panel_has (zR 0 0 0) (zS ad) (zOi out) 0 0 0 0 [] 22 [(0, .ref (ad (b + 3))), (1, .int x1)] [] μ ν := by
  unfold e_Panel_has_22 at hF
  refine z_iconst d_Panel_has_22 (v := 0) (by decide) ?_
  exact z_Panel_has_23 hs  hF
def e_Panel_has_0 (b : Nat)  (x1 : Int32) (μ : zI) (ν : zJ) : Option (Int32 × zI × zJ) := (if x1 < 0 then e_Panel_has_22 b x1 μ ν else (if (μ (b + 3) 0) ≤ x1 then e_Panel_has_22 b x1 μ ν else (if 6 ≤ x1 then e_Panel_has_22 b x1 μ ν else e_Panel_has_23 b x1 1 μ ν)))
theorem z_Panel_has_0 {l : Launch} {D : va_G} {dA : Nat → ClassId} {ad : Nat → Nat} {sh : List zSE}  {b : Nat} (hs : zSt sh b)  {x1 : Int32} {μ : zI} {ν : zJ} {out : (Int32 × zI × zJ)} (hF : e_Panel_has_0 b  x1 μ ν = some out) : Z l D dA ad sh m_Panel_has (zR 0 0 0) (zS ad) (zOi out) 0 0 0 0 [] 0 [(0, .ref (ad (b + 3))), (1, .int x1)] [] μ ν := by
  unfold e_Panel_has_0 at hF
  refine z_iload_n d_Panel_has_0 1 rfl rfl ?_
  refine z_if_lt d_Panel_has_1 (tgt := 22) (by decide) (fun cy1 => ?_) (fun cy1 => ?_)
  · replace hF := zh_t cy1 hF
    exact z_Panel_has_22 hs  hF
  · replace hF := zh_f cy1 hF
    refine z_iload_n d_Panel_has_4 1 rfl rfl ?_
    refine z_aload_n d_Panel_has_5 0 rfl rfl ?_
    refine z_get d_Panel_has_6 f_Panel_27 (hs 3 _ rfl) rfl ?_
    refine z_icmp_ge d_Panel_has_9 (tgt := 22) (by decide) (fun cy2 => ?_) (fun cy2 => ?_)
    · replace hF := zh_t cy2 hF
      exact z_Panel_has_22 hs  hF
    · replace hF := zh_f cy2 hF
      refine z_iload_n d_Panel_has_12 1 rfl rfl ?_
      refine z_bipush d_Panel_has_13 (v := 6) (by decide) ?_
      refine z_icmp_ge d_Panel_has_15 (tgt := 22) (by decide) (fun cy3 => ?_) (fun cy3 => ?_)
      · replace hF := zh_t cy3 hF
        exact z_Panel_has_22 hs  hF
      · replace hF := zh_f cy3 hF
        refine z_iconst d_Panel_has_18 (v := 1) (by decide) ?_
        refine z_goto d_Panel_has_19 (tgt := 23) (by decide) ?_
        exact z_Panel_has_23 hs  hF
def E_Panel_has (b : Nat) (x1 : Int32) (μ : zI) (ν : zJ) : Option (Int32 × zI × zJ) := e_Panel_has_0 b x1 μ ν
theorem c_Panel_has {l : Launch} {D : va_G} {dA : Nat → ClassId} {ad : Nat → Nat} {sh : List zSE} {μ : zI} {ν : zJ} {b : Nat} {x1 : Int32} (hs : zSt sh b) {out : (Int32 × zI × zJ)} (hE : E_Panel_has b x1 μ ν = some out) : zC l D dA ad sh m_Panel_has 0 0 0 [.ref (ad (b + 3)), .int x1] μ ν (zOi out) :=
  zC.of (by decide) (Nat.le_of_ble_eq_true rfl) (z_Panel_has_0 hs hE)
def e_Panel_setLight_32 (b : Nat)  (x1 : Int32) (x2 : Int32) (μ : zI) (ν : zJ) : Option (zI × zJ) := some (μ, ν)
theorem z_Panel_setLight_32 {l : Launch} {D : va_G} {dA : Nat → ClassId} {ad : Nat → Nat} {sh : List zSE}  {b : Nat} (hs : zSt sh b)  {x1 : Int32} {x2 : Int32} {μ : zI} {ν : zJ} {out : (zI × zJ)} (hF : e_Panel_setLight_32 b  x1 x2 μ ν = some out) : Z l D dA ad sh m_Panel_setLight (zR 1 0 0) (zS ad) (zOv out) 0 0 0 0 [] 32 [(0, .ref (ad (b + 3))), (1, .int x1), (2, .int x2)] [] μ ν := by
  unfold e_Panel_setLight_32 at hF
  cases hF
  exact z_return d_Panel_setLight_32 rfl ⟨rfl, rfl, rfl⟩
def e_Panel_setLight_0 (b : Nat)  (x1 : Int32) (x2 : Int32) (μ : zI) (ν : zJ) : Option (zI × zJ) := Option.bind (E_Panel_has b x1 μ ν) fun ty1 => (if ty1.1 = 0 then e_Panel_setLight_32 b x1 x2 ty1.2.1 ty1.2.2 else (if zin x1 6 = true then zlet (zu ty1.2.1 (b + 6) (Int32.toNatClampNeg x1) x2) fun μy4 => (if zin x1 6 = true then (if zin x1 6 = true then zlet (zu μy4 (b + 7) (Int32.toNatClampNeg x1) (((μy4 (b + 4) (Int32.toNatClampNeg x1)) * x2) / 100)) fun μy7 => e_Panel_setLight_32 b x1 x2 μy7 ty1.2.2 else none) else none) else none))
theorem z_Panel_setLight_0 {l : Launch} {D : va_G} {dA : Nat → ClassId} {ad : Nat → Nat} {sh : List zSE}  {b : Nat} (hs : zSt sh b)  {x1 : Int32} {x2 : Int32} {μ : zI} {ν : zJ} {out : (zI × zJ)} (hF : e_Panel_setLight_0 b  x1 x2 μ ν = some out) : Z l D dA ad sh m_Panel_setLight (zR 1 0 0) (zS ad) (zOv out) 0 0 0 0 [] 0 [(0, .ref (ad (b + 3))), (1, .int x1), (2, .int x2)] [] μ ν := by
  unfold e_Panel_setLight_0 at hF
  refine z_aload_n d_Panel_setLight_0 0 rfl rfl ?_
  refine z_iload_n d_Panel_setLight_1 1 rfl rfl ?_
  obtain ⟨ty1, hty1, hF⟩ := zh_bind hF
  refine z_callV d_Panel_setLight_2 (c_Panel_has hs hty1) mv_Panel_has l_Panel_43 (fun _ _ h => h) (hs 3 _ rfl) rfl rfl ⟨Nat.le_of_ble_eq_true rfl, Nat.le_of_ble_eq_true rfl⟩ ⟨Nat.le_of_ble_eq_true rfl, Nat.le_of_ble_eq_true rfl⟩ rfl (Nat.le_of_ble_eq_true rfl) (fun r μ' ν' hq => ?_)
  obtain ⟨rfl, rfl, rfl⟩ := hq
  show Z _ _ _ _ _ _ _ _ _ _ _ 0 0 _ _ _ [.int ty1.1] _ _
  refine z_if_eq d_Panel_setLight_5 (tgt := 32) (by decide) (fun cy2 => ?_) (fun cy2 => ?_)
  · replace hF := zh_t cy2 hF
    exact z_Panel_setLight_32 hs  hF
  · replace hF := zh_f cy2 hF
    refine z_aload_n d_Panel_setLight_8 0 rfl rfl ?_
    refine z_getr d_Panel_setLight_9 (q := (b + 6)) f_Panel_18 (hs 3 _ rfl) rfl ?_
    refine z_iload_n d_Panel_setLight_12 1 rfl rfl ?_
    refine z_iload_n d_Panel_setLight_13 2 rfl rfl ?_
    obtain ⟨hy3, hF⟩ := zh_if hF
    refine z_iast d_Panel_setLight_14 (hs 6 _ rfl) (zin_vp hy3) ?_
    obtain ⟨μy4, hy4, hF⟩ := zh_let hF
    refine z_eqm hy4 ?_
    refine z_aload_n d_Panel_setLight_15 0 rfl rfl ?_
    refine z_getr d_Panel_setLight_16 (q := (b + 7)) f_Panel_21 (hs 3 _ rfl) rfl ?_
    refine z_iload_n d_Panel_setLight_19 1 rfl rfl ?_
    refine z_aload_n d_Panel_setLight_20 0 rfl rfl ?_
    refine z_getr d_Panel_setLight_21 (q := (b + 4)) f_Panel_11 (hs 3 _ rfl) rfl ?_
    refine z_iload_n d_Panel_setLight_24 1 rfl rfl ?_
    obtain ⟨hy5, hF⟩ := zh_if hF
    refine z_iald d_Panel_setLight_25 (hs 4 _ rfl) (zin_vp hy5) ?_
    refine z_iload_n d_Panel_setLight_26 2 rfl rfl ?_
    refine z_imul d_Panel_setLight_27 ?_
    refine z_bipush d_Panel_setLight_28 (v := 100) (by decide) ?_
    refine z_idiv d_Panel_setLight_30 (by decide) ?_
    obtain ⟨hy6, hF⟩ := zh_if hF
    refine z_iast d_Panel_setLight_31 (hs 7 _ rfl) (zin_vp hy6) ?_
    obtain ⟨μy7, hy7, hF⟩ := zh_let hF
    refine z_eqm hy7 ?_
    exact z_Panel_setLight_32 hs  hF
def E_Panel_setLight (b : Nat) (x1 : Int32) (x2 : Int32) (μ : zI) (ν : zJ) : Option (zI × zJ) := e_Panel_setLight_0 b x1 x2 μ ν
theorem c_Panel_setLight {l : Launch} {D : va_G} {dA : Nat → ClassId} {ad : Nat → Nat} {sh : List zSE} {μ : zI} {ν : zJ} {b : Nat} {x1 : Int32} {x2 : Int32} (hs : zSt sh b) {out : (zI × zJ)} (hE : E_Panel_setLight b x1 x2 μ ν = some out) : zC l D dA ad sh m_Panel_setLight 1 0 0 [.ref (ad (b + 3)), .int x1, .int x2] μ ν (zOv out) :=
  zC.of (by decide) (Nat.le_of_ble_eq_true rfl) (z_Panel_setLight_0 hs hE)
def e_Schedule_passNext_17 (b : Nat)   (μ : zI) (ν : zJ) : Option (zI × zJ) := some (μ, ν)
theorem z_Schedule_passNext_17 {l : Launch} {D : va_G} {dA : Nat → ClassId} {ad : Nat → Nat} {sh : List zSE}  {b : Nat} (hs : zSt sh b)   {μ : zI} {ν : zJ} {out : (zI × zJ)} (hF : e_Schedule_passNext_17 b   μ ν = some out) : Z l D dA ad sh m_Schedule_passNext (zR 1 0 0) (zS ad) (zOv out) 0 0 0 0 [] 17 [(0, .ref (ad (b + 9)))] [] μ ν := by
  unfold e_Schedule_passNext_17 at hF
  cases hF
  exact z_return d_Schedule_passNext_17 rfl ⟨rfl, rfl, rfl⟩
def e_Schedule_passNext_0 (b : Nat)   (μ : zI) (ν : zJ) : Option (zI × zJ) := Option.bind (E_Schedule_left b μ ν) fun ty1 => (if ty1.1 ≤ 0 then e_Schedule_passNext_17 b ty1.2.1 ty1.2.2 else zlet (zu ty1.2.1 (b + 9) 1 ((ty1.2.1 (b + 9) 1) + 1)) fun μy3 => e_Schedule_passNext_17 b μy3 ty1.2.2)
theorem z_Schedule_passNext_0 {l : Launch} {D : va_G} {dA : Nat → ClassId} {ad : Nat → Nat} {sh : List zSE}  {b : Nat} (hs : zSt sh b)   {μ : zI} {ν : zJ} {out : (zI × zJ)} (hF : e_Schedule_passNext_0 b   μ ν = some out) : Z l D dA ad sh m_Schedule_passNext (zR 1 0 0) (zS ad) (zOv out) 0 0 0 0 [] 0 [(0, .ref (ad (b + 9)))] [] μ ν := by
  unfold e_Schedule_passNext_0 at hF
  refine z_aload_n d_Schedule_passNext_0 0 rfl rfl ?_
  obtain ⟨ty1, hty1, hF⟩ := zh_bind hF
  refine z_callV d_Schedule_passNext_1 (c_Schedule_left hs hty1) mv_Schedule_left l_Schedule_28 (fun _ _ h => h) (hs 9 _ rfl) rfl rfl ⟨Nat.le_of_ble_eq_true rfl, Nat.le_of_ble_eq_true rfl⟩ ⟨Nat.le_of_ble_eq_true rfl, Nat.le_of_ble_eq_true rfl⟩ rfl (Nat.le_of_ble_eq_true rfl) (fun r μ' ν' hq => ?_)
  obtain ⟨rfl, rfl, rfl⟩ := hq
  show Z _ _ _ _ _ _ _ _ _ _ _ 0 0 _ _ _ [.int ty1.1] _ _
  refine z_if_le d_Schedule_passNext_4 (tgt := 17) (by decide) (fun cy2 => ?_) (fun cy2 => ?_)
  · replace hF := zh_t cy2 hF
    exact z_Schedule_passNext_17 hs  hF
  · replace hF := zh_f cy2 hF
    refine z_aload_n d_Schedule_passNext_7 0 rfl rfl ?_
    refine z_dup d_Schedule_passNext_8 rfl ?_
    refine z_get d_Schedule_passNext_9 f_Schedule_19 (hs 9 _ rfl) rfl ?_
    refine z_iconst d_Schedule_passNext_12 (v := 1) (by decide) ?_
    refine z_iadd d_Schedule_passNext_13 ?_
    refine z_put d_Schedule_passNext_14 f_Schedule_19 (hs 9 _ rfl) rfl (CL_fin _ _ (fun q hq => by cases hq; rfl)) rfl rfl ?_
    obtain ⟨μy3, hy3, hF⟩ := zh_let hF
    refine z_eqm hy3 ?_
    exact z_Schedule_passNext_17 hs  hF
def E_Schedule_passNext (b : Nat)  (μ : zI) (ν : zJ) : Option (zI × zJ) := e_Schedule_passNext_0 b μ ν
theorem c_Schedule_passNext {l : Launch} {D : va_G} {dA : Nat → ClassId} {ad : Nat → Nat} {sh : List zSE} {μ : zI} {ν : zJ} {b : Nat} (hs : zSt sh b) {out : (zI × zJ)} (hE : E_Schedule_passNext b μ ν = some out) : zC l D dA ad sh m_Schedule_passNext 1 0 0 [.ref (ad (b + 9))] μ ν (zOv out) :=
  zC.of (by decide) (Nat.le_of_ble_eq_true rfl) (z_Schedule_passNext_0 hs hE)
def e_Station_doWhatComes_125 (b : Nat) (r4 : Int32 → Int32 → zI → zJ → Option (zI × zJ)) (x1 : Int32) (x2 : Int32) (x3 : Int32) (μ : zI) (ν : zJ) : Option (zI × zJ) := Option.bind (E_Schedule_passNext b μ ν) fun ty1 => r4 x1 (x2 + 1) ty1.1 ty1.2
theorem z_Station_doWhatComes_125 {l : Launch} {D : va_G} {dA : Nat → ClassId} {ad : Nat → Nat} {sh : List zSE}  {b : Nat} (hs : zSt sh b) {r4 : Int32 → Int32 → zI → zJ → Option (zI × zJ)} {x1 : Int32} {x2 : Int32} {x3 : Int32} {μ : zI} {ν : zJ} {out : (zI × zJ)} (hr4 : ∀ (x1 : Int32) (x2 : Int32) (μ : zI) (ν : zJ), r4 x1 x2 μ ν = some out → Z l D dA ad sh m_Station_doWhatComes (zR 3 0 0) (zS ad) (zOv out) 0 0 0 0 [] 4 [(0, .ref (ad b)), (1, .int x1), (2, .int x2)] [] μ ν) (hF : e_Station_doWhatComes_125 b r4 x1 x2 x3 μ ν = some out) : Z l D dA ad sh m_Station_doWhatComes (zR 3 0 0) (zS ad) (zOv out) 0 0 0 0 [] 125 [(0, .ref (ad b)), (1, .int x1), (2, .int x2), (3, .int x3)] [] μ ν := by
  unfold e_Station_doWhatComes_125 at hF
  refine z_aload_n d_Station_doWhatComes_125 0 rfl rfl ?_
  refine z_getr d_Station_doWhatComes_126 (q := (b + 9)) f_Station_26 (hs 0 _ rfl) rfl ?_
  obtain ⟨ty1, hty1, hF⟩ := zh_bind hF
  refine z_callV d_Station_doWhatComes_129 (c_Schedule_passNext hs hty1) mv_Schedule_passNext l_Station_175 (fun _ _ h => h) (hs 9 _ rfl) rfl rfl ⟨Nat.le_of_ble_eq_true rfl, Nat.le_of_ble_eq_true rfl⟩ ⟨Nat.le_of_ble_eq_true rfl, Nat.le_of_ble_eq_true rfl⟩ rfl (Nat.le_of_ble_eq_true rfl) (fun r μ' ν' hq => ?_)
  obtain ⟨rfl, rfl, rfl⟩ := hq
  show Z _ _ _ _ _ _ _ _ _ _ _ 0 0 _ _ _ [] _ _
  refine z_iinc d_Station_doWhatComes_132 (k := 2) (v := (x2 + 1)) rfl rfl (by decide) (L2 := [(2, .int (x2 + 1)), (0, .ref (ad b)), (1, .int x1), (3, .int x3)]) rfl ?_
  refine z_goto d_Station_doWhatComes_135 (tgt := 4) (by decide) ?_
  refine z_sub [1, 2, 0] (L' := [(0, .ref (ad b)), (1, .int x1), (2, .int (x2 + 1))]) rfl ?_
  exact hr4 _ _ _ _ hF
def e_Station_doWhatComes_149 (b : Nat)  (x1 : Int32) (x2 : Int32) (μ : zI) (ν : zJ) : Option (zI × zJ) := some (μ, ν)
theorem z_Station_doWhatComes_149 {l : Launch} {D : va_G} {dA : Nat → ClassId} {ad : Nat → Nat} {sh : List zSE}  {b : Nat} (hs : zSt sh b)  {x1 : Int32} {x2 : Int32} {μ : zI} {ν : zJ} {out : (zI × zJ)} (hF : e_Station_doWhatComes_149 b  x1 x2 μ ν = some out) : Z l D dA ad sh m_Station_doWhatComes (zR 3 0 0) (zS ad) (zOv out) 0 0 0 0 [] 149 [(0, .ref (ad b)), (1, .int x1), (2, .int x2)] [] μ ν := by
  unfold e_Station_doWhatComes_149 at hF
  cases hF
  exact z_return d_Station_doWhatComes_149 rfl ⟨rfl, rfl, rfl⟩
def e_Station_doWhatComes_138 (b : Nat)  (x1 : Int32) (x2 : Int32) (μ : zI) (ν : zJ) : Option (zI × zJ) := (if x1 = 0 then e_Station_doWhatComes_149 b x1 x2 μ ν else Option.bind (E_Panel_reckon b μ ν) fun ty2 => e_Station_doWhatComes_149 b x1 x2 ty2.1 ty2.2)
theorem z_Station_doWhatComes_138 {l : Launch} {D : va_G} {dA : Nat → ClassId} {ad : Nat → Nat} {sh : List zSE}  {b : Nat} (hs : zSt sh b)  {x1 : Int32} {x2 : Int32} {μ : zI} {ν : zJ} {out : (zI × zJ)} (hF : e_Station_doWhatComes_138 b  x1 x2 μ ν = some out) : Z l D dA ad sh m_Station_doWhatComes (zR 3 0 0) (zS ad) (zOv out) 0 0 0 0 [] 138 [(0, .ref (ad b)), (1, .int x1), (2, .int x2)] [] μ ν := by
  unfold e_Station_doWhatComes_138 at hF
  refine z_iload_n d_Station_doWhatComes_138 1 rfl rfl ?_
  refine z_if_eq d_Station_doWhatComes_139 (tgt := 149) (by decide) (fun cy1 => ?_) (fun cy1 => ?_)
  · replace hF := zh_t cy1 hF
    exact z_Station_doWhatComes_149 hs  hF
  · replace hF := zh_f cy1 hF
    refine z_aload_n d_Station_doWhatComes_142 0 rfl rfl ?_
    refine z_getr d_Station_doWhatComes_143 (q := (b + 3)) f_Station_19 (hs 0 _ rfl) rfl ?_
    obtain ⟨ty2, hty2, hF⟩ := zh_bind hF
    refine z_callV d_Station_doWhatComes_146 (c_Panel_reckon hs hty2) mv_Panel_reckon l_Station_77 (fun _ _ h => h) (hs 3 _ rfl) rfl rfl ⟨Nat.le_of_ble_eq_true rfl, Nat.le_of_ble_eq_true rfl⟩ ⟨Nat.le_of_ble_eq_true rfl, Nat.le_of_ble_eq_true rfl⟩ rfl (Nat.le_of_ble_eq_true rfl) (fun r μ' ν' hq => ?_)
    obtain ⟨rfl, rfl, rfl⟩ := hq
    show Z _ _ _ _ _ _ _ _ _ _ _ 0 0 _ _ _ [] _ _
    exact z_Station_doWhatComes_149 hs  hF
def f_Station_doWhatComes_4 (b : Nat)  : Nat → Int32 → Int32 → zI → zJ → Option (zI × zJ)
  | 0, _, _, _, _ => none
  | n + 1, x1, x2, μ, ν => (if 24 ≤ x2 then e_Station_doWhatComes_138 b x1 x2 μ ν else Option.bind (E_Schedule_left b μ ν) fun ty2 => (if ty2.1 ≤ 0 then e_Station_doWhatComes_138 b x1 x2 ty2.2.1 ty2.2.2 else Option.bind (E_Schedule_get b 0 0 ty2.2.1 ty2.2.2) fun ty4 => (if ty4.1 ≤ (ty4.2.1 b 0) then Option.bind (E_Schedule_get b 0 3 ty4.2.1 ty4.2.2) fun ty6 => zlet (α := Int32) ty6.1 fun y7 => Option.bind (E_Schedule_get b 0 1 ty6.2.1 ty6.2.2) fun ty8 => (if ty8.1 = 0 then Option.bind (E_Schedule_get b 0 2 ty8.2.1 ty8.2.2) fun ty11 => Option.bind (E_Panel_setLight b ty11.1 y7 ty11.2.1 ty11.2.2) fun ty12 => e_Station_doWhatComes_125 b (f_Station_doWhatComes_4 b n) 1 x2 y7 ty12.1 ty12.2 else (if ty8.1 = 1 then zlet (zu ty8.2.1 (b + 13) 1 y7) fun μy13 => e_Station_doWhatComes_125 b (f_Station_doWhatComes_4 b n) x1 x2 y7 μy13 ty8.2.2 else zlet (zu ty8.2.1 (b + 13) 2 y7) fun μy14 => e_Station_doWhatComes_125 b (f_Station_doWhatComes_4 b n) x1 x2 y7 μy14 ty8.2.2)) else e_Station_doWhatComes_138 b x1 x2 ty4.2.1 ty4.2.2)))
theorem z_Station_doWhatComes_4 {l : Launch} {D : va_G} {dA : Nat → ClassId} {ad : Nat → Nat} {sh : List zSE}  {b : Nat} (hs : zSt sh b)  {out : (zI × zJ)} : ∀ (n : Nat) (x1 : Int32) (x2 : Int32) (μ : zI) (ν : zJ), f_Station_doWhatComes_4 b  n x1 x2 μ ν = some out → Z l D dA ad sh m_Station_doWhatComes (zR 3 0 0) (zS ad) (zOv out) 0 0 0 0 [] 4 [(0, .ref (ad b)), (1, .int x1), (2, .int x2)] [] μ ν := by
  intro n
  induction n with
  | zero => intro x1 x2 μ ν hF; cases hF
  | succ n ih =>
    intro x1 x2 μ ν hF
    dsimp only [f_Station_doWhatComes_4] at hF
    refine z_iload_n d_Station_doWhatComes_4 2 rfl rfl ?_
    refine z_bipush d_Station_doWhatComes_5 (v := 24) (by decide) ?_
    refine z_icmp_ge d_Station_doWhatComes_7 (tgt := 138) (by decide) (fun cy1 => ?_) (fun cy1 => ?_)
    · replace hF := zh_t cy1 hF
      exact z_Station_doWhatComes_138 hs  hF
    · replace hF := zh_f cy1 hF
      refine z_aload_n d_Station_doWhatComes_10 0 rfl rfl ?_
      refine z_getr d_Station_doWhatComes_11 (q := (b + 9)) f_Station_26 (hs 0 _ rfl) rfl ?_
      obtain ⟨ty2, hty2, hF⟩ := zh_bind hF
      refine z_callV d_Station_doWhatComes_14 (c_Schedule_left hs hty2) mv_Schedule_left l_Station_158 (fun _ _ h => h) (hs 9 _ rfl) rfl rfl ⟨Nat.le_of_ble_eq_true rfl, Nat.le_of_ble_eq_true rfl⟩ ⟨Nat.le_of_ble_eq_true rfl, Nat.le_of_ble_eq_true rfl⟩ rfl (Nat.le_of_ble_eq_true rfl) (fun r μ' ν' hq => ?_)
      obtain ⟨rfl, rfl, rfl⟩ := hq
      show Z _ _ _ _ _ _ _ _ _ _ _ 0 0 _ _ _ [.int ty2.1] _ _
      refine z_if_le d_Station_doWhatComes_17 (tgt := 138) (by decide) (fun cy3 => ?_) (fun cy3 => ?_)
      · replace hF := zh_t cy3 hF
        exact z_Station_doWhatComes_138 hs  hF
      · replace hF := zh_f cy3 hF
        refine z_aload_n d_Station_doWhatComes_20 0 rfl rfl ?_
        refine z_getr d_Station_doWhatComes_21 (q := (b + 9)) f_Station_26 (hs 0 _ rfl) rfl ?_
        refine z_iconst d_Station_doWhatComes_24 (v := 0) (by decide) ?_
        refine z_iconst d_Station_doWhatComes_25 (v := 0) (by decide) ?_
        obtain ⟨ty4, hty4, hF⟩ := zh_bind hF
        refine z_callV d_Station_doWhatComes_26 (c_Schedule_get hs hty4) mv_Schedule_get l_Station_162 (fun _ _ h => h) (hs 9 _ rfl) rfl rfl ⟨Nat.le_of_ble_eq_true rfl, Nat.le_of_ble_eq_true rfl⟩ ⟨Nat.le_of_ble_eq_true rfl, Nat.le_of_ble_eq_true rfl⟩ rfl (Nat.le_of_ble_eq_true rfl) (fun r μ' ν' hq => ?_)
        obtain ⟨rfl, rfl, rfl⟩ := hq
        show Z _ _ _ _ _ _ _ _ _ _ _ 0 0 _ _ _ [.int ty4.1] _ _
        refine z_aload_n d_Station_doWhatComes_29 0 rfl rfl ?_
        refine z_get d_Station_doWhatComes_30 f_Station_61 (hs 0 _ rfl) rfl ?_
        refine z_icmp_le d_Station_doWhatComes_33 (tgt := 39) (by decide) (fun cy5 => ?_) (fun cy5 => ?_)
        · replace hF := zh_t cy5 hF
          refine z_aload_n d_Station_doWhatComes_39 0 rfl rfl ?_
          refine z_getr d_Station_doWhatComes_40 (q := (b + 9)) f_Station_26 (hs 0 _ rfl) rfl ?_
          refine z_iconst d_Station_doWhatComes_43 (v := 0) (by decide) ?_
          refine z_iconst d_Station_doWhatComes_44 (v := 3) (by decide) ?_
          obtain ⟨ty6, hty6, hF⟩ := zh_bind hF
          refine z_callV d_Station_doWhatComes_45 (c_Schedule_get hs hty6) mv_Schedule_get l_Station_162 (fun _ _ h => h) (hs 9 _ rfl) rfl rfl ⟨Nat.le_of_ble_eq_true rfl, Nat.le_of_ble_eq_true rfl⟩ ⟨Nat.le_of_ble_eq_true rfl, Nat.le_of_ble_eq_true rfl⟩ rfl (Nat.le_of_ble_eq_true rfl) (fun r μ' ν' hq => ?_)
          obtain ⟨rfl, rfl, rfl⟩ := hq
          show Z _ _ _ _ _ _ _ _ _ _ _ 0 0 _ _ _ [.int ty6.1] _ _
          obtain ⟨y7, hy7, hF⟩ := zh_let hF
          refine z_eqi hy7 ?_
          refine z_istore_n d_Station_doWhatComes_48 rfl (by decide) (L2 := [(3, .int y7), (0, .ref (ad b)), (1, .int x1), (2, .int x2)]) rfl ?_
          refine z_aload_n d_Station_doWhatComes_49 1 rfl rfl ?_
          refine z_getr d_Station_doWhatComes_50 (q := (b + 9)) f_Station_26 (hs 0 _ rfl) rfl ?_
          refine z_iconst d_Station_doWhatComes_53 (v := 0) (by decide) ?_
          refine z_iconst d_Station_doWhatComes_54 (v := 1) (by decide) ?_
          obtain ⟨ty8, hty8, hF⟩ := zh_bind hF
          refine z_callV d_Station_doWhatComes_55 (c_Schedule_get hs hty8) mv_Schedule_get l_Station_162 (fun _ _ h => h) (hs 9 _ rfl) rfl rfl ⟨Nat.le_of_ble_eq_true rfl, Nat.le_of_ble_eq_true rfl⟩ ⟨Nat.le_of_ble_eq_true rfl, Nat.le_of_ble_eq_true rfl⟩ rfl (Nat.le_of_ble_eq_true rfl) (fun r μ' ν' hq => ?_)
          obtain ⟨rfl, rfl, rfl⟩ := hq
          show Z _ _ _ _ _ _ _ _ _ _ _ 0 0 _ _ _ [.int ty8.1] _ _
          by_cases cy9 : ty8.1 = 0
          · replace hF := zh_t cy9 hF
            refine z_lookup d_Station_doWhatComes_58 (tgt := 84) (off := 26) (by decide) (by rw [cy9]; decide) (by decide) ?_
            refine z_aload_n d_Station_doWhatComes_84 1 rfl rfl ?_
            refine z_getr d_Station_doWhatComes_85 (q := (b + 3)) f_Station_19 (hs 0 _ rfl) rfl ?_
            refine z_aload_n d_Station_doWhatComes_88 1 rfl rfl ?_
            refine z_getr d_Station_doWhatComes_89 (q := (b + 9)) f_Station_26 (hs 0 _ rfl) rfl ?_
            refine z_iconst d_Station_doWhatComes_92 (v := 0) (by decide) ?_
            refine z_iconst d_Station_doWhatComes_93 (v := 2) (by decide) ?_
            obtain ⟨ty11, hty11, hF⟩ := zh_bind hF
            refine z_callV d_Station_doWhatComes_94 (c_Schedule_get hs hty11) mv_Schedule_get l_Station_162 (fun _ _ h => h) (hs 9 _ rfl) rfl rfl ⟨Nat.le_of_ble_eq_true rfl, Nat.le_of_ble_eq_true rfl⟩ ⟨Nat.le_of_ble_eq_true rfl, Nat.le_of_ble_eq_true rfl⟩ rfl (Nat.le_of_ble_eq_true rfl) (fun r μ' ν' hq => ?_)
            obtain ⟨rfl, rfl, rfl⟩ := hq
            show Z _ _ _ _ _ _ _ _ _ _ _ 0 0 _ _ _ [.int ty11.1, .ref (ad (b + 3))] _ _
            refine z_iload_n d_Station_doWhatComes_97 0 rfl rfl ?_
            obtain ⟨ty12, hty12, hF⟩ := zh_bind hF
            refine z_callV d_Station_doWhatComes_98 (c_Panel_setLight hs hty12) mv_Panel_setLight l_Station_165 (fun _ _ h => h) (hs 3 _ rfl) rfl rfl ⟨Nat.le_of_ble_eq_true rfl, Nat.le_of_ble_eq_true rfl⟩ ⟨Nat.le_of_ble_eq_true rfl, Nat.le_of_ble_eq_true rfl⟩ rfl (Nat.le_of_ble_eq_true rfl) (fun r μ' ν' hq => ?_)
            obtain ⟨rfl, rfl, rfl⟩ := hq
            show Z _ _ _ _ _ _ _ _ _ _ _ 0 0 _ _ _ [] _ _
            refine z_iconst d_Station_doWhatComes_101 (v := 1) (by decide) ?_
            refine z_istore_n d_Station_doWhatComes_102 rfl (by decide) (L2 := [(1, .int 1), (3, .int y7), (0, .ref (ad b)), (2, .int x2)]) rfl ?_
            refine z_goto d_Station_doWhatComes_103 (tgt := 125) (by decide) ?_
            refine z_sub [2, 0, 3, 1] (L' := [(0, .ref (ad b)), (1, .int 1), (2, .int x2), (3, .int y7)]) rfl ?_
            exact z_Station_doWhatComes_125 hs (fun a0 a1 a2 a3 => ih a0 a1 a2 a3) hF
          · replace hF := zh_f cy9 hF
            by_cases cy10 : ty8.1 = 1
            · replace hF := zh_t cy10 hF
              refine z_lookup d_Station_doWhatComes_58 (tgt := 106) (off := 48) (by decide) (by rw [cy10]; decide) (by decide) ?_
              refine z_aload_n d_Station_doWhatComes_106 1 rfl rfl ?_
              refine z_getr d_Station_doWhatComes_107 (q := (b + 13)) f_Station_47 (hs 0 _ rfl) rfl ?_
              refine z_iload_n d_Station_doWhatComes_110 0 rfl rfl ?_
              refine z_put d_Station_doWhatComes_111 f_Station_169 (hs 13 _ rfl) rfl (CL_fin _ _ (fun q hq => by cases hq; rfl)) rfl rfl ?_
              obtain ⟨μy13, hy13, hF⟩ := zh_let hF
              refine z_eqm hy13 ?_
              refine z_goto d_Station_doWhatComes_114 (tgt := 125) (by decide) ?_
              refine z_sub [1, 2, 3, 0] (L' := [(0, .ref (ad b)), (1, .int x1), (2, .int x2), (3, .int y7)]) rfl ?_
              exact z_Station_doWhatComes_125 hs (fun a0 a1 a2 a3 => ih a0 a1 a2 a3) hF
            · replace hF := zh_f cy10 hF
              refine z_lookup d_Station_doWhatComes_58 (tgt := 117) (off := 59) (by decide) (by show Op.lookupswitch.offset [(0, 26), (1, 48)] 59 _ = _; rw [lv_osw (k := 0) (a := 0) cy9 (by decide), lv_osw (k := 1) (a := 1) cy10 (by decide)]; rfl) (by decide) ?_
              refine z_aload_n d_Station_doWhatComes_117 1 rfl rfl ?_
              refine z_getr d_Station_doWhatComes_118 (q := (b + 13)) f_Station_47 (hs 0 _ rfl) rfl ?_
              refine z_iload_n d_Station_doWhatComes_121 0 rfl rfl ?_
              refine z_put d_Station_doWhatComes_122 f_Station_172 (hs 13 _ rfl) rfl (CL_fin _ _ (fun q hq => by cases hq; rfl)) rfl rfl ?_
              obtain ⟨μy14, hy14, hF⟩ := zh_let hF
              refine z_eqm hy14 ?_
              refine z_sub [1, 2, 3, 0] (L' := [(0, .ref (ad b)), (1, .int x1), (2, .int x2), (3, .int y7)]) rfl ?_
              exact z_Station_doWhatComes_125 hs (fun a0 a1 a2 a3 => ih a0 a1 a2 a3) hF
        · replace hF := zh_f cy5 hF
          refine z_goto d_Station_doWhatComes_36 (tgt := 138) (by decide) ?_
          exact z_Station_doWhatComes_138 hs  hF
def e_Station_doWhatComes_0 (b : Nat)   (μ : zI) (ν : zJ) : Option (zI × zJ) := f_Station_doWhatComes_4 b zFuel 0 0 μ ν
theorem z_Station_doWhatComes_0 {l : Launch} {D : va_G} {dA : Nat → ClassId} {ad : Nat → Nat} {sh : List zSE}  {b : Nat} (hs : zSt sh b)   {μ : zI} {ν : zJ} {out : (zI × zJ)} (hF : e_Station_doWhatComes_0 b   μ ν = some out) : Z l D dA ad sh m_Station_doWhatComes (zR 3 0 0) (zS ad) (zOv out) 0 0 0 0 [] 0 [(0, .ref (ad b))] [] μ ν := by
  unfold e_Station_doWhatComes_0 at hF
  refine z_iconst d_Station_doWhatComes_0 (v := 0) (by decide) ?_
  refine z_istore_n d_Station_doWhatComes_1 rfl (by decide) (L2 := [(1, .int 0), (0, .ref (ad b))]) rfl ?_
  refine z_iconst d_Station_doWhatComes_2 (v := 0) (by decide) ?_
  refine z_istore_n d_Station_doWhatComes_3 rfl (by decide) (L2 := [(2, .int 0), (1, .int 0), (0, .ref (ad b))]) rfl ?_
  refine z_sub [2, 1, 0] (L' := [(0, .ref (ad b)), (1, .int 0), (2, .int 0)]) rfl ?_
  exact z_Station_doWhatComes_4 hs  zFuel _ _ _ _ hF
def E_Station_doWhatComes (b : Nat)  (μ : zI) (ν : zJ) : Option (zI × zJ) := e_Station_doWhatComes_0 b μ ν
theorem c_Station_doWhatComes {l : Launch} {D : va_G} {dA : Nat → ClassId} {ad : Nat → Nat} {sh : List zSE} {μ : zI} {ν : zJ} {b : Nat} (hs : zSt sh b) {out : (zI × zJ)} (hE : E_Station_doWhatComes b μ ν = some out) : zC l D dA ad sh m_Station_doWhatComes 3 0 0 [.ref (ad b)] μ ν (zOv out) :=
  zC.of (by decide) (Nat.le_of_ble_eq_true rfl) (z_Station_doWhatComes_0 hs hE)
def e_Panel_powerAt_21 (b : Nat)  (x1 : Int32) (s0 : Int32) (μ : zI) (ν : zJ) : Option (Int32 × zI × zJ) := some (s0, μ, ν)
theorem z_Panel_powerAt_21 {l : Launch} {D : va_G} {dA : Nat → ClassId} {ad : Nat → Nat} {sh : List zSE}  {b : Nat} (hs : zSt sh b)  {x1 : Int32} {s0 : Int32} {μ : zI} {ν : zJ} {out : (Int32 × zI × zJ)} (hF : e_Panel_powerAt_21 b  x1 s0 μ ν = some out) : Z l D dA ad sh m_Panel_powerAt (zR 0 0 0) (zS ad) (zOi out) 0 0 0 0 [] 21 [(0, .ref (ad (b + 3))), (1, .int x1)] [.int s0] μ ν := by
  unfold e_Panel_powerAt_21 at hF
  cases hF
  exact z_ireturn d_Panel_powerAt_21 rfl rfl ⟨rfl, rfl, rfl⟩
def e_Panel_powerAt_20 (b : Nat)  (x1 : Int32) (μ : zI) (ν : zJ) : Option (Int32 × zI × zJ) := e_Panel_powerAt_21 b x1 0 μ ν
theorem z_Panel_powerAt_20 {l : Launch} {D : va_G} {dA : Nat → ClassId} {ad : Nat → Nat} {sh : List zSE}  {b : Nat} (hs : zSt sh b)  {x1 : Int32} {μ : zI} {ν : zJ} {out : (Int32 × zI × zJ)} (hF : e_Panel_powerAt_20 b  x1 μ ν = some out) : Z l D dA ad sh m_Panel_powerAt (zR 0 0 0) (zS ad) (zOi out) 0 0 0 0 [] 20 [(0, .ref (ad (b + 3))), (1, .int x1)] [] μ ν := by
  unfold e_Panel_powerAt_20 at hF
  refine z_iconst d_Panel_powerAt_20 (v := 0) (by decide) ?_
  exact z_Panel_powerAt_21 hs  hF
def e_Panel_powerAt_0 (b : Nat)  (x1 : Int32) (μ : zI) (ν : zJ) : Option (Int32 × zI × zJ) := (if x1 < 0 then e_Panel_powerAt_20 b x1 μ ν else (if 1000 ≤ x1 then e_Panel_powerAt_20 b x1 μ ν else (if zin x1 1000 = true then e_Panel_powerAt_21 b x1 (μ (b + 8) (Int32.toNatClampNeg x1)) μ ν else none)))
theorem z_Panel_powerAt_0 {l : Launch} {D : va_G} {dA : Nat → ClassId} {ad : Nat → Nat} {sh : List zSE}  {b : Nat} (hs : zSt sh b)  {x1 : Int32} {μ : zI} {ν : zJ} {out : (Int32 × zI × zJ)} (hF : e_Panel_powerAt_0 b  x1 μ ν = some out) : Z l D dA ad sh m_Panel_powerAt (zR 0 0 0) (zS ad) (zOi out) 0 0 0 0 [] 0 [(0, .ref (ad (b + 3))), (1, .int x1)] [] μ ν := by
  unfold e_Panel_powerAt_0 at hF
  refine z_iload_n d_Panel_powerAt_0 1 rfl rfl ?_
  refine z_if_lt d_Panel_powerAt_1 (tgt := 20) (by decide) (fun cy1 => ?_) (fun cy1 => ?_)
  · replace hF := zh_t cy1 hF
    exact z_Panel_powerAt_20 hs  hF
  · replace hF := zh_f cy1 hF
    refine z_iload_n d_Panel_powerAt_4 1 rfl rfl ?_
    refine z_sipush d_Panel_powerAt_5 (v := 1000) (by decide) ?_
    refine z_icmp_ge d_Panel_powerAt_8 (tgt := 20) (by decide) (fun cy2 => ?_) (fun cy2 => ?_)
    · replace hF := zh_t cy2 hF
      exact z_Panel_powerAt_20 hs  hF
    · replace hF := zh_f cy2 hF
      refine z_aload_n d_Panel_powerAt_11 0 rfl rfl ?_
      refine z_getr d_Panel_powerAt_12 (q := (b + 8)) f_Panel_24 (hs 3 _ rfl) rfl ?_
      refine z_iload_n d_Panel_powerAt_15 1 rfl rfl ?_
      obtain ⟨hy3, hF⟩ := zh_if hF
      refine z_iald d_Panel_powerAt_16 (hs 8 _ rfl) (zin_vp hy3) ?_
      refine z_goto d_Panel_powerAt_17 (tgt := 21) (by decide) ?_
      exact z_Panel_powerAt_21 hs  hF
def E_Panel_powerAt (b : Nat) (x1 : Int32) (μ : zI) (ν : zJ) : Option (Int32 × zI × zJ) := e_Panel_powerAt_0 b x1 μ ν
theorem c_Panel_powerAt {l : Launch} {D : va_G} {dA : Nat → ClassId} {ad : Nat → Nat} {sh : List zSE} {μ : zI} {ν : zJ} {b : Nat} {x1 : Int32} (hs : zSt sh b) {out : (Int32 × zI × zJ)} (hE : E_Panel_powerAt b x1 μ ν = some out) : zC l D dA ad sh m_Panel_powerAt 0 0 0 [.ref (ad (b + 3)), .int x1] μ ν (zOi out) :=
  zC.of (by decide) (Nat.le_of_ble_eq_true rfl) (z_Panel_powerAt_0 hs hE)
def e_Follower_moveTo_0 (b : Nat)  (x1 : Int32) (μ : zI) (ν : zJ) : Option (zI × zJ) := zlet (zu μ (b + 11) 0 (zMax 0 (zMin 999 x1))) fun μy1 => Option.bind (E_Panel_powerAt b (μy1 (b + 11) 0) μy1 ν) fun ty2 => zlet (zu ty2.2.1 (b + 11) 6 ty2.1) fun μy3 => some (μy3, ty2.2.2)
theorem z_Follower_moveTo_0 {l : Launch} {D : va_G} {dA : Nat → ClassId} {ad : Nat → Nat} {sh : List zSE}  {b : Nat} (hs : zSt sh b)  {x1 : Int32} {μ : zI} {ν : zJ} {out : (zI × zJ)} (hF : e_Follower_moveTo_0 b  x1 μ ν = some out) : Z l D dA ad sh m_Follower_moveTo (zR 1 0 0) (zS ad) (zOv out) 0 0 0 0 [] 0 [(0, .ref (ad (b + 11))), (1, .int x1), (2, .ref (ad (b + 3)))] [] μ ν := by
  unfold e_Follower_moveTo_0 at hF
  refine z_aload_n d_Follower_moveTo_0 0 rfl rfl ?_
  refine z_iconst d_Follower_moveTo_1 (v := 0) (by decide) ?_
  refine z_sipush d_Follower_moveTo_2 (v := 999) (by decide) ?_
  refine z_iload_n d_Follower_moveTo_5 1 rfl rfl ?_
  refine z_min d_Follower_moveTo_6 l_Follower_52 ma_min_s ma_i ma_min_c ⟨Nat.le_of_ble_eq_true rfl, Nat.le_of_ble_eq_true rfl, Nat.zero_le _, Nat.zero_le _⟩ ?_
  refine z_max d_Follower_moveTo_9 l_Follower_58 ma_max_s ma_i ma_max_c ⟨Nat.le_of_ble_eq_true rfl, Nat.le_of_ble_eq_true rfl, Nat.zero_le _, Nat.zero_le _⟩ ?_
  refine z_put d_Follower_moveTo_12 f_Follower_9 (hs 11 _ rfl) rfl (CL_fin _ _ (fun q hq => by cases hq; rfl)) rfl rfl ?_
  obtain ⟨μy1, hy1, hF⟩ := zh_let hF
  refine z_eqm hy1 ?_
  refine z_aload_n d_Follower_moveTo_15 0 rfl rfl ?_
  refine z_aload_n d_Follower_moveTo_16 2 rfl rfl ?_
  refine z_aload_n d_Follower_moveTo_17 0 rfl rfl ?_
  refine z_get d_Follower_moveTo_18 f_Follower_9 (hs 11 _ rfl) rfl ?_
  obtain ⟨ty2, hty2, hF⟩ := zh_bind hF
  refine z_callV d_Follower_moveTo_21 (c_Panel_powerAt hs hty2) mv_Panel_powerAt l_Follower_61 (fun _ _ h => h) (hs 3 _ rfl) rfl rfl ⟨Nat.le_of_ble_eq_true rfl, Nat.le_of_ble_eq_true rfl⟩ ⟨Nat.le_of_ble_eq_true rfl, Nat.le_of_ble_eq_true rfl⟩ rfl (Nat.le_of_ble_eq_true rfl) (fun r μ' ν' hq => ?_)
  obtain ⟨rfl, rfl, rfl⟩ := hq
  show Z _ _ _ _ _ _ _ _ _ _ _ 0 0 _ _ _ [.int ty2.1, .ref (ad (b + 11))] _ _
  refine z_put d_Follower_moveTo_24 f_Follower_30 (hs 11 _ rfl) rfl (CL_fin _ _ (fun q hq => by cases hq; rfl)) rfl rfl ?_
  obtain ⟨μy3, hy3, hF⟩ := zh_let hF
  refine z_eqm hy3 ?_
  cases hF
  exact z_return d_Follower_moveTo_27 rfl ⟨rfl, rfl, rfl⟩
def E_Follower_moveTo (b : Nat) (x1 : Int32) (μ : zI) (ν : zJ) : Option (zI × zJ) := e_Follower_moveTo_0 b x1 μ ν
theorem c_Follower_moveTo {l : Launch} {D : va_G} {dA : Nat → ClassId} {ad : Nat → Nat} {sh : List zSE} {μ : zI} {ν : zJ} {b : Nat} {x1 : Int32} (hs : zSt sh b) {out : (zI × zJ)} (hE : E_Follower_moveTo b x1 μ ν = some out) : zC l D dA ad sh m_Follower_moveTo 1 0 0 [.ref (ad (b + 11)), .int x1, .ref (ad (b + 3))] μ ν (zOv out) :=
  zC.of (by decide) (Nat.le_of_ble_eq_true rfl) (z_Follower_moveTo_0 hs hE)
def e_Follower_endScan_0 (b : Nat)   (μ : zI) (ν : zJ) : Option (zI × zJ) := Option.bind (E_Follower_moveTo b (μ (b + 11) 11) μ ν) fun ty1 => Option.bind (E_Told_get b 12 ty1.1 ty1.2) fun ty2 => zlet (zu ty2.2.1 (b + 11) 2 ty2.1) fun μy3 => zlet (zu μy3 (b + 11) 3 0) fun μy4 => zlet (zu μy4 (b + 11) 1 1) fun μy5 => zlet (zu μy5 (b + 11) 5 0) fun μy6 => zlet (zu μy6 (b + 11) 4 (μy6 (b + 11) 6)) fun μy7 => zlet (zu μy7 (b + 11) 7 0) fun μy8 => zlet (zu μy8 (b + 11) 9 1) fun μy9 => some (μy9, ty2.2.2)
theorem z_Follower_endScan_0 {l : Launch} {D : va_G} {dA : Nat → ClassId} {ad : Nat → Nat} {sh : List zSE}  {b : Nat} (hs : zSt sh b)   {μ : zI} {ν : zJ} {out : (zI × zJ)} (hF : e_Follower_endScan_0 b   μ ν = some out) : Z l D dA ad sh m_Follower_endScan (zR 2 0 0) (zS ad) (zOv out) 0 0 0 0 [] 0 [(0, .ref (ad (b + 11))), (1, .ref (ad (b + 3))), (2, .ref (ad (b + 1)))] [] μ ν := by
  unfold e_Follower_endScan_0 at hF
  refine z_aload_n d_Follower_endScan_0 0 rfl rfl ?_
  refine z_aload_n d_Follower_endScan_1 0 rfl rfl ?_
  refine z_get d_Follower_endScan_2 f_Follower_46 (hs 11 _ rfl) rfl ?_
  refine z_aload_n d_Follower_endScan_5 1 rfl rfl ?_
  obtain ⟨ty1, hty1, hF⟩ := zh_bind hF
  refine z_callV d_Follower_endScan_6 (c_Follower_moveTo hs hty1) mv_Follower_moveTo l_Follower_74 (fun _ _ h => h) (hs 11 _ rfl) rfl rfl ⟨Nat.le_of_ble_eq_true rfl, Nat.le_of_ble_eq_true rfl⟩ ⟨Nat.le_of_ble_eq_true rfl, Nat.le_of_ble_eq_true rfl⟩ rfl (Nat.le_of_ble_eq_true rfl) (fun r μ' ν' hq => ?_)
  obtain ⟨rfl, rfl, rfl⟩ := hq
  show Z _ _ _ _ _ _ _ _ _ _ _ 0 0 _ _ _ [] _ _
  refine z_aload_n d_Follower_endScan_9 0 rfl rfl ?_
  refine z_aload_n d_Follower_endScan_10 2 rfl rfl ?_
  refine z_bipush d_Follower_endScan_11 (v := 12) (by decide) ?_
  obtain ⟨ty2, hty2, hF⟩ := zh_bind hF
  refine z_callV d_Follower_endScan_13 (c_Told_get hs hty2) mv_Told_get l_Follower_67 (fun _ _ h => h) (hs 1 _ rfl) rfl rfl ⟨Nat.le_of_ble_eq_true rfl, Nat.le_of_ble_eq_true rfl⟩ ⟨Nat.le_of_ble_eq_true rfl, Nat.le_of_ble_eq_true rfl⟩ rfl (Nat.le_of_ble_eq_true rfl) (fun r μ' ν' hq => ?_)
  obtain ⟨rfl, rfl, rfl⟩ := hq
  show Z _ _ _ _ _ _ _ _ _ _ _ 0 0 _ _ _ [.int ty2.1, .ref (ad (b + 11))] _ _
  refine z_put d_Follower_endScan_16 f_Follower_18 (hs 11 _ rfl) rfl (CL_fin _ _ (fun q hq => by cases hq; rfl)) rfl rfl ?_
  obtain ⟨μy3, hy3, hF⟩ := zh_let hF
  refine z_eqm hy3 ?_
  refine z_aload_n d_Follower_endScan_19 0 rfl rfl ?_
  refine z_iconst d_Follower_endScan_20 (v := 0) (by decide) ?_
  refine z_put d_Follower_endScan_21 f_Follower_21 (hs 11 _ rfl) rfl (CL_fin _ _ (fun q hq => by cases hq; rfl)) rfl rfl ?_
  obtain ⟨μy4, hy4, hF⟩ := zh_let hF
  refine z_eqm hy4 ?_
  refine z_aload_n d_Follower_endScan_24 0 rfl rfl ?_
  refine z_iconst d_Follower_endScan_25 (v := 1) (by decide) ?_
  refine z_put d_Follower_endScan_26 f_Follower_15 (hs 11 _ rfl) rfl (CL_fin _ _ (fun q hq => by cases hq; rfl)) rfl rfl ?_
  obtain ⟨μy5, hy5, hF⟩ := zh_let hF
  refine z_eqm hy5 ?_
  refine z_aload_n d_Follower_endScan_29 0 rfl rfl ?_
  refine z_iconst d_Follower_endScan_30 (v := 0) (by decide) ?_
  refine z_put d_Follower_endScan_31 f_Follower_27 (hs 11 _ rfl) rfl (CL_fin _ _ (fun q hq => by cases hq; rfl)) rfl rfl ?_
  obtain ⟨μy6, hy6, hF⟩ := zh_let hF
  refine z_eqm hy6 ?_
  refine z_aload_n d_Follower_endScan_34 0 rfl rfl ?_
  refine z_aload_n d_Follower_endScan_35 0 rfl rfl ?_
  refine z_get d_Follower_endScan_36 f_Follower_30 (hs 11 _ rfl) rfl ?_
  refine z_put d_Follower_endScan_39 f_Follower_24 (hs 11 _ rfl) rfl (CL_fin _ _ (fun q hq => by cases hq; rfl)) rfl rfl ?_
  obtain ⟨μy7, hy7, hF⟩ := zh_let hF
  refine z_eqm hy7 ?_
  refine z_aload_n d_Follower_endScan_42 0 rfl rfl ?_
  refine z_iconst d_Follower_endScan_43 (v := 0) (by decide) ?_
  refine z_put d_Follower_endScan_44 f_Follower_33 (hs 11 _ rfl) rfl (CL_fin _ _ (fun q hq => by cases hq; rfl)) (by decide) (by decide) ?_
  obtain ⟨μy8, hy8, hF⟩ := zh_let hF
  refine z_eqm hy8 ?_
  refine z_aload_n d_Follower_endScan_47 0 rfl rfl ?_
  refine z_iconst d_Follower_endScan_48 (v := 1) (by decide) ?_
  refine z_put d_Follower_endScan_49 f_Follower_40 (hs 11 _ rfl) rfl (CL_fin _ _ (fun q hq => by cases hq; rfl)) (by decide) (by decide) ?_
  obtain ⟨μy9, hy9, hF⟩ := zh_let hF
  refine z_eqm hy9 ?_
  cases hF
  exact z_return d_Follower_endScan_52 rfl ⟨rfl, rfl, rfl⟩
def E_Follower_endScan (b : Nat)  (μ : zI) (ν : zJ) : Option (zI × zJ) := e_Follower_endScan_0 b μ ν
theorem c_Follower_endScan {l : Launch} {D : va_G} {dA : Nat → ClassId} {ad : Nat → Nat} {sh : List zSE} {μ : zI} {ν : zJ} {b : Nat} (hs : zSt sh b) {out : (zI × zJ)} (hE : E_Follower_endScan b μ ν = some out) : zC l D dA ad sh m_Follower_endScan 2 0 0 [.ref (ad (b + 11)), .ref (ad (b + 3)), .ref (ad (b + 1))] μ ν (zOv out) :=
  zC.of (by decide) (Nat.le_of_ble_eq_true rfl) (z_Follower_endScan_0 hs hE)
def e_Follower_scanOn_87 (b : Nat)  (x3 : Int32) (μ : zI) (ν : zJ) : Option (zI × zJ) := zlet (zu μ (b + 11) 10 1) fun μy1 => some (μy1, ν)
theorem z_Follower_scanOn_87 {l : Launch} {D : va_G} {dA : Nat → ClassId} {ad : Nat → Nat} {sh : List zSE}  {b : Nat} (hs : zSt sh b)  {x3 : Int32} {μ : zI} {ν : zJ} {out : (zI × zJ)} (hF : e_Follower_scanOn_87 b  x3 μ ν = some out) : Z l D dA ad sh m_Follower_scanOn (zR 3 0 0) (zS ad) (zOv out) 0 0 0 0 [] 87 [(0, .ref (ad (b + 11))), (1, .ref (ad (b + 3))), (2, .ref (ad (b + 1))), (3, .int x3)] [] μ ν := by
  unfold e_Follower_scanOn_87 at hF
  refine z_aload_n d_Follower_scanOn_87 0 rfl rfl ?_
  refine z_iconst d_Follower_scanOn_88 (v := 1) (by decide) ?_
  refine z_put d_Follower_scanOn_89 f_Follower_43 (hs 11 _ rfl) rfl (CL_fin _ _ (fun q hq => by cases hq; rfl)) (by decide) (by decide) ?_
  obtain ⟨μy1, hy1, hF⟩ := zh_let hF
  refine z_eqm hy1 ?_
  cases hF
  exact z_return d_Follower_scanOn_92 rfl ⟨rfl, rfl, rfl⟩
def e_Follower_scanOn_71 (b : Nat)  (x3 : Int32) (μ : zI) (ν : zJ) : Option (zI × zJ) := zlet (zu μ (b + 11) 11 (μ (b + 11) 0)) fun μy1 => zlet (zu μy1 (b + 11) 12 (μy1 (b + 11) 6)) fun μy2 => e_Follower_scanOn_87 b x3 μy2 ν
theorem z_Follower_scanOn_71 {l : Launch} {D : va_G} {dA : Nat → ClassId} {ad : Nat → Nat} {sh : List zSE}  {b : Nat} (hs : zSt sh b)  {x3 : Int32} {μ : zI} {ν : zJ} {out : (zI × zJ)} (hF : e_Follower_scanOn_71 b  x3 μ ν = some out) : Z l D dA ad sh m_Follower_scanOn (zR 3 0 0) (zS ad) (zOv out) 0 0 0 0 [] 71 [(0, .ref (ad (b + 11))), (1, .ref (ad (b + 3))), (2, .ref (ad (b + 1))), (3, .int x3)] [] μ ν := by
  unfold e_Follower_scanOn_71 at hF
  refine z_aload_n d_Follower_scanOn_71 0 rfl rfl ?_
  refine z_aload_n d_Follower_scanOn_72 0 rfl rfl ?_
  refine z_get d_Follower_scanOn_73 f_Follower_9 (hs 11 _ rfl) rfl ?_
  refine z_put d_Follower_scanOn_76 f_Follower_46 (hs 11 _ rfl) rfl (CL_fin _ _ (fun q hq => by cases hq; rfl)) rfl rfl ?_
  obtain ⟨μy1, hy1, hF⟩ := zh_let hF
  refine z_eqm hy1 ?_
  refine z_aload_n d_Follower_scanOn_79 0 rfl rfl ?_
  refine z_aload_n d_Follower_scanOn_80 0 rfl rfl ?_
  refine z_get d_Follower_scanOn_81 f_Follower_30 (hs 11 _ rfl) rfl ?_
  refine z_put d_Follower_scanOn_84 f_Follower_49 (hs 11 _ rfl) rfl (CL_fin _ _ (fun q hq => by cases hq; rfl)) rfl rfl ?_
  obtain ⟨μy2, hy2, hF⟩ := zh_let hF
  refine z_eqm hy2 ?_
  exact z_Follower_scanOn_87 hs  hF
def e_Follower_scanOn_32 (b : Nat)  (s0 : Int32) (μ : zI) (ν : zJ) : Option (zI × zJ) := (if s0 ≤ 999 then Option.bind (E_Follower_moveTo b s0 μ ν) fun ty2 => (if (ty2.1 (b + 11) 10) = 0 then e_Follower_scanOn_71 b s0 ty2.1 ty2.2 else (if (ty2.1 (b + 11) 6) ≤ (ty2.1 (b + 11) 12) then e_Follower_scanOn_87 b s0 ty2.1 ty2.2 else e_Follower_scanOn_71 b s0 ty2.1 ty2.2)) else Option.bind (E_Follower_endScan b μ ν) fun ty5 => some (ty5.1, ty5.2))
theorem z_Follower_scanOn_32 {l : Launch} {D : va_G} {dA : Nat → ClassId} {ad : Nat → Nat} {sh : List zSE}  {b : Nat} (hs : zSt sh b)  {s0 : Int32} {μ : zI} {ν : zJ} {out : (zI × zJ)} (hF : e_Follower_scanOn_32 b  s0 μ ν = some out) : Z l D dA ad sh m_Follower_scanOn (zR 3 0 0) (zS ad) (zOv out) 0 0 0 0 [] 32 [(0, .ref (ad (b + 11))), (1, .ref (ad (b + 3))), (2, .ref (ad (b + 1)))] [.int s0] μ ν := by
  unfold e_Follower_scanOn_32 at hF
  refine z_istore_n d_Follower_scanOn_32 rfl (by decide) (L2 := [(3, .int s0), (0, .ref (ad (b + 11))), (1, .ref (ad (b + 3))), (2, .ref (ad (b + 1)))]) rfl ?_
  refine z_iload_n d_Follower_scanOn_33 0 rfl rfl ?_
  refine z_sipush d_Follower_scanOn_34 (v := 999) (by decide) ?_
  refine z_icmp_le d_Follower_scanOn_37 (tgt := 47) (by decide) (fun cy1 => ?_) (fun cy1 => ?_)
  · replace hF := zh_t cy1 hF
    refine z_aload_n d_Follower_scanOn_47 1 rfl rfl ?_
    refine z_iload_n d_Follower_scanOn_48 0 rfl rfl ?_
    refine z_aload_n d_Follower_scanOn_49 2 rfl rfl ?_
    obtain ⟨ty2, hty2, hF⟩ := zh_bind hF
    refine z_callV d_Follower_scanOn_50 (c_Follower_moveTo hs hty2) mv_Follower_moveTo l_Follower_74 (fun _ _ h => h) (hs 11 _ rfl) rfl rfl ⟨Nat.le_of_ble_eq_true rfl, Nat.le_of_ble_eq_true rfl⟩ ⟨Nat.le_of_ble_eq_true rfl, Nat.le_of_ble_eq_true rfl⟩ rfl (Nat.le_of_ble_eq_true rfl) (fun r μ' ν' hq => ?_)
    obtain ⟨rfl, rfl, rfl⟩ := hq
    show Z _ _ _ _ _ _ _ _ _ _ _ 0 0 _ _ _ [] _ _
    refine z_aload_n d_Follower_scanOn_53 1 rfl rfl ?_
    refine z_get d_Follower_scanOn_54 f_Follower_43 (hs 11 _ rfl) rfl ?_
    refine z_if_eq d_Follower_scanOn_57 (tgt := 71) (by decide) (fun cy3 => ?_) (fun cy3 => ?_)
    · replace hF := zh_t cy3 hF
      refine z_sub [1, 2, 3, 0] (L' := [(0, .ref (ad (b + 11))), (1, .ref (ad (b + 3))), (2, .ref (ad (b + 1))), (3, .int s0)]) rfl ?_
      exact z_Follower_scanOn_71 hs  hF
    · replace hF := zh_f cy3 hF
      refine z_aload_n d_Follower_scanOn_60 1 rfl rfl ?_
      refine z_get d_Follower_scanOn_61 f_Follower_30 (hs 11 _ rfl) rfl ?_
      refine z_aload_n d_Follower_scanOn_64 1 rfl rfl ?_
      refine z_get d_Follower_scanOn_65 f_Follower_49 (hs 11 _ rfl) rfl ?_
      refine z_icmp_le d_Follower_scanOn_68 (tgt := 87) (by decide) (fun cy4 => ?_) (fun cy4 => ?_)
      · replace hF := zh_t cy4 hF
        refine z_sub [1, 2, 3, 0] (L' := [(0, .ref (ad (b + 11))), (1, .ref (ad (b + 3))), (2, .ref (ad (b + 1))), (3, .int s0)]) rfl ?_
        exact z_Follower_scanOn_87 hs  hF
      · replace hF := zh_f cy4 hF
        refine z_sub [1, 2, 3, 0] (L' := [(0, .ref (ad (b + 11))), (1, .ref (ad (b + 3))), (2, .ref (ad (b + 1))), (3, .int s0)]) rfl ?_
        exact z_Follower_scanOn_71 hs  hF
  · replace hF := zh_f cy1 hF
    refine z_aload_n d_Follower_scanOn_40 1 rfl rfl ?_
    refine z_aload_n d_Follower_scanOn_41 2 rfl rfl ?_
    refine z_aload_n d_Follower_scanOn_42 3 rfl rfl ?_
    obtain ⟨ty5, hty5, hF⟩ := zh_bind hF
    refine z_callV d_Follower_scanOn_43 (c_Follower_endScan hs hty5) mv_Follower_endScan l_Follower_70 (fun _ _ h => h) (hs 11 _ rfl) rfl rfl ⟨Nat.le_of_ble_eq_true rfl, Nat.le_of_ble_eq_true rfl⟩ ⟨Nat.le_of_ble_eq_true rfl, Nat.le_of_ble_eq_true rfl⟩ rfl (Nat.le_of_ble_eq_true rfl) (fun r μ' ν' hq => ?_)
    obtain ⟨rfl, rfl, rfl⟩ := hq
    show Z _ _ _ _ _ _ _ _ _ _ _ 0 0 _ _ _ [] _ _
    cases hF
    exact z_return d_Follower_scanOn_46 rfl ⟨rfl, rfl, rfl⟩
def e_Follower_scanOn_0 (b : Nat)   (μ : zI) (ν : zJ) : Option (zI × zJ) := zlet (zu μ (b + 11) 8 1) fun μy1 => zlet (zu μy1 (b + 11) 9 0) fun μy2 => (if (μy2 (b + 11) 10) = 0 then e_Follower_scanOn_32 b 0 μy2 ν else Option.bind (E_Told_get b 14 μy2 ν) fun ty4 => e_Follower_scanOn_32 b ((μy2 (b + 11) 0) + ty4.1) ty4.2.1 ty4.2.2)
theorem z_Follower_scanOn_0 {l : Launch} {D : va_G} {dA : Nat → ClassId} {ad : Nat → Nat} {sh : List zSE}  {b : Nat} (hs : zSt sh b)   {μ : zI} {ν : zJ} {out : (zI × zJ)} (hF : e_Follower_scanOn_0 b   μ ν = some out) : Z l D dA ad sh m_Follower_scanOn (zR 3 0 0) (zS ad) (zOv out) 0 0 0 0 [] 0 [(0, .ref (ad (b + 11))), (1, .ref (ad (b + 3))), (2, .ref (ad (b + 1)))] [] μ ν := by
  unfold e_Follower_scanOn_0 at hF
  refine z_aload_n d_Follower_scanOn_0 0 rfl rfl ?_
  refine z_iconst d_Follower_scanOn_1 (v := 1) (by decide) ?_
  refine z_put d_Follower_scanOn_2 f_Follower_37 (hs 11 _ rfl) rfl (CL_fin _ _ (fun q hq => by cases hq; rfl)) (by decide) (by decide) ?_
  obtain ⟨μy1, hy1, hF⟩ := zh_let hF
  refine z_eqm hy1 ?_
  refine z_aload_n d_Follower_scanOn_5 0 rfl rfl ?_
  refine z_iconst d_Follower_scanOn_6 (v := 0) (by decide) ?_
  refine z_put d_Follower_scanOn_7 f_Follower_40 (hs 11 _ rfl) rfl (CL_fin _ _ (fun q hq => by cases hq; rfl)) (by decide) (by decide) ?_
  obtain ⟨μy2, hy2, hF⟩ := zh_let hF
  refine z_eqm hy2 ?_
  refine z_aload_n d_Follower_scanOn_10 0 rfl rfl ?_
  refine z_get d_Follower_scanOn_11 f_Follower_43 (hs 11 _ rfl) rfl ?_
  refine z_if_eq d_Follower_scanOn_14 (tgt := 31) (by decide) (fun cy3 => ?_) (fun cy3 => ?_)
  · replace hF := zh_t cy3 hF
    refine z_iconst d_Follower_scanOn_31 (v := 0) (by decide) ?_
    exact z_Follower_scanOn_32 hs  hF
  · replace hF := zh_f cy3 hF
    refine z_aload_n d_Follower_scanOn_17 0 rfl rfl ?_
    refine z_get d_Follower_scanOn_18 f_Follower_9 (hs 11 _ rfl) rfl ?_
    refine z_aload_n d_Follower_scanOn_21 2 rfl rfl ?_
    refine z_bipush d_Follower_scanOn_22 (v := 14) (by decide) ?_
    obtain ⟨ty4, hty4, hF⟩ := zh_bind hF
    refine z_callV d_Follower_scanOn_24 (c_Told_get hs hty4) mv_Told_get l_Follower_67 (fun _ _ h => h) (hs 1 _ rfl) rfl rfl ⟨Nat.le_of_ble_eq_true rfl, Nat.le_of_ble_eq_true rfl⟩ ⟨Nat.le_of_ble_eq_true rfl, Nat.le_of_ble_eq_true rfl⟩ rfl (Nat.le_of_ble_eq_true rfl) (fun r μ' ν' hq => ?_)
    obtain ⟨rfl, rfl, rfl⟩ := hq
    show Z _ _ _ _ _ _ _ _ _ _ _ 0 0 _ _ _ [.int ty4.1, .int (μy2 (b + 11) 0)] _ _
    refine z_iadd d_Follower_scanOn_27 ?_
    refine z_goto d_Follower_scanOn_28 (tgt := 32) (by decide) ?_
    exact z_Follower_scanOn_32 hs  hF
def E_Follower_scanOn (b : Nat)  (μ : zI) (ν : zJ) : Option (zI × zJ) := e_Follower_scanOn_0 b μ ν
theorem c_Follower_scanOn {l : Launch} {D : va_G} {dA : Nat → ClassId} {ad : Nat → Nat} {sh : List zSE} {μ : zI} {ν : zJ} {b : Nat} (hs : zSt sh b) {out : (zI × zJ)} (hE : E_Follower_scanOn b μ ν = some out) : zC l D dA ad sh m_Follower_scanOn 3 0 0 [.ref (ad (b + 11)), .ref (ad (b + 3)), .ref (ad (b + 1))] μ ν (zOv out) :=
  zC.of (by decide) (Nat.le_of_ble_eq_true rfl) (z_Follower_scanOn_0 hs hE)
def e_Panel_pointOfShare_0 (b : Nat)  (x1 : Int32) (μ : zI) (ν : zJ) : Option (Int32 × zI × zJ) := Option.bind (E_Panel_greatestLit b μ ν) fun ty1 => some (((x1 * ty1.1) / 100), ty1.2.1, ty1.2.2)
theorem z_Panel_pointOfShare_0 {l : Launch} {D : va_G} {dA : Nat → ClassId} {ad : Nat → Nat} {sh : List zSE}  {b : Nat} (hs : zSt sh b)  {x1 : Int32} {μ : zI} {ν : zJ} {out : (Int32 × zI × zJ)} (hF : e_Panel_pointOfShare_0 b  x1 μ ν = some out) : Z l D dA ad sh m_Panel_pointOfShare (zR 2 0 0) (zS ad) (zOi out) 0 0 0 0 [] 0 [(0, .ref (ad (b + 3))), (1, .int x1)] [] μ ν := by
  unfold e_Panel_pointOfShare_0 at hF
  refine z_iload_n d_Panel_pointOfShare_0 1 rfl rfl ?_
  refine z_aload_n d_Panel_pointOfShare_1 0 rfl rfl ?_
  obtain ⟨ty1, hty1, hF⟩ := zh_bind hF
  refine z_callV d_Panel_pointOfShare_2 (c_Panel_greatestLit hs hty1) mv_Panel_greatestLit l_Panel_53 (fun _ _ h => h) (hs 3 _ rfl) rfl rfl ⟨Nat.le_of_ble_eq_true rfl, Nat.le_of_ble_eq_true rfl⟩ ⟨Nat.le_of_ble_eq_true rfl, Nat.le_of_ble_eq_true rfl⟩ rfl (Nat.le_of_ble_eq_true rfl) (fun r μ' ν' hq => ?_)
  obtain ⟨rfl, rfl, rfl⟩ := hq
  show Z _ _ _ _ _ _ _ _ _ _ _ 0 0 _ _ _ [.int ty1.1, .int x1] _ _
  refine z_imul d_Panel_pointOfShare_5 ?_
  refine z_bipush d_Panel_pointOfShare_6 (v := 100) (by decide) ?_
  refine z_idiv d_Panel_pointOfShare_8 (by decide) ?_
  cases hF
  exact z_ireturn d_Panel_pointOfShare_9 rfl rfl ⟨rfl, rfl, rfl⟩
def E_Panel_pointOfShare (b : Nat) (x1 : Int32) (μ : zI) (ν : zJ) : Option (Int32 × zI × zJ) := e_Panel_pointOfShare_0 b x1 μ ν
theorem c_Panel_pointOfShare {l : Launch} {D : va_G} {dA : Nat → ClassId} {ad : Nat → Nat} {sh : List zSE} {μ : zI} {ν : zJ} {b : Nat} {x1 : Int32} (hs : zSt sh b) {out : (Int32 × zI × zJ)} (hE : E_Panel_pointOfShare b x1 μ ν = some out) : zC l D dA ad sh m_Panel_pointOfShare 2 0 0 [.ref (ad (b + 3)), .int x1] μ ν (zOi out) :=
  zC.of (by decide) (Nat.le_of_ble_eq_true rfl) (z_Panel_pointOfShare_0 hs hE)
def e_Panel_steeperWay_47 (b : Nat)  (x1 : Int32) (x2 : Int32) (x3 : Int32) (x4 : Int32) (s0 : Int32) (μ : zI) (ν : zJ) : Option (Int32 × zI × zJ) := some (s0, μ, ν)
theorem z_Panel_steeperWay_47 {l : Launch} {D : va_G} {dA : Nat → ClassId} {ad : Nat → Nat} {sh : List zSE}  {b : Nat} (hs : zSt sh b)  {x1 : Int32} {x2 : Int32} {x3 : Int32} {x4 : Int32} {s0 : Int32} {μ : zI} {ν : zJ} {out : (Int32 × zI × zJ)} (hF : e_Panel_steeperWay_47 b  x1 x2 x3 x4 s0 μ ν = some out) : Z l D dA ad sh m_Panel_steeperWay (zR 1 0 0) (zS ad) (zOi out) 0 0 0 0 [] 47 [(0, .ref (ad (b + 3))), (1, .int x1), (2, .int x2), (3, .int x3), (4, .int x4)] [.int s0] μ ν := by
  unfold e_Panel_steeperWay_47 at hF
  cases hF
  exact z_ireturn d_Panel_steeperWay_47 rfl rfl ⟨rfl, rfl, rfl⟩
def e_Panel_steeperWay_36 (b : Nat)  (x1 : Int32) (x2 : Int32) (x3 : Int32) (x4 : Int32) (μ : zI) (ν : zJ) : Option (Int32 × zI × zJ) := (if x3 ≤ x4 then e_Panel_steeperWay_47 b x1 x2 x3 x4 (-1) μ ν else e_Panel_steeperWay_47 b x1 x2 x3 x4 1 μ ν)
theorem z_Panel_steeperWay_36 {l : Launch} {D : va_G} {dA : Nat → ClassId} {ad : Nat → Nat} {sh : List zSE}  {b : Nat} (hs : zSt sh b)  {x1 : Int32} {x2 : Int32} {x3 : Int32} {x4 : Int32} {μ : zI} {ν : zJ} {out : (Int32 × zI × zJ)} (hF : e_Panel_steeperWay_36 b  x1 x2 x3 x4 μ ν = some out) : Z l D dA ad sh m_Panel_steeperWay (zR 1 0 0) (zS ad) (zOi out) 0 0 0 0 [] 36 [(0, .ref (ad (b + 3))), (1, .int x1), (2, .int x2), (3, .int x3), (4, .int x4)] [] μ ν := by
  unfold e_Panel_steeperWay_36 at hF
  refine z_iload_n d_Panel_steeperWay_36 3 rfl rfl ?_
  refine z_iload d_Panel_steeperWay_37 4 rfl ?_
  refine z_icmp_le d_Panel_steeperWay_39 (tgt := 46) (by decide) (fun cy1 => ?_) (fun cy1 => ?_)
  · replace hF := zh_t cy1 hF
    refine z_iconst d_Panel_steeperWay_46 (v := (-1)) (by decide) ?_
    exact z_Panel_steeperWay_47 hs  hF
  · replace hF := zh_f cy1 hF
    refine z_iconst d_Panel_steeperWay_42 (v := 1) (by decide) ?_
    refine z_goto d_Panel_steeperWay_43 (tgt := 47) (by decide) ?_
    exact z_Panel_steeperWay_47 hs  hF
def e_Panel_steeperWay_0 (b : Nat)  (x1 : Int32) (μ : zI) (ν : zJ) : Option (Int32 × zI × zJ) := Option.bind (E_Panel_powerAt b x1 μ ν) fun ty1 => zlet (α := Int32) ty1.1 fun y2 => Option.bind (E_Panel_powerAt b (x1 + 1) ty1.2.1 ty1.2.2) fun ty3 => zlet (α := Int32) ty3.1 fun y4 => Option.bind (E_Panel_powerAt b (x1 - 1) ty3.2.1 ty3.2.2) fun ty5 => zlet (α := Int32) ty5.1 fun y6 => (if y2 < y4 then e_Panel_steeperWay_36 b x1 y2 y4 y6 ty5.2.1 ty5.2.2 else (if y2 < y6 then e_Panel_steeperWay_36 b x1 y2 y4 y6 ty5.2.1 ty5.2.2 else some (0, ty5.2.1, ty5.2.2)))
theorem z_Panel_steeperWay_0 {l : Launch} {D : va_G} {dA : Nat → ClassId} {ad : Nat → Nat} {sh : List zSE}  {b : Nat} (hs : zSt sh b)  {x1 : Int32} {μ : zI} {ν : zJ} {out : (Int32 × zI × zJ)} (hF : e_Panel_steeperWay_0 b  x1 μ ν = some out) : Z l D dA ad sh m_Panel_steeperWay (zR 1 0 0) (zS ad) (zOi out) 0 0 0 0 [] 0 [(0, .ref (ad (b + 3))), (1, .int x1)] [] μ ν := by
  unfold e_Panel_steeperWay_0 at hF
  refine z_aload_n d_Panel_steeperWay_0 0 rfl rfl ?_
  refine z_iload_n d_Panel_steeperWay_1 1 rfl rfl ?_
  obtain ⟨ty1, hty1, hF⟩ := zh_bind hF
  refine z_callV d_Panel_steeperWay_2 (c_Panel_powerAt hs hty1) mv_Panel_powerAt l_Panel_67 (fun _ _ h => h) (hs 3 _ rfl) rfl rfl ⟨Nat.le_of_ble_eq_true rfl, Nat.le_of_ble_eq_true rfl⟩ ⟨Nat.le_of_ble_eq_true rfl, Nat.le_of_ble_eq_true rfl⟩ rfl (Nat.le_of_ble_eq_true rfl) (fun r μ' ν' hq => ?_)
  obtain ⟨rfl, rfl, rfl⟩ := hq
  show Z _ _ _ _ _ _ _ _ _ _ _ 0 0 _ _ _ [.int ty1.1] _ _
  obtain ⟨y2, hy2, hF⟩ := zh_let hF
  refine z_eqi hy2 ?_
  refine z_istore_n d_Panel_steeperWay_5 rfl (by decide) (L2 := [(2, .int y2), (0, .ref (ad (b + 3))), (1, .int x1)]) rfl ?_
  refine z_aload_n d_Panel_steeperWay_6 1 rfl rfl ?_
  refine z_iload_n d_Panel_steeperWay_7 2 rfl rfl ?_
  refine z_iconst d_Panel_steeperWay_8 (v := 1) (by decide) ?_
  refine z_iadd d_Panel_steeperWay_9 ?_
  obtain ⟨ty3, hty3, hF⟩ := zh_bind hF
  refine z_callV d_Panel_steeperWay_10 (c_Panel_powerAt hs hty3) mv_Panel_powerAt l_Panel_67 (fun _ _ h => h) (hs 3 _ rfl) rfl rfl ⟨Nat.le_of_ble_eq_true rfl, Nat.le_of_ble_eq_true rfl⟩ ⟨Nat.le_of_ble_eq_true rfl, Nat.le_of_ble_eq_true rfl⟩ rfl (Nat.le_of_ble_eq_true rfl) (fun r μ' ν' hq => ?_)
  obtain ⟨rfl, rfl, rfl⟩ := hq
  show Z _ _ _ _ _ _ _ _ _ _ _ 0 0 _ _ _ [.int ty3.1] _ _
  obtain ⟨y4, hy4, hF⟩ := zh_let hF
  refine z_eqi hy4 ?_
  refine z_istore_n d_Panel_steeperWay_13 rfl (by decide) (L2 := [(3, .int y4), (2, .int y2), (0, .ref (ad (b + 3))), (1, .int x1)]) rfl ?_
  refine z_aload_n d_Panel_steeperWay_14 2 rfl rfl ?_
  refine z_iload_n d_Panel_steeperWay_15 3 rfl rfl ?_
  refine z_iconst d_Panel_steeperWay_16 (v := 1) (by decide) ?_
  refine z_isub d_Panel_steeperWay_17 ?_
  obtain ⟨ty5, hty5, hF⟩ := zh_bind hF
  refine z_callV d_Panel_steeperWay_18 (c_Panel_powerAt hs hty5) mv_Panel_powerAt l_Panel_67 (fun _ _ h => h) (hs 3 _ rfl) rfl rfl ⟨Nat.le_of_ble_eq_true rfl, Nat.le_of_ble_eq_true rfl⟩ ⟨Nat.le_of_ble_eq_true rfl, Nat.le_of_ble_eq_true rfl⟩ rfl (Nat.le_of_ble_eq_true rfl) (fun r μ' ν' hq => ?_)
  obtain ⟨rfl, rfl, rfl⟩ := hq
  show Z _ _ _ _ _ _ _ _ _ _ _ 0 0 _ _ _ [.int ty5.1] _ _
  obtain ⟨y6, hy6, hF⟩ := zh_let hF
  refine z_eqi hy6 ?_
  refine z_istore d_Panel_steeperWay_21 (by decide) (L2 := [(4, .int y6), (3, .int y4), (2, .int y2), (0, .ref (ad (b + 3))), (1, .int x1)]) rfl ?_
  refine z_iload_n d_Panel_steeperWay_23 1 rfl rfl ?_
  refine z_iload_n d_Panel_steeperWay_24 2 rfl rfl ?_
  refine z_icmp_gt d_Panel_steeperWay_25 (tgt := 36) (by decide) (fun cy7 => ?_) (fun cy7 => ?_)
  · replace hF := zh_t cy7 hF
    refine z_sub [3, 4, 2, 1, 0] (L' := [(0, .ref (ad (b + 3))), (1, .int x1), (2, .int y2), (3, .int y4), (4, .int y6)]) rfl ?_
    exact z_Panel_steeperWay_36 hs  hF
  · replace hF := zh_f cy7 hF
    refine z_iload d_Panel_steeperWay_28 0 rfl ?_
    refine z_iload_n d_Panel_steeperWay_30 2 rfl rfl ?_
    refine z_icmp_gt d_Panel_steeperWay_31 (tgt := 36) (by decide) (fun cy8 => ?_) (fun cy8 => ?_)
    · replace hF := zh_t cy8 hF
      refine z_sub [3, 4, 2, 1, 0] (L' := [(0, .ref (ad (b + 3))), (1, .int x1), (2, .int y2), (3, .int y4), (4, .int y6)]) rfl ?_
      exact z_Panel_steeperWay_36 hs  hF
    · replace hF := zh_f cy8 hF
      refine z_iconst d_Panel_steeperWay_34 (v := 0) (by decide) ?_
      cases hF
      exact z_ireturn d_Panel_steeperWay_35 rfl rfl ⟨rfl, rfl, rfl⟩
def E_Panel_steeperWay (b : Nat) (x1 : Int32) (μ : zI) (ν : zJ) : Option (Int32 × zI × zJ) := e_Panel_steeperWay_0 b x1 μ ν
theorem c_Panel_steeperWay {l : Launch} {D : va_G} {dA : Nat → ClassId} {ad : Nat → Nat} {sh : List zSE} {μ : zI} {ν : zJ} {b : Nat} {x1 : Int32} (hs : zSt sh b) {out : (Int32 × zI × zJ)} (hE : E_Panel_steeperWay b x1 μ ν = some out) : zC l D dA ad sh m_Panel_steeperWay 1 0 0 [.ref (ad (b + 3)), .int x1] μ ν (zOi out) :=
  zC.of (by decide) (Nat.le_of_ble_eq_true rfl) (z_Panel_steeperWay_0 hs hE)
def e_Follower_lengthen_43 (b : Nat)   (μ : zI) (ν : zJ) : Option (zI × zJ) := some (μ, ν)
theorem z_Follower_lengthen_43 {l : Launch} {D : va_G} {dA : Nat → ClassId} {ad : Nat → Nat} {sh : List zSE}  {b : Nat} (hs : zSt sh b)   {μ : zI} {ν : zJ} {out : (zI × zJ)} (hF : e_Follower_lengthen_43 b   μ ν = some out) : Z l D dA ad sh m_Follower_lengthen (zR 1 0 0) (zS ad) (zOv out) 0 0 0 0 [] 43 [(0, .ref (ad (b + 11))), (1, .ref (ad (b + 1)))] [] μ ν := by
  unfold e_Follower_lengthen_43 at hF
  cases hF
  exact z_return d_Follower_lengthen_43 rfl ⟨rfl, rfl, rfl⟩
def e_Follower_lengthen_0 (b : Nat)   (μ : zI) (ν : zJ) : Option (zI × zJ) := zlet (zu μ (b + 11) 3 ((μ (b + 11) 3) + 1)) fun μy1 => Option.bind (E_Told_get b 13 μy1 ν) fun ty2 => (if (μy1 (b + 11) 3) < ty2.1 then e_Follower_lengthen_43 b ty2.2.1 ty2.2.2 else zlet (zu ty2.2.1 (b + 11) 3 0) fun μy4 => zlet (zu μy4 (b + 11) 2 (zMin 64 (2 * (μy4 (b + 11) 2)))) fun μy5 => e_Follower_lengthen_43 b μy5 ty2.2.2)
theorem z_Follower_lengthen_0 {l : Launch} {D : va_G} {dA : Nat → ClassId} {ad : Nat → Nat} {sh : List zSE}  {b : Nat} (hs : zSt sh b)   {μ : zI} {ν : zJ} {out : (zI × zJ)} (hF : e_Follower_lengthen_0 b   μ ν = some out) : Z l D dA ad sh m_Follower_lengthen (zR 1 0 0) (zS ad) (zOv out) 0 0 0 0 [] 0 [(0, .ref (ad (b + 11))), (1, .ref (ad (b + 1)))] [] μ ν := by
  unfold e_Follower_lengthen_0 at hF
  refine z_aload_n d_Follower_lengthen_0 0 rfl rfl ?_
  refine z_dup d_Follower_lengthen_1 rfl ?_
  refine z_get d_Follower_lengthen_2 f_Follower_21 (hs 11 _ rfl) rfl ?_
  refine z_iconst d_Follower_lengthen_5 (v := 1) (by decide) ?_
  refine z_iadd d_Follower_lengthen_6 ?_
  refine z_put d_Follower_lengthen_7 f_Follower_21 (hs 11 _ rfl) rfl (CL_fin _ _ (fun q hq => by cases hq; rfl)) rfl rfl ?_
  obtain ⟨μy1, hy1, hF⟩ := zh_let hF
  refine z_eqm hy1 ?_
  refine z_aload_n d_Follower_lengthen_10 0 rfl rfl ?_
  refine z_get d_Follower_lengthen_11 f_Follower_21 (hs 11 _ rfl) rfl ?_
  refine z_aload_n d_Follower_lengthen_14 1 rfl rfl ?_
  refine z_bipush d_Follower_lengthen_15 (v := 13) (by decide) ?_
  obtain ⟨ty2, hty2, hF⟩ := zh_bind hF
  refine z_callV d_Follower_lengthen_17 (c_Told_get hs hty2) mv_Told_get l_Follower_67 (fun _ _ h => h) (hs 1 _ rfl) rfl rfl ⟨Nat.le_of_ble_eq_true rfl, Nat.le_of_ble_eq_true rfl⟩ ⟨Nat.le_of_ble_eq_true rfl, Nat.le_of_ble_eq_true rfl⟩ rfl (Nat.le_of_ble_eq_true rfl) (fun r μ' ν' hq => ?_)
  obtain ⟨rfl, rfl, rfl⟩ := hq
  show Z _ _ _ _ _ _ _ _ _ _ _ 0 0 _ _ _ [.int ty2.1, .int (μy1 (b + 11) 3)] _ _
  refine z_icmp_lt d_Follower_lengthen_20 (tgt := 43) (by decide) (fun cy3 => ?_) (fun cy3 => ?_)
  · replace hF := zh_t cy3 hF
    exact z_Follower_lengthen_43 hs  hF
  · replace hF := zh_f cy3 hF
    refine z_aload_n d_Follower_lengthen_23 0 rfl rfl ?_
    refine z_iconst d_Follower_lengthen_24 (v := 0) (by decide) ?_
    refine z_put d_Follower_lengthen_25 f_Follower_21 (hs 11 _ rfl) rfl (CL_fin _ _ (fun q hq => by cases hq; rfl)) rfl rfl ?_
    obtain ⟨μy4, hy4, hF⟩ := zh_let hF
    refine z_eqm hy4 ?_
    refine z_aload_n d_Follower_lengthen_28 0 rfl rfl ?_
    refine z_bipush d_Follower_lengthen_29 (v := 64) (by decide) ?_
    refine z_iconst d_Follower_lengthen_31 (v := 2) (by decide) ?_
    refine z_aload_n d_Follower_lengthen_32 0 rfl rfl ?_
    refine z_get d_Follower_lengthen_33 f_Follower_18 (hs 11 _ rfl) rfl ?_
    refine z_imul d_Follower_lengthen_36 ?_
    refine z_min d_Follower_lengthen_37 l_Follower_52 ma_min_s ma_i ma_min_c ⟨Nat.le_of_ble_eq_true rfl, Nat.le_of_ble_eq_true rfl, Nat.zero_le _, Nat.zero_le _⟩ ?_
    refine z_put d_Follower_lengthen_40 f_Follower_18 (hs 11 _ rfl) rfl (CL_fin _ _ (fun q hq => by cases hq; rfl)) rfl rfl ?_
    obtain ⟨μy5, hy5, hF⟩ := zh_let hF
    refine z_eqm hy5 ?_
    exact z_Follower_lengthen_43 hs  hF
def E_Follower_lengthen (b : Nat)  (μ : zI) (ν : zJ) : Option (zI × zJ) := e_Follower_lengthen_0 b μ ν
theorem c_Follower_lengthen {l : Launch} {D : va_G} {dA : Nat → ClassId} {ad : Nat → Nat} {sh : List zSE} {μ : zI} {ν : zJ} {b : Nat} (hs : zSt sh b) {out : (zI × zJ)} (hE : E_Follower_lengthen b μ ν = some out) : zC l D dA ad sh m_Follower_lengthen 1 0 0 [.ref (ad (b + 11)), .ref (ad (b + 1))] μ ν (zOv out) :=
  zC.of (by decide) (Nat.le_of_ble_eq_true rfl) (z_Follower_lengthen_0 hs hE)
def e_Follower_shorten_0 (b : Nat)   (μ : zI) (ν : zJ) : Option (zI × zJ) := zlet (zu μ (b + 11) 2 (zMax 1 ((μ (b + 11) 2) / 2))) fun μy1 => zlet (zu μy1 (b + 11) 3 0) fun μy2 => some (μy2, ν)
theorem z_Follower_shorten_0 {l : Launch} {D : va_G} {dA : Nat → ClassId} {ad : Nat → Nat} {sh : List zSE}  {b : Nat} (hs : zSt sh b)   {μ : zI} {ν : zJ} {out : (zI × zJ)} (hF : e_Follower_shorten_0 b   μ ν = some out) : Z l D dA ad sh m_Follower_shorten (zR 1 0 0) (zS ad) (zOv out) 0 0 0 0 [] 0 [(0, .ref (ad (b + 11)))] [] μ ν := by
  unfold e_Follower_shorten_0 at hF
  refine z_aload_n d_Follower_shorten_0 0 rfl rfl ?_
  refine z_iconst d_Follower_shorten_1 (v := 1) (by decide) ?_
  refine z_aload_n d_Follower_shorten_2 0 rfl rfl ?_
  refine z_get d_Follower_shorten_3 f_Follower_18 (hs 11 _ rfl) rfl ?_
  refine z_iconst d_Follower_shorten_6 (v := 2) (by decide) ?_
  refine z_idiv d_Follower_shorten_7 (by decide) ?_
  refine z_max d_Follower_shorten_8 l_Follower_58 ma_max_s ma_i ma_max_c ⟨Nat.le_of_ble_eq_true rfl, Nat.le_of_ble_eq_true rfl, Nat.zero_le _, Nat.zero_le _⟩ ?_
  refine z_put d_Follower_shorten_11 f_Follower_18 (hs 11 _ rfl) rfl (CL_fin _ _ (fun q hq => by cases hq; rfl)) rfl rfl ?_
  obtain ⟨μy1, hy1, hF⟩ := zh_let hF
  refine z_eqm hy1 ?_
  refine z_aload_n d_Follower_shorten_14 0 rfl rfl ?_
  refine z_iconst d_Follower_shorten_15 (v := 0) (by decide) ?_
  refine z_put d_Follower_shorten_16 f_Follower_21 (hs 11 _ rfl) rfl (CL_fin _ _ (fun q hq => by cases hq; rfl)) rfl rfl ?_
  obtain ⟨μy2, hy2, hF⟩ := zh_let hF
  refine z_eqm hy2 ?_
  cases hF
  exact z_return d_Follower_shorten_19 rfl ⟨rfl, rfl, rfl⟩
def E_Follower_shorten (b : Nat)  (μ : zI) (ν : zJ) : Option (zI × zJ) := e_Follower_shorten_0 b μ ν
theorem c_Follower_shorten {l : Launch} {D : va_G} {dA : Nat → ClassId} {ad : Nat → Nat} {sh : List zSE} {μ : zI} {ν : zJ} {b : Nat} (hs : zSt sh b) {out : (zI × zJ)} (hE : E_Follower_shorten b μ ν = some out) : zC l D dA ad sh m_Follower_shorten 1 0 0 [.ref (ad (b + 11))] μ ν (zOv out) :=
  zC.of (by decide) (Nat.le_of_ble_eq_true rfl) (z_Follower_shorten_0 hs hE)
def e_Follower_goUphill_61 (b : Nat)  (x3 : Int32) (μ : zI) (ν : zJ) : Option (zI × zJ) := some (μ, ν)
theorem z_Follower_goUphill_61 {l : Launch} {D : va_G} {dA : Nat → ClassId} {ad : Nat → Nat} {sh : List zSE}  {b : Nat} (hs : zSt sh b)  {x3 : Int32} {μ : zI} {ν : zJ} {out : (zI × zJ)} (hF : e_Follower_goUphill_61 b  x3 μ ν = some out) : Z l D dA ad sh m_Follower_goUphill (zR 2 0 0) (zS ad) (zOv out) 0 0 0 0 [] 61 [(0, .ref (ad (b + 11))), (1, .ref (ad (b + 3))), (2, .ref (ad (b + 1))), (3, .int x3)] [] μ ν := by
  unfold e_Follower_goUphill_61 at hF
  cases hF
  exact z_return d_Follower_goUphill_61 rfl ⟨rfl, rfl, rfl⟩
def e_Follower_goUphill_54 (b : Nat)  (x3 : Int32) (s1 : Int32) (μ : zI) (ν : zJ) : Option (zI × zJ) := zlet (zu μ (b + 11) 1 s1) fun μy1 => Option.bind (E_Follower_shorten b μy1 ν) fun ty2 => e_Follower_goUphill_61 b x3 ty2.1 ty2.2
theorem z_Follower_goUphill_54 {l : Launch} {D : va_G} {dA : Nat → ClassId} {ad : Nat → Nat} {sh : List zSE}  {b : Nat} (hs : zSt sh b)  {x3 : Int32} {s1 : Int32} {μ : zI} {ν : zJ} {out : (zI × zJ)} (hF : e_Follower_goUphill_54 b  x3 s1 μ ν = some out) : Z l D dA ad sh m_Follower_goUphill (zR 2 0 0) (zS ad) (zOv out) 0 0 0 0 [] 54 [(0, .ref (ad (b + 11))), (1, .ref (ad (b + 3))), (2, .ref (ad (b + 1))), (3, .int x3)] [.int s1, .ref (ad (b + 11))] μ ν := by
  unfold e_Follower_goUphill_54 at hF
  refine z_put d_Follower_goUphill_54 f_Follower_15 (hs 11 _ rfl) rfl (CL_fin _ _ (fun q hq => by cases hq; rfl)) rfl rfl ?_
  obtain ⟨μy1, hy1, hF⟩ := zh_let hF
  refine z_eqm hy1 ?_
  refine z_aload_n d_Follower_goUphill_57 0 rfl rfl ?_
  obtain ⟨ty2, hty2, hF⟩ := zh_bind hF
  refine z_callV d_Follower_goUphill_58 (c_Follower_shorten hs hty2) mv_Follower_shorten l_Follower_101 (fun _ _ h => h) (hs 11 _ rfl) rfl rfl ⟨Nat.le_of_ble_eq_true rfl, Nat.le_of_ble_eq_true rfl⟩ ⟨Nat.le_of_ble_eq_true rfl, Nat.le_of_ble_eq_true rfl⟩ rfl (Nat.le_of_ble_eq_true rfl) (fun r μ' ν' hq => ?_)
  obtain ⟨rfl, rfl, rfl⟩ := hq
  show Z _ _ _ _ _ _ _ _ _ _ _ 0 0 _ _ _ [] _ _
  exact z_Follower_goUphill_61 hs  hF
def e_Follower_goUphill_0 (b : Nat)   (μ : zI) (ν : zJ) : Option (zI × zJ) := Option.bind (E_Panel_steeperWay b (μ (b + 11) 0) μ ν) fun ty1 => zlet (α := Int32) ty1.1 fun y2 => Option.bind (E_Follower_moveTo b ((ty1.2.1 (b + 11) 0) + (y2 * (ty1.2.1 (b + 11) 2))) ty1.2.1 ty1.2.2) fun ty3 => (if y2 = (ty3.1 (b + 11) 1) then Option.bind (E_Follower_lengthen b ty3.1 ty3.2) fun ty6 => e_Follower_goUphill_61 b y2 ty6.1 ty6.2 else (if y2 = 0 then e_Follower_goUphill_54 b y2 (ty3.1 (b + 11) 1) ty3.1 ty3.2 else e_Follower_goUphill_54 b y2 y2 ty3.1 ty3.2))
theorem z_Follower_goUphill_0 {l : Launch} {D : va_G} {dA : Nat → ClassId} {ad : Nat → Nat} {sh : List zSE}  {b : Nat} (hs : zSt sh b)   {μ : zI} {ν : zJ} {out : (zI × zJ)} (hF : e_Follower_goUphill_0 b   μ ν = some out) : Z l D dA ad sh m_Follower_goUphill (zR 2 0 0) (zS ad) (zOv out) 0 0 0 0 [] 0 [(0, .ref (ad (b + 11))), (1, .ref (ad (b + 3))), (2, .ref (ad (b + 1)))] [] μ ν := by
  unfold e_Follower_goUphill_0 at hF
  refine z_aload_n d_Follower_goUphill_0 1 rfl rfl ?_
  refine z_aload_n d_Follower_goUphill_1 0 rfl rfl ?_
  refine z_get d_Follower_goUphill_2 f_Follower_9 (hs 11 _ rfl) rfl ?_
  obtain ⟨ty1, hty1, hF⟩ := zh_bind hF
  refine z_callV d_Follower_goUphill_5 (c_Panel_steeperWay hs hty1) mv_Panel_steeperWay l_Follower_94 (fun _ _ h => h) (hs 3 _ rfl) rfl rfl ⟨Nat.le_of_ble_eq_true rfl, Nat.le_of_ble_eq_true rfl⟩ ⟨Nat.le_of_ble_eq_true rfl, Nat.le_of_ble_eq_true rfl⟩ rfl (Nat.le_of_ble_eq_true rfl) (fun r μ' ν' hq => ?_)
  obtain ⟨rfl, rfl, rfl⟩ := hq
  show Z _ _ _ _ _ _ _ _ _ _ _ 0 0 _ _ _ [.int ty1.1] _ _
  obtain ⟨y2, hy2, hF⟩ := zh_let hF
  refine z_eqi hy2 ?_
  refine z_istore_n d_Follower_goUphill_8 rfl (by decide) (L2 := [(3, .int y2), (0, .ref (ad (b + 11))), (1, .ref (ad (b + 3))), (2, .ref (ad (b + 1)))]) rfl ?_
  refine z_aload_n d_Follower_goUphill_9 1 rfl rfl ?_
  refine z_aload_n d_Follower_goUphill_10 1 rfl rfl ?_
  refine z_get d_Follower_goUphill_11 f_Follower_9 (hs 11 _ rfl) rfl ?_
  refine z_iload_n d_Follower_goUphill_14 0 rfl rfl ?_
  refine z_aload_n d_Follower_goUphill_15 1 rfl rfl ?_
  refine z_get d_Follower_goUphill_16 f_Follower_18 (hs 11 _ rfl) rfl ?_
  refine z_imul d_Follower_goUphill_19 ?_
  refine z_iadd d_Follower_goUphill_20 ?_
  refine z_aload_n d_Follower_goUphill_21 2 rfl rfl ?_
  obtain ⟨ty3, hty3, hF⟩ := zh_bind hF
  refine z_callV d_Follower_goUphill_22 (c_Follower_moveTo hs hty3) mv_Follower_moveTo l_Follower_74 (fun _ _ h => h) (hs 11 _ rfl) rfl rfl ⟨Nat.le_of_ble_eq_true rfl, Nat.le_of_ble_eq_true rfl⟩ ⟨Nat.le_of_ble_eq_true rfl, Nat.le_of_ble_eq_true rfl⟩ rfl (Nat.le_of_ble_eq_true rfl) (fun r μ' ν' hq => ?_)
  obtain ⟨rfl, rfl, rfl⟩ := hq
  show Z _ _ _ _ _ _ _ _ _ _ _ 0 0 _ _ _ [] _ _
  refine z_iload_n d_Follower_goUphill_25 0 rfl rfl ?_
  refine z_aload_n d_Follower_goUphill_26 1 rfl rfl ?_
  refine z_get d_Follower_goUphill_27 f_Follower_15 (hs 11 _ rfl) rfl ?_
  refine z_icmp_ne d_Follower_goUphill_30 (tgt := 41) (by decide) (fun cy4 => ?_) (fun cy4 => ?_)
  · replace hF := zh_f cy4 hF
    refine z_aload_n d_Follower_goUphill_41 1 rfl rfl ?_
    refine z_iload_n d_Follower_goUphill_42 0 rfl rfl ?_
    refine z_if_ne d_Follower_goUphill_43 (tgt := 53) (by decide) (fun cy5 => ?_) (fun cy5 => ?_)
    · replace hF := zh_f cy5 hF
      refine z_iload_n d_Follower_goUphill_53 0 rfl rfl ?_
      refine z_sub [1, 2, 3, 0] (L' := [(0, .ref (ad (b + 11))), (1, .ref (ad (b + 3))), (2, .ref (ad (b + 1))), (3, .int y2)]) rfl ?_
      exact z_Follower_goUphill_54 hs  hF
    · replace hF := zh_t cy5 hF
      refine z_aload_n d_Follower_goUphill_46 1 rfl rfl ?_
      refine z_get d_Follower_goUphill_47 f_Follower_15 (hs 11 _ rfl) rfl ?_
      refine z_goto d_Follower_goUphill_50 (tgt := 54) (by decide) ?_
      refine z_sub [1, 2, 3, 0] (L' := [(0, .ref (ad (b + 11))), (1, .ref (ad (b + 3))), (2, .ref (ad (b + 1))), (3, .int y2)]) rfl ?_
      exact z_Follower_goUphill_54 hs  hF
  · replace hF := zh_t cy4 hF
    refine z_aload_n d_Follower_goUphill_33 1 rfl rfl ?_
    refine z_aload_n d_Follower_goUphill_34 3 rfl rfl ?_
    obtain ⟨ty6, hty6, hF⟩ := zh_bind hF
    refine z_callV d_Follower_goUphill_35 (c_Follower_lengthen hs hty6) mv_Follower_lengthen l_Follower_97 (fun _ _ h => h) (hs 11 _ rfl) rfl rfl ⟨Nat.le_of_ble_eq_true rfl, Nat.le_of_ble_eq_true rfl⟩ ⟨Nat.le_of_ble_eq_true rfl, Nat.le_of_ble_eq_true rfl⟩ rfl (Nat.le_of_ble_eq_true rfl) (fun r μ' ν' hq => ?_)
    obtain ⟨rfl, rfl, rfl⟩ := hq
    show Z _ _ _ _ _ _ _ _ _ _ _ 0 0 _ _ _ [] _ _
    refine z_goto d_Follower_goUphill_38 (tgt := 61) (by decide) ?_
    refine z_sub [1, 2, 3, 0] (L' := [(0, .ref (ad (b + 11))), (1, .ref (ad (b + 3))), (2, .ref (ad (b + 1))), (3, .int y2)]) rfl ?_
    exact z_Follower_goUphill_61 hs  hF
def E_Follower_goUphill (b : Nat)  (μ : zI) (ν : zJ) : Option (zI × zJ) := e_Follower_goUphill_0 b μ ν
theorem c_Follower_goUphill {l : Launch} {D : va_G} {dA : Nat → ClassId} {ad : Nat → Nat} {sh : List zSE} {μ : zI} {ν : zJ} {b : Nat} (hs : zSt sh b) {out : (zI × zJ)} (hE : E_Follower_goUphill b μ ν = some out) : zC l D dA ad sh m_Follower_goUphill 2 0 0 [.ref (ad (b + 11)), .ref (ad (b + 3)), .ref (ad (b + 1))] μ ν (zOv out) :=
  zC.of (by decide) (Nat.le_of_ble_eq_true rfl) (z_Follower_goUphill_0 hs hE)
def e_Follower_climb_51 (b : Nat)   (μ : zI) (ν : zJ) : Option (zI × zJ) := some (μ, ν)
theorem z_Follower_climb_51 {l : Launch} {D : va_G} {dA : Nat → ClassId} {ad : Nat → Nat} {sh : List zSE}  {b : Nat} (hs : zSt sh b)   {μ : zI} {ν : zJ} {out : (zI × zJ)} (hF : e_Follower_climb_51 b   μ ν = some out) : Z l D dA ad sh m_Follower_climb (zR 2 0 0) (zS ad) (zOv out) 0 0 0 0 [] 51 [(0, .ref (ad (b + 11))), (1, .ref (ad (b + 3))), (2, .ref (ad (b + 1)))] [] μ ν := by
  unfold e_Follower_climb_51 at hF
  cases hF
  exact z_return d_Follower_climb_51 rfl ⟨rfl, rfl, rfl⟩
def e_Follower_climb_0 (b : Nat)   (μ : zI) (ν : zJ) : Option (zI × zJ) := Option.bind (E_Follower_moveTo b ((μ (b + 11) 0) + ((μ (b + 11) 1) * (μ (b + 11) 2))) μ ν) fun ty1 => (if (ty1.1 (b + 11) 6) ≤ (ty1.1 (b + 11) 4) then zlet (zu ty1.1 (b + 11) 1 (-(ty1.1 (b + 11) 1))) fun μy3 => Option.bind (E_Follower_shorten b μy3 ty1.2) fun ty4 => e_Follower_climb_51 b ty4.1 ty4.2 else Option.bind (E_Follower_lengthen b ty1.1 ty1.2) fun ty5 => e_Follower_climb_51 b ty5.1 ty5.2)
theorem z_Follower_climb_0 {l : Launch} {D : va_G} {dA : Nat → ClassId} {ad : Nat → Nat} {sh : List zSE}  {b : Nat} (hs : zSt sh b)   {μ : zI} {ν : zJ} {out : (zI × zJ)} (hF : e_Follower_climb_0 b   μ ν = some out) : Z l D dA ad sh m_Follower_climb (zR 2 0 0) (zS ad) (zOv out) 0 0 0 0 [] 0 [(0, .ref (ad (b + 11))), (1, .ref (ad (b + 3))), (2, .ref (ad (b + 1)))] [] μ ν := by
  unfold e_Follower_climb_0 at hF
  refine z_aload_n d_Follower_climb_0 0 rfl rfl ?_
  refine z_aload_n d_Follower_climb_1 0 rfl rfl ?_
  refine z_get d_Follower_climb_2 f_Follower_9 (hs 11 _ rfl) rfl ?_
  refine z_aload_n d_Follower_climb_5 0 rfl rfl ?_
  refine z_get d_Follower_climb_6 f_Follower_15 (hs 11 _ rfl) rfl ?_
  refine z_aload_n d_Follower_climb_9 0 rfl rfl ?_
  refine z_get d_Follower_climb_10 f_Follower_18 (hs 11 _ rfl) rfl ?_
  refine z_imul d_Follower_climb_13 ?_
  refine z_iadd d_Follower_climb_14 ?_
  refine z_aload_n d_Follower_climb_15 1 rfl rfl ?_
  obtain ⟨ty1, hty1, hF⟩ := zh_bind hF
  refine z_callV d_Follower_climb_16 (c_Follower_moveTo hs hty1) mv_Follower_moveTo l_Follower_74 (fun _ _ h => h) (hs 11 _ rfl) rfl rfl ⟨Nat.le_of_ble_eq_true rfl, Nat.le_of_ble_eq_true rfl⟩ ⟨Nat.le_of_ble_eq_true rfl, Nat.le_of_ble_eq_true rfl⟩ rfl (Nat.le_of_ble_eq_true rfl) (fun r μ' ν' hq => ?_)
  obtain ⟨rfl, rfl, rfl⟩ := hq
  show Z _ _ _ _ _ _ _ _ _ _ _ 0 0 _ _ _ [] _ _
  refine z_aload_n d_Follower_climb_19 0 rfl rfl ?_
  refine z_get d_Follower_climb_20 f_Follower_30 (hs 11 _ rfl) rfl ?_
  refine z_aload_n d_Follower_climb_23 0 rfl rfl ?_
  refine z_get d_Follower_climb_24 f_Follower_24 (hs 11 _ rfl) rfl ?_
  refine z_icmp_le d_Follower_climb_27 (tgt := 38) (by decide) (fun cy2 => ?_) (fun cy2 => ?_)
  · replace hF := zh_t cy2 hF
    refine z_aload_n d_Follower_climb_38 0 rfl rfl ?_
    refine z_aload_n d_Follower_climb_39 0 rfl rfl ?_
    refine z_get d_Follower_climb_40 f_Follower_15 (hs 11 _ rfl) rfl ?_
    refine z_ineg d_Follower_climb_43 ?_
    refine z_put d_Follower_climb_44 f_Follower_15 (hs 11 _ rfl) rfl (CL_fin _ _ (fun q hq => by cases hq; rfl)) rfl rfl ?_
    obtain ⟨μy3, hy3, hF⟩ := zh_let hF
    refine z_eqm hy3 ?_
    refine z_aload_n d_Follower_climb_47 0 rfl rfl ?_
    obtain ⟨ty4, hty4, hF⟩ := zh_bind hF
    refine z_callV d_Follower_climb_48 (c_Follower_shorten hs hty4) mv_Follower_shorten l_Follower_101 (fun _ _ h => h) (hs 11 _ rfl) rfl rfl ⟨Nat.le_of_ble_eq_true rfl, Nat.le_of_ble_eq_true rfl⟩ ⟨Nat.le_of_ble_eq_true rfl, Nat.le_of_ble_eq_true rfl⟩ rfl (Nat.le_of_ble_eq_true rfl) (fun r μ' ν' hq => ?_)
    obtain ⟨rfl, rfl, rfl⟩ := hq
    show Z _ _ _ _ _ _ _ _ _ _ _ 0 0 _ _ _ [] _ _
    exact z_Follower_climb_51 hs  hF
  · replace hF := zh_f cy2 hF
    refine z_aload_n d_Follower_climb_30 0 rfl rfl ?_
    refine z_aload_n d_Follower_climb_31 2 rfl rfl ?_
    obtain ⟨ty5, hty5, hF⟩ := zh_bind hF
    refine z_callV d_Follower_climb_32 (c_Follower_lengthen hs hty5) mv_Follower_lengthen l_Follower_97 (fun _ _ h => h) (hs 11 _ rfl) rfl rfl ⟨Nat.le_of_ble_eq_true rfl, Nat.le_of_ble_eq_true rfl⟩ ⟨Nat.le_of_ble_eq_true rfl, Nat.le_of_ble_eq_true rfl⟩ rfl (Nat.le_of_ble_eq_true rfl) (fun r μ' ν' hq => ?_)
    obtain ⟨rfl, rfl, rfl⟩ := hq
    show Z _ _ _ _ _ _ _ _ _ _ _ 0 0 _ _ _ [] _ _
    refine z_goto d_Follower_climb_35 (tgt := 51) (by decide) ?_
    exact z_Follower_climb_51 hs  hF
def E_Follower_climb (b : Nat)  (μ : zI) (ν : zJ) : Option (zI × zJ) := e_Follower_climb_0 b μ ν
theorem c_Follower_climb {l : Launch} {D : va_G} {dA : Nat → ClassId} {ad : Nat → Nat} {sh : List zSE} {μ : zI} {ν : zJ} {b : Nat} (hs : zSt sh b) {out : (zI × zJ)} (hE : E_Follower_climb b μ ν = some out) : zC l D dA ad sh m_Follower_climb 2 0 0 [.ref (ad (b + 11)), .ref (ad (b + 3)), .ref (ad (b + 1))] μ ν (zOv out) :=
  zC.of (by decide) (Nat.le_of_ble_eq_true rfl) (z_Follower_climb_0 hs hE)
def e_Follower_wantsScan_54 (b : Nat)  (x2 : Int32) (x3 : Int32) (s0 : Int32) (μ : zI) (ν : zJ) : Option (Int32 × zI × zJ) := (if zb s0 = true then some (s0, μ, ν) else none)
theorem z_Follower_wantsScan_54 {l : Launch} {D : va_G} {dA : Nat → ClassId} {ad : Nat → Nat} {sh : List zSE}  {b : Nat} (hs : zSt sh b)  {x2 : Int32} {x3 : Int32} {s0 : Int32} {μ : zI} {ν : zJ} {out : (Int32 × zI × zJ)} (hF : e_Follower_wantsScan_54 b  x2 x3 s0 μ ν = some out) : Z l D dA ad sh m_Follower_wantsScan (zR 1 0 0) (zS ad) (zOi out) 0 0 0 0 [] 54 [(0, .ref (ad (b + 11))), (1, .ref (ad (b + 1))), (2, .int x2), (3, .int x3)] [.int s0] μ ν := by
  unfold e_Follower_wantsScan_54 at hF
  obtain ⟨hy1, hF⟩ := zh_if hF
  cases hF
  exact z_ireturn d_Follower_wantsScan_54 rfl (zb_n hy1) ⟨rfl, rfl, rfl⟩
def e_Follower_wantsScan_49 (b : Nat)  (x2 : Int32) (x3 : Int32) (μ : zI) (ν : zJ) : Option (Int32 × zI × zJ) := e_Follower_wantsScan_54 b x2 x3 1 μ ν
theorem z_Follower_wantsScan_49 {l : Launch} {D : va_G} {dA : Nat → ClassId} {ad : Nat → Nat} {sh : List zSE}  {b : Nat} (hs : zSt sh b)  {x2 : Int32} {x3 : Int32} {μ : zI} {ν : zJ} {out : (Int32 × zI × zJ)} (hF : e_Follower_wantsScan_49 b  x2 x3 μ ν = some out) : Z l D dA ad sh m_Follower_wantsScan (zR 1 0 0) (zS ad) (zOi out) 0 0 0 0 [] 49 [(0, .ref (ad (b + 11))), (1, .ref (ad (b + 1))), (2, .int x2), (3, .int x3)] [] μ ν := by
  unfold e_Follower_wantsScan_49 at hF
  refine z_iconst d_Follower_wantsScan_49 (v := 1) (by decide) ?_
  refine z_goto d_Follower_wantsScan_50 (tgt := 54) (by decide) ?_
  exact z_Follower_wantsScan_54 hs  hF
def e_Follower_wantsScan_53 (b : Nat)  (x2 : Int32) (x3 : Int32) (μ : zI) (ν : zJ) : Option (Int32 × zI × zJ) := e_Follower_wantsScan_54 b x2 x3 0 μ ν
theorem z_Follower_wantsScan_53 {l : Launch} {D : va_G} {dA : Nat → ClassId} {ad : Nat → Nat} {sh : List zSE}  {b : Nat} (hs : zSt sh b)  {x2 : Int32} {x3 : Int32} {μ : zI} {ν : zJ} {out : (Int32 × zI × zJ)} (hF : e_Follower_wantsScan_53 b  x2 x3 μ ν = some out) : Z l D dA ad sh m_Follower_wantsScan (zR 1 0 0) (zS ad) (zOi out) 0 0 0 0 [] 53 [(0, .ref (ad (b + 11))), (1, .ref (ad (b + 1))), (2, .int x2), (3, .int x3)] [] μ ν := by
  unfold e_Follower_wantsScan_53 at hF
  refine z_iconst d_Follower_wantsScan_53 (v := 0) (by decide) ?_
  exact z_Follower_wantsScan_54 hs  hF
def e_Follower_wantsScan_26 (b : Nat)  (x2 : Int32) (x3 : Int32) (μ : zI) (ν : zJ) : Option (Int32 × zI × zJ) := (if x3 ≤ 0 then e_Follower_wantsScan_53 b x2 x3 μ ν else (if ((μ (b + 11) 4) * (100 - x3)) ≤ ((μ (b + 11) 6) * 100) then e_Follower_wantsScan_53 b x2 x3 μ ν else e_Follower_wantsScan_49 b x2 x3 μ ν))
theorem z_Follower_wantsScan_26 {l : Launch} {D : va_G} {dA : Nat → ClassId} {ad : Nat → Nat} {sh : List zSE}  {b : Nat} (hs : zSt sh b)  {x2 : Int32} {x3 : Int32} {μ : zI} {ν : zJ} {out : (Int32 × zI × zJ)} (hF : e_Follower_wantsScan_26 b  x2 x3 μ ν = some out) : Z l D dA ad sh m_Follower_wantsScan (zR 1 0 0) (zS ad) (zOi out) 0 0 0 0 [] 26 [(0, .ref (ad (b + 11))), (1, .ref (ad (b + 1))), (2, .int x2), (3, .int x3)] [] μ ν := by
  unfold e_Follower_wantsScan_26 at hF
  refine z_iload_n d_Follower_wantsScan_26 3 rfl rfl ?_
  refine z_if_le d_Follower_wantsScan_27 (tgt := 53) (by decide) (fun cy1 => ?_) (fun cy1 => ?_)
  · replace hF := zh_t cy1 hF
    exact z_Follower_wantsScan_53 hs  hF
  · replace hF := zh_f cy1 hF
    refine z_aload_n d_Follower_wantsScan_30 0 rfl rfl ?_
    refine z_get d_Follower_wantsScan_31 f_Follower_30 (hs 11 _ rfl) rfl ?_
    refine z_bipush d_Follower_wantsScan_34 (v := 100) (by decide) ?_
    refine z_imul d_Follower_wantsScan_36 ?_
    refine z_aload_n d_Follower_wantsScan_37 0 rfl rfl ?_
    refine z_get d_Follower_wantsScan_38 f_Follower_24 (hs 11 _ rfl) rfl ?_
    refine z_bipush d_Follower_wantsScan_41 (v := 100) (by decide) ?_
    refine z_iload_n d_Follower_wantsScan_43 3 rfl rfl ?_
    refine z_isub d_Follower_wantsScan_44 ?_
    refine z_imul d_Follower_wantsScan_45 ?_
    refine z_icmp_ge d_Follower_wantsScan_46 (tgt := 53) (by decide) (fun cy2 => ?_) (fun cy2 => ?_)
    · replace hF := zh_t cy2 hF
      exact z_Follower_wantsScan_53 hs  hF
    · replace hF := zh_f cy2 hF
      exact z_Follower_wantsScan_49 hs  hF
def e_Follower_wantsScan_0 (b : Nat)   (μ : zI) (ν : zJ) : Option (Int32 × zI × zJ) := Option.bind (E_Told_get b 15 μ ν) fun ty1 => zlet (α := Int32) ty1.1 fun y2 => Option.bind (E_Told_get b 16 ty1.2.1 ty1.2.2) fun ty3 => zlet (α := Int32) ty3.1 fun y4 => (if y2 ≤ 0 then e_Follower_wantsScan_26 b y2 y4 ty3.2.1 ty3.2.2 else (if y2 ≤ (ty3.2.1 (b + 11) 5) then e_Follower_wantsScan_49 b y2 y4 ty3.2.1 ty3.2.2 else e_Follower_wantsScan_26 b y2 y4 ty3.2.1 ty3.2.2))
theorem z_Follower_wantsScan_0 {l : Launch} {D : va_G} {dA : Nat → ClassId} {ad : Nat → Nat} {sh : List zSE}  {b : Nat} (hs : zSt sh b)   {μ : zI} {ν : zJ} {out : (Int32 × zI × zJ)} (hF : e_Follower_wantsScan_0 b   μ ν = some out) : Z l D dA ad sh m_Follower_wantsScan (zR 1 0 0) (zS ad) (zOi out) 0 0 0 0 [] 0 [(0, .ref (ad (b + 11))), (1, .ref (ad (b + 1)))] [] μ ν := by
  unfold e_Follower_wantsScan_0 at hF
  refine z_aload_n d_Follower_wantsScan_0 1 rfl rfl ?_
  refine z_bipush d_Follower_wantsScan_1 (v := 15) (by decide) ?_
  obtain ⟨ty1, hty1, hF⟩ := zh_bind hF
  refine z_callV d_Follower_wantsScan_3 (c_Told_get hs hty1) mv_Told_get l_Follower_67 (fun _ _ h => h) (hs 1 _ rfl) rfl rfl ⟨Nat.le_of_ble_eq_true rfl, Nat.le_of_ble_eq_true rfl⟩ ⟨Nat.le_of_ble_eq_true rfl, Nat.le_of_ble_eq_true rfl⟩ rfl (Nat.le_of_ble_eq_true rfl) (fun r μ' ν' hq => ?_)
  obtain ⟨rfl, rfl, rfl⟩ := hq
  show Z _ _ _ _ _ _ _ _ _ _ _ 0 0 _ _ _ [.int ty1.1] _ _
  obtain ⟨y2, hy2, hF⟩ := zh_let hF
  refine z_eqi hy2 ?_
  refine z_istore_n d_Follower_wantsScan_6 rfl (by decide) (L2 := [(2, .int y2), (0, .ref (ad (b + 11))), (1, .ref (ad (b + 1)))]) rfl ?_
  refine z_aload_n d_Follower_wantsScan_7 2 rfl rfl ?_
  refine z_bipush d_Follower_wantsScan_8 (v := 16) (by decide) ?_
  obtain ⟨ty3, hty3, hF⟩ := zh_bind hF
  refine z_callV d_Follower_wantsScan_10 (c_Told_get hs hty3) mv_Told_get l_Follower_67 (fun _ _ h => h) (hs 1 _ rfl) rfl rfl ⟨Nat.le_of_ble_eq_true rfl, Nat.le_of_ble_eq_true rfl⟩ ⟨Nat.le_of_ble_eq_true rfl, Nat.le_of_ble_eq_true rfl⟩ rfl (Nat.le_of_ble_eq_true rfl) (fun r μ' ν' hq => ?_)
  obtain ⟨rfl, rfl, rfl⟩ := hq
  show Z _ _ _ _ _ _ _ _ _ _ _ 0 0 _ _ _ [.int ty3.1] _ _
  obtain ⟨y4, hy4, hF⟩ := zh_let hF
  refine z_eqi hy4 ?_
  refine z_istore_n d_Follower_wantsScan_13 rfl (by decide) (L2 := [(3, .int y4), (2, .int y2), (0, .ref (ad (b + 11))), (1, .ref (ad (b + 1)))]) rfl ?_
  refine z_iload_n d_Follower_wantsScan_14 1 rfl rfl ?_
  refine z_if_le d_Follower_wantsScan_15 (tgt := 26) (by decide) (fun cy5 => ?_) (fun cy5 => ?_)
  · replace hF := zh_t cy5 hF
    refine z_sub [2, 3, 1, 0] (L' := [(0, .ref (ad (b + 11))), (1, .ref (ad (b + 1))), (2, .int y2), (3, .int y4)]) rfl ?_
    exact z_Follower_wantsScan_26 hs  hF
  · replace hF := zh_f cy5 hF
    refine z_aload_n d_Follower_wantsScan_18 2 rfl rfl ?_
    refine z_get d_Follower_wantsScan_19 f_Follower_27 (hs 11 _ rfl) rfl ?_
    refine z_iload_n d_Follower_wantsScan_22 1 rfl rfl ?_
    refine z_icmp_ge d_Follower_wantsScan_23 (tgt := 49) (by decide) (fun cy6 => ?_) (fun cy6 => ?_)
    · replace hF := zh_t cy6 hF
      refine z_sub [2, 3, 1, 0] (L' := [(0, .ref (ad (b + 11))), (1, .ref (ad (b + 1))), (2, .int y2), (3, .int y4)]) rfl ?_
      exact z_Follower_wantsScan_49 hs  hF
    · replace hF := zh_f cy6 hF
      refine z_sub [2, 3, 1, 0] (L' := [(0, .ref (ad (b + 11))), (1, .ref (ad (b + 1))), (2, .int y2), (3, .int y4)]) rfl ?_
      exact z_Follower_wantsScan_26 hs  hF
def E_Follower_wantsScan (b : Nat)  (μ : zI) (ν : zJ) : Option (Int32 × zI × zJ) := e_Follower_wantsScan_0 b μ ν
theorem c_Follower_wantsScan {l : Launch} {D : va_G} {dA : Nat → ClassId} {ad : Nat → Nat} {sh : List zSE} {μ : zI} {ν : zJ} {b : Nat} (hs : zSt sh b) {out : (Int32 × zI × zJ)} (hE : E_Follower_wantsScan b μ ν = some out) : zC l D dA ad sh m_Follower_wantsScan 1 0 0 [.ref (ad (b + 11)), .ref (ad (b + 1))] μ ν (zOi out) :=
  zC.of (by decide) (Nat.le_of_ble_eq_true rfl) (z_Follower_wantsScan_0 hs hE)
def e_Follower_beginScan_0 (b : Nat)   (μ : zI) (ν : zJ) : Option (zI × zJ) := zlet (zu μ (b + 11) 7 1) fun μy1 => zlet (zu μy1 (b + 11) 10 0) fun μy2 => some (μy2, ν)
theorem z_Follower_beginScan_0 {l : Launch} {D : va_G} {dA : Nat → ClassId} {ad : Nat → Nat} {sh : List zSE}  {b : Nat} (hs : zSt sh b)   {μ : zI} {ν : zJ} {out : (zI × zJ)} (hF : e_Follower_beginScan_0 b   μ ν = some out) : Z l D dA ad sh m_Follower_beginScan (zR 0 0 0) (zS ad) (zOv out) 0 0 0 0 [] 0 [(0, .ref (ad (b + 11)))] [] μ ν := by
  unfold e_Follower_beginScan_0 at hF
  refine z_aload_n d_Follower_beginScan_0 0 rfl rfl ?_
  refine z_iconst d_Follower_beginScan_1 (v := 1) (by decide) ?_
  refine z_put d_Follower_beginScan_2 f_Follower_33 (hs 11 _ rfl) rfl (CL_fin _ _ (fun q hq => by cases hq; rfl)) (by decide) (by decide) ?_
  obtain ⟨μy1, hy1, hF⟩ := zh_let hF
  refine z_eqm hy1 ?_
  refine z_aload_n d_Follower_beginScan_5 0 rfl rfl ?_
  refine z_iconst d_Follower_beginScan_6 (v := 0) (by decide) ?_
  refine z_put d_Follower_beginScan_7 f_Follower_43 (hs 11 _ rfl) rfl (CL_fin _ _ (fun q hq => by cases hq; rfl)) (by decide) (by decide) ?_
  obtain ⟨μy2, hy2, hF⟩ := zh_let hF
  refine z_eqm hy2 ?_
  cases hF
  exact z_return d_Follower_beginScan_10 rfl ⟨rfl, rfl, rfl⟩
def E_Follower_beginScan (b : Nat)  (μ : zI) (ν : zJ) : Option (zI × zJ) := e_Follower_beginScan_0 b μ ν
theorem c_Follower_beginScan {l : Launch} {D : va_G} {dA : Nat → ClassId} {ad : Nat → Nat} {sh : List zSE} {μ : zI} {ν : zJ} {b : Nat} (hs : zSt sh b) {out : (zI × zJ)} (hE : E_Follower_beginScan b μ ν = some out) : zC l D dA ad sh m_Follower_beginScan 0 0 0 [.ref (ad (b + 11))] μ ν (zOv out) :=
  zC.of (by decide) (Nat.le_of_ble_eq_true rfl) (z_Follower_beginScan_0 hs hE)
def e_Follower_seek_97 (b : Nat)   (μ : zI) (ν : zJ) : Option (zI × zJ) := zlet (zu μ (b + 11) 4 (μ (b + 11) 6)) fun μy1 => some (μy1, ν)
theorem z_Follower_seek_97 {l : Launch} {D : va_G} {dA : Nat → ClassId} {ad : Nat → Nat} {sh : List zSE}  {b : Nat} (hs : zSt sh b)   {μ : zI} {ν : zJ} {out : (zI × zJ)} (hF : e_Follower_seek_97 b   μ ν = some out) : Z l D dA ad sh m_Follower_seek (zR 3 0 0) (zS ad) (zOv out) 0 0 0 0 [] 97 [(0, .ref (ad (b + 11))), (1, .ref (ad (b + 3))), (2, .ref (ad (b + 1)))] [] μ ν := by
  unfold e_Follower_seek_97 at hF
  refine z_aload_n d_Follower_seek_97 0 rfl rfl ?_
  refine z_aload_n d_Follower_seek_98 0 rfl rfl ?_
  refine z_get d_Follower_seek_99 f_Follower_30 (hs 11 _ rfl) rfl ?_
  refine z_put d_Follower_seek_102 f_Follower_24 (hs 11 _ rfl) rfl (CL_fin _ _ (fun q hq => by cases hq; rfl)) rfl rfl ?_
  obtain ⟨μy1, hy1, hF⟩ := zh_let hF
  refine z_eqm hy1 ?_
  cases hF
  exact z_return d_Follower_seek_105 rfl ⟨rfl, rfl, rfl⟩
def e_Follower_seek_85 (b : Nat)   (μ : zI) (ν : zJ) : Option (zI × zJ) := Option.bind (E_Follower_wantsScan b μ ν) fun ty1 => (if ty1.1 = 0 then e_Follower_seek_97 b ty1.2.1 ty1.2.2 else Option.bind (E_Follower_beginScan b ty1.2.1 ty1.2.2) fun ty3 => e_Follower_seek_97 b ty3.1 ty3.2)
theorem z_Follower_seek_85 {l : Launch} {D : va_G} {dA : Nat → ClassId} {ad : Nat → Nat} {sh : List zSE}  {b : Nat} (hs : zSt sh b)   {μ : zI} {ν : zJ} {out : (zI × zJ)} (hF : e_Follower_seek_85 b   μ ν = some out) : Z l D dA ad sh m_Follower_seek (zR 3 0 0) (zS ad) (zOv out) 0 0 0 0 [] 85 [(0, .ref (ad (b + 11))), (1, .ref (ad (b + 3))), (2, .ref (ad (b + 1)))] [] μ ν := by
  unfold e_Follower_seek_85 at hF
  refine z_aload_n d_Follower_seek_85 0 rfl rfl ?_
  refine z_aload_n d_Follower_seek_86 2 rfl rfl ?_
  obtain ⟨ty1, hty1, hF⟩ := zh_bind hF
  refine z_callV d_Follower_seek_87 (c_Follower_wantsScan hs hty1) mv_Follower_wantsScan l_Follower_87 (fun _ _ h => h) (hs 11 _ rfl) rfl rfl ⟨Nat.le_of_ble_eq_true rfl, Nat.le_of_ble_eq_true rfl⟩ ⟨Nat.le_of_ble_eq_true rfl, Nat.le_of_ble_eq_true rfl⟩ rfl (Nat.le_of_ble_eq_true rfl) (fun r μ' ν' hq => ?_)
  obtain ⟨rfl, rfl, rfl⟩ := hq
  show Z _ _ _ _ _ _ _ _ _ _ _ 0 0 _ _ _ [.int ty1.1] _ _
  refine z_if_eq d_Follower_seek_90 (tgt := 97) (by decide) (fun cy2 => ?_) (fun cy2 => ?_)
  · replace hF := zh_t cy2 hF
    exact z_Follower_seek_97 hs  hF
  · replace hF := zh_f cy2 hF
    refine z_aload_n d_Follower_seek_93 0 rfl rfl ?_
    obtain ⟨ty3, hty3, hF⟩ := zh_bind hF
    refine z_callV d_Follower_seek_94 (c_Follower_beginScan hs hty3) mv_Follower_beginScan l_Follower_91 (fun _ _ h => h) (hs 11 _ rfl) rfl rfl ⟨Nat.le_of_ble_eq_true rfl, Nat.le_of_ble_eq_true rfl⟩ ⟨Nat.le_of_ble_eq_true rfl, Nat.le_of_ble_eq_true rfl⟩ rfl (Nat.le_of_ble_eq_true rfl) (fun r μ' ν' hq => ?_)
    obtain ⟨rfl, rfl, rfl⟩ := hq
    show Z _ _ _ _ _ _ _ _ _ _ _ 0 0 _ _ _ [] _ _
    exact z_Follower_seek_97 hs  hF
def e_Follower_seek_0 (b : Nat)   (μ : zI) (ν : zJ) : Option (zI × zJ) := zlet (zu μ (b + 11) 8 0) fun μy1 => zlet (zu μy1 (b + 11) 9 0) fun μy2 => zlet (zu μy2 (b + 11) 5 ((μy2 (b + 11) 5) + 1)) fun μy3 => Option.bind (E_Told_get b 17 μy3 ν) fun ty4 => (if ty4.1 = 1 then Option.bind (E_Follower_goUphill b ty4.2.1 ty4.2.2) fun ty7 => e_Follower_seek_85 b ty7.1 ty7.2 else (if ty4.1 = 2 then Option.bind (E_Told_get b 18 ty4.2.1 ty4.2.2) fun ty8 => Option.bind (E_Panel_pointOfShare b ty8.1 ty8.2.1 ty8.2.2) fun ty9 => Option.bind (E_Follower_moveTo b ty9.1 ty9.2.1 ty9.2.2) fun ty10 => e_Follower_seek_85 b ty10.1 ty10.2 else Option.bind (E_Follower_climb b ty4.2.1 ty4.2.2) fun ty11 => e_Follower_seek_85 b ty11.1 ty11.2))
theorem z_Follower_seek_0 {l : Launch} {D : va_G} {dA : Nat → ClassId} {ad : Nat → Nat} {sh : List zSE}  {b : Nat} (hs : zSt sh b)   {μ : zI} {ν : zJ} {out : (zI × zJ)} (hF : e_Follower_seek_0 b   μ ν = some out) : Z l D dA ad sh m_Follower_seek (zR 3 0 0) (zS ad) (zOv out) 0 0 0 0 [] 0 [(0, .ref (ad (b + 11))), (1, .ref (ad (b + 3))), (2, .ref (ad (b + 1)))] [] μ ν := by
  unfold e_Follower_seek_0 at hF
  refine z_aload_n d_Follower_seek_0 0 rfl rfl ?_
  refine z_iconst d_Follower_seek_1 (v := 0) (by decide) ?_
  refine z_put d_Follower_seek_2 f_Follower_37 (hs 11 _ rfl) rfl (CL_fin _ _ (fun q hq => by cases hq; rfl)) (by decide) (by decide) ?_
  obtain ⟨μy1, hy1, hF⟩ := zh_let hF
  refine z_eqm hy1 ?_
  refine z_aload_n d_Follower_seek_5 0 rfl rfl ?_
  refine z_iconst d_Follower_seek_6 (v := 0) (by decide) ?_
  refine z_put d_Follower_seek_7 f_Follower_40 (hs 11 _ rfl) rfl (CL_fin _ _ (fun q hq => by cases hq; rfl)) (by decide) (by decide) ?_
  obtain ⟨μy2, hy2, hF⟩ := zh_let hF
  refine z_eqm hy2 ?_
  refine z_aload_n d_Follower_seek_10 0 rfl rfl ?_
  refine z_dup d_Follower_seek_11 rfl ?_
  refine z_get d_Follower_seek_12 f_Follower_27 (hs 11 _ rfl) rfl ?_
  refine z_iconst d_Follower_seek_15 (v := 1) (by decide) ?_
  refine z_iadd d_Follower_seek_16 ?_
  refine z_put d_Follower_seek_17 f_Follower_27 (hs 11 _ rfl) rfl (CL_fin _ _ (fun q hq => by cases hq; rfl)) rfl rfl ?_
  obtain ⟨μy3, hy3, hF⟩ := zh_let hF
  refine z_eqm hy3 ?_
  refine z_aload_n d_Follower_seek_20 2 rfl rfl ?_
  refine z_bipush d_Follower_seek_21 (v := 17) (by decide) ?_
  obtain ⟨ty4, hty4, hF⟩ := zh_bind hF
  refine z_callV d_Follower_seek_23 (c_Told_get hs hty4) mv_Told_get l_Follower_67 (fun _ _ h => h) (hs 1 _ rfl) rfl rfl ⟨Nat.le_of_ble_eq_true rfl, Nat.le_of_ble_eq_true rfl⟩ ⟨Nat.le_of_ble_eq_true rfl, Nat.le_of_ble_eq_true rfl⟩ rfl (Nat.le_of_ble_eq_true rfl) (fun r μ' ν' hq => ?_)
  obtain ⟨rfl, rfl, rfl⟩ := hq
  show Z _ _ _ _ _ _ _ _ _ _ _ 0 0 _ _ _ [.int ty4.1] _ _
  by_cases cy5 : ty4.1 = 1
  · replace hF := zh_t cy5 hF
    refine z_lookup d_Follower_seek_26 (tgt := 70) (off := 44) (by decide) (by rw [cy5]; decide) (by decide) ?_
    refine z_aload_n d_Follower_seek_70 0 rfl rfl ?_
    refine z_aload_n d_Follower_seek_71 1 rfl rfl ?_
    refine z_aload_n d_Follower_seek_72 2 rfl rfl ?_
    obtain ⟨ty7, hty7, hF⟩ := zh_bind hF
    refine z_callV d_Follower_seek_73 (c_Follower_goUphill hs hty7) mv_Follower_goUphill l_Follower_81 (fun _ _ h => h) (hs 11 _ rfl) rfl rfl ⟨Nat.le_of_ble_eq_true rfl, Nat.le_of_ble_eq_true rfl⟩ ⟨Nat.le_of_ble_eq_true rfl, Nat.le_of_ble_eq_true rfl⟩ rfl (Nat.le_of_ble_eq_true rfl) (fun r μ' ν' hq => ?_)
    obtain ⟨rfl, rfl, rfl⟩ := hq
    show Z _ _ _ _ _ _ _ _ _ _ _ 0 0 _ _ _ [] _ _
    refine z_goto d_Follower_seek_76 (tgt := 85) (by decide) ?_
    exact z_Follower_seek_85 hs  hF
  · replace hF := zh_f cy5 hF
    by_cases cy6 : ty4.1 = 2
    · replace hF := zh_t cy6 hF
      refine z_lookup d_Follower_seek_26 (tgt := 52) (off := 26) (by decide) (by rw [cy6]; decide) (by decide) ?_
      refine z_aload_n d_Follower_seek_52 0 rfl rfl ?_
      refine z_aload_n d_Follower_seek_53 1 rfl rfl ?_
      refine z_aload_n d_Follower_seek_54 2 rfl rfl ?_
      refine z_bipush d_Follower_seek_55 (v := 18) (by decide) ?_
      obtain ⟨ty8, hty8, hF⟩ := zh_bind hF
      refine z_callV d_Follower_seek_57 (c_Told_get hs hty8) mv_Told_get l_Follower_67 (fun _ _ h => h) (hs 1 _ rfl) rfl rfl ⟨Nat.le_of_ble_eq_true rfl, Nat.le_of_ble_eq_true rfl⟩ ⟨Nat.le_of_ble_eq_true rfl, Nat.le_of_ble_eq_true rfl⟩ rfl (Nat.le_of_ble_eq_true rfl) (fun r μ' ν' hq => ?_)
      obtain ⟨rfl, rfl, rfl⟩ := hq
      show Z _ _ _ _ _ _ _ _ _ _ _ 0 0 _ _ _ [.int ty8.1, .ref (ad (b + 3)), .ref (ad (b + 11))] _ _
      obtain ⟨ty9, hty9, hF⟩ := zh_bind hF
      refine z_callV d_Follower_seek_60 (c_Panel_pointOfShare hs hty9) mv_Panel_pointOfShare l_Follower_78 (fun _ _ h => h) (hs 3 _ rfl) rfl rfl ⟨Nat.le_of_ble_eq_true rfl, Nat.le_of_ble_eq_true rfl⟩ ⟨Nat.le_of_ble_eq_true rfl, Nat.le_of_ble_eq_true rfl⟩ rfl (Nat.le_of_ble_eq_true rfl) (fun r μ' ν' hq => ?_)
      obtain ⟨rfl, rfl, rfl⟩ := hq
      show Z _ _ _ _ _ _ _ _ _ _ _ 0 0 _ _ _ [.int ty9.1, .ref (ad (b + 11))] _ _
      refine z_aload_n d_Follower_seek_63 1 rfl rfl ?_
      obtain ⟨ty10, hty10, hF⟩ := zh_bind hF
      refine z_callV d_Follower_seek_64 (c_Follower_moveTo hs hty10) mv_Follower_moveTo l_Follower_74 (fun _ _ h => h) (hs 11 _ rfl) rfl rfl ⟨Nat.le_of_ble_eq_true rfl, Nat.le_of_ble_eq_true rfl⟩ ⟨Nat.le_of_ble_eq_true rfl, Nat.le_of_ble_eq_true rfl⟩ rfl (Nat.le_of_ble_eq_true rfl) (fun r μ' ν' hq => ?_)
      obtain ⟨rfl, rfl, rfl⟩ := hq
      show Z _ _ _ _ _ _ _ _ _ _ _ 0 0 _ _ _ [] _ _
      refine z_goto d_Follower_seek_67 (tgt := 85) (by decide) ?_
      exact z_Follower_seek_85 hs  hF
    · replace hF := zh_f cy6 hF
      refine z_lookup d_Follower_seek_26 (tgt := 79) (off := 53) (by decide) (by show Op.lookupswitch.offset [(1, 44), (2, 26)] 53 _ = _; rw [lv_osw (k := 1) (a := 1) cy5 (by decide), lv_osw (k := 2) (a := 2) cy6 (by decide)]; rfl) (by decide) ?_
      refine z_aload_n d_Follower_seek_79 0 rfl rfl ?_
      refine z_aload_n d_Follower_seek_80 1 rfl rfl ?_
      refine z_aload_n d_Follower_seek_81 2 rfl rfl ?_
      obtain ⟨ty11, hty11, hF⟩ := zh_bind hF
      refine z_callV d_Follower_seek_82 (c_Follower_climb hs hty11) mv_Follower_climb l_Follower_84 (fun _ _ h => h) (hs 11 _ rfl) rfl rfl ⟨Nat.le_of_ble_eq_true rfl, Nat.le_of_ble_eq_true rfl⟩ ⟨Nat.le_of_ble_eq_true rfl, Nat.le_of_ble_eq_true rfl⟩ rfl (Nat.le_of_ble_eq_true rfl) (fun r μ' ν' hq => ?_)
      obtain ⟨rfl, rfl, rfl⟩ := hq
      show Z _ _ _ _ _ _ _ _ _ _ _ 0 0 _ _ _ [] _ _
      exact z_Follower_seek_85 hs  hF
def E_Follower_seek (b : Nat)  (μ : zI) (ν : zJ) : Option (zI × zJ) := e_Follower_seek_0 b μ ν
theorem c_Follower_seek {l : Launch} {D : va_G} {dA : Nat → ClassId} {ad : Nat → Nat} {sh : List zSE} {μ : zI} {ν : zJ} {b : Nat} (hs : zSt sh b) {out : (zI × zJ)} (hE : E_Follower_seek b μ ν = some out) : zC l D dA ad sh m_Follower_seek 3 0 0 [.ref (ad (b + 11)), .ref (ad (b + 3)), .ref (ad (b + 1))] μ ν (zOv out) :=
  zC.of (by decide) (Nat.le_of_ble_eq_true rfl) (z_Follower_seek_0 hs hE)
def e_Battery_wanted_23 (b : Nat)  (x1 : Int32) (x2 : Int32) (s1 : Int32) (μ : zI) (ν : zJ) : Option (Int32 × zI × zJ) := Option.bind (E_Told_get b s1 μ ν) fun ty1 => zlet (α := Int32) ty1.1 fun y2 => some ((zMax 0 (zMin x1 ((20 * (y2 - x2)) + 19))), ty1.2.1, ty1.2.2)
theorem z_Battery_wanted_23 {l : Launch} {D : va_G} {dA : Nat → ClassId} {ad : Nat → Nat} {sh : List zSE}  {b : Nat} (hs : zSt sh b)  {x1 : Int32} {x2 : Int32} {s1 : Int32} {μ : zI} {ν : zJ} {out : (Int32 × zI × zJ)} (hF : e_Battery_wanted_23 b  x1 x2 s1 μ ν = some out) : Z l D dA ad sh m_Battery_wanted (zR 1 0 0) (zS ad) (zOi out) 0 0 0 0 [] 23 [(0, .ref (ad (b + 12))), (1, .int x1), (2, .int x2), (3, .ref (ad (b + 1)))] [.int s1, .ref (ad (b + 1))] μ ν := by
  unfold e_Battery_wanted_23 at hF
  obtain ⟨ty1, hty1, hF⟩ := zh_bind hF
  refine z_callV d_Battery_wanted_23 (c_Told_get hs hty1) mv_Told_get l_Battery_32 (fun _ _ h => h) (hs 1 _ rfl) rfl rfl ⟨Nat.le_of_ble_eq_true rfl, Nat.le_of_ble_eq_true rfl⟩ ⟨Nat.le_of_ble_eq_true rfl, Nat.le_of_ble_eq_true rfl⟩ rfl (Nat.le_of_ble_eq_true rfl) (fun r μ' ν' hq => ?_)
  obtain ⟨rfl, rfl, rfl⟩ := hq
  show Z _ _ _ _ _ _ _ _ _ _ _ 0 0 _ _ _ [.int ty1.1] _ _
  obtain ⟨y2, hy2, hF⟩ := zh_let hF
  refine z_eqi hy2 ?_
  refine z_istore d_Battery_wanted_26 (by decide) (L2 := [(4, .int y2), (0, .ref (ad (b + 12))), (1, .int x1), (2, .int x2), (3, .ref (ad (b + 1)))]) rfl ?_
  refine z_iconst d_Battery_wanted_28 (v := 0) (by decide) ?_
  refine z_iload_n d_Battery_wanted_29 2 rfl rfl ?_
  refine z_bipush d_Battery_wanted_30 (v := 20) (by decide) ?_
  refine z_iload d_Battery_wanted_32 0 rfl ?_
  refine z_iload_n d_Battery_wanted_34 3 rfl rfl ?_
  refine z_isub d_Battery_wanted_35 ?_
  refine z_imul d_Battery_wanted_36 ?_
  refine z_bipush d_Battery_wanted_37 (v := 19) (by decide) ?_
  refine z_iadd d_Battery_wanted_39 ?_
  refine z_min d_Battery_wanted_40 l_Battery_36 ma_min_s ma_i ma_min_c ⟨Nat.le_of_ble_eq_true rfl, Nat.le_of_ble_eq_true rfl, Nat.zero_le _, Nat.zero_le _⟩ ?_
  refine z_max d_Battery_wanted_43 l_Battery_49 ma_max_s ma_i ma_max_c ⟨Nat.le_of_ble_eq_true rfl, Nat.le_of_ble_eq_true rfl, Nat.zero_le _, Nat.zero_le _⟩ ?_
  cases hF
  exact z_ireturn d_Battery_wanted_46 rfl rfl ⟨rfl, rfl, rfl⟩
def e_Battery_wanted_0 (b : Nat)  (x1 : Int32) (x2 : Int32) (μ : zI) (ν : zJ) : Option (Int32 × zI × zJ) := (if (μ (b + 12) 1) = 0 then some (x1, μ, ν) else (if (μ (b + 12) 1) = 1 then e_Battery_wanted_23 b x1 x2 2 μ ν else e_Battery_wanted_23 b x1 x2 3 μ ν))
theorem z_Battery_wanted_0 {l : Launch} {D : va_G} {dA : Nat → ClassId} {ad : Nat → Nat} {sh : List zSE}  {b : Nat} (hs : zSt sh b)  {x1 : Int32} {x2 : Int32} {μ : zI} {ν : zJ} {out : (Int32 × zI × zJ)} (hF : e_Battery_wanted_0 b  x1 x2 μ ν = some out) : Z l D dA ad sh m_Battery_wanted (zR 1 0 0) (zS ad) (zOi out) 0 0 0 0 [] 0 [(0, .ref (ad (b + 12))), (1, .int x1), (2, .int x2), (3, .ref (ad (b + 1)))] [] μ ν := by
  unfold e_Battery_wanted_0 at hF
  refine z_aload_n d_Battery_wanted_0 0 rfl rfl ?_
  refine z_get d_Battery_wanted_1 f_Battery_15 (hs 12 _ rfl) rfl ?_
  refine z_if_ne d_Battery_wanted_4 (tgt := 9) (by decide) (fun cy1 => ?_) (fun cy1 => ?_)
  · replace hF := zh_f cy1 hF
    refine z_aload_n d_Battery_wanted_9 3 rfl rfl ?_
    refine z_aload_n d_Battery_wanted_10 0 rfl rfl ?_
    refine z_get d_Battery_wanted_11 f_Battery_15 (hs 12 _ rfl) rfl ?_
    refine z_iconst d_Battery_wanted_14 (v := 1) (by decide) ?_
    refine z_icmp_ne d_Battery_wanted_15 (tgt := 22) (by decide) (fun cy2 => ?_) (fun cy2 => ?_)
    · replace hF := zh_f cy2 hF
      refine z_iconst d_Battery_wanted_22 (v := 3) (by decide) ?_
      exact z_Battery_wanted_23 hs  hF
    · replace hF := zh_t cy2 hF
      refine z_iconst d_Battery_wanted_18 (v := 2) (by decide) ?_
      refine z_goto d_Battery_wanted_19 (tgt := 23) (by decide) ?_
      exact z_Battery_wanted_23 hs  hF
  · replace hF := zh_t cy1 hF
    refine z_iload_n d_Battery_wanted_7 1 rfl rfl ?_
    cases hF
    exact z_ireturn d_Battery_wanted_8 rfl rfl ⟨rfl, rfl, rfl⟩
def E_Battery_wanted (b : Nat) (x1 : Int32) (x2 : Int32) (μ : zI) (ν : zJ) : Option (Int32 × zI × zJ) := e_Battery_wanted_0 b x1 x2 μ ν
theorem c_Battery_wanted {l : Launch} {D : va_G} {dA : Nat → ClassId} {ad : Nat → Nat} {sh : List zSE} {μ : zI} {ν : zJ} {b : Nat} {x1 : Int32} {x2 : Int32} (hs : zSt sh b) {out : (Int32 × zI × zJ)} (hE : E_Battery_wanted b x1 x2 μ ν = some out) : zC l D dA ad sh m_Battery_wanted 1 0 0 [.ref (ad (b + 12)), .int x1, .int x2, .ref (ad (b + 1))] μ ν (zOi out) :=
  zC.of (by decide) (Nat.le_of_ble_eq_true rfl) (z_Battery_wanted_0 hs hE)
def e_Battery_nextStage_57 (b : Nat)  (x1 : Int32) (x2 : Int32) (x4 : Int32) (x5 : Int32) (s0 : Int32) (μ : zI) (ν : zJ) : Option (Int32 × zI × zJ) := some (s0, μ, ν)
theorem z_Battery_nextStage_57 {l : Launch} {D : va_G} {dA : Nat → ClassId} {ad : Nat → Nat} {sh : List zSE}  {b : Nat} (hs : zSt sh b)  {x1 : Int32} {x2 : Int32} {x4 : Int32} {x5 : Int32} {s0 : Int32} {μ : zI} {ν : zJ} {out : (Int32 × zI × zJ)} (hF : e_Battery_nextStage_57 b  x1 x2 x4 x5 s0 μ ν = some out) : Z l D dA ad sh m_Battery_nextStage (zR 1 0 0) (zS ad) (zOi out) 0 0 0 0 [] 57 [(0, .ref (ad (b + 12))), (1, .int x1), (2, .int x2), (3, .ref (ad (b + 1))), (4, .int x4), (5, .int x5)] [.int s0] μ ν := by
  unfold e_Battery_nextStage_57 at hF
  cases hF
  exact z_ireturn d_Battery_nextStage_57 rfl rfl ⟨rfl, rfl, rfl⟩
def e_Battery_nextStage_52 (b : Nat)  (x1 : Int32) (x2 : Int32) (x4 : Int32) (x5 : Int32) (μ : zI) (ν : zJ) : Option (Int32 × zI × zJ) := e_Battery_nextStage_57 b x1 x2 x4 x5 1 μ ν
theorem z_Battery_nextStage_52 {l : Launch} {D : va_G} {dA : Nat → ClassId} {ad : Nat → Nat} {sh : List zSE}  {b : Nat} (hs : zSt sh b)  {x1 : Int32} {x2 : Int32} {x4 : Int32} {x5 : Int32} {μ : zI} {ν : zJ} {out : (Int32 × zI × zJ)} (hF : e_Battery_nextStage_52 b  x1 x2 x4 x5 μ ν = some out) : Z l D dA ad sh m_Battery_nextStage (zR 1 0 0) (zS ad) (zOi out) 0 0 0 0 [] 52 [(0, .ref (ad (b + 12))), (1, .int x1), (2, .int x2), (3, .ref (ad (b + 1))), (4, .int x4), (5, .int x5)] [] μ ν := by
  unfold e_Battery_nextStage_52 at hF
  refine z_iconst d_Battery_nextStage_52 (v := 1) (by decide) ?_
  refine z_goto d_Battery_nextStage_53 (tgt := 57) (by decide) ?_
  exact z_Battery_nextStage_57 hs  hF
def e_Battery_nextStage_36 (b : Nat)  (x1 : Int32) (x2 : Int32) (x4 : Int32) (s0 : Int32) (μ : zI) (ν : zJ) : Option (Int32 × zI × zJ) := (if s0 = 0 then (if (μ (b + 12) 0) = x4 then e_Battery_nextStage_52 b x1 x2 x4 s0 μ ν else e_Battery_nextStage_57 b x1 x2 x4 s0 (-1) μ ν) else e_Battery_nextStage_52 b x1 x2 x4 s0 μ ν)
theorem z_Battery_nextStage_36 {l : Launch} {D : va_G} {dA : Nat → ClassId} {ad : Nat → Nat} {sh : List zSE}  {b : Nat} (hs : zSt sh b)  {x1 : Int32} {x2 : Int32} {x4 : Int32} {s0 : Int32} {μ : zI} {ν : zJ} {out : (Int32 × zI × zJ)} (hF : e_Battery_nextStage_36 b  x1 x2 x4 s0 μ ν = some out) : Z l D dA ad sh m_Battery_nextStage (zR 1 0 0) (zS ad) (zOi out) 0 0 0 0 [] 36 [(0, .ref (ad (b + 12))), (1, .int x1), (2, .int x2), (3, .ref (ad (b + 1))), (4, .int x4)] [.int s0] μ ν := by
  unfold e_Battery_nextStage_36 at hF
  refine z_istore d_Battery_nextStage_36 (by decide) (L2 := [(5, .int s0), (0, .ref (ad (b + 12))), (1, .int x1), (2, .int x2), (3, .ref (ad (b + 1))), (4, .int x4)]) rfl ?_
  refine z_iload d_Battery_nextStage_38 0 rfl ?_
  refine z_if_ne d_Battery_nextStage_40 (tgt := 52) (by decide) (fun cy1 => ?_) (fun cy1 => ?_)
  · replace hF := zh_f cy1 hF
    refine z_sub [1, 2, 3, 4, 5, 0] (L' := [(0, .ref (ad (b + 12))), (1, .int x1), (2, .int x2), (3, .ref (ad (b + 1))), (4, .int x4), (5, .int s0)]) rfl ?_
    exact z_Battery_nextStage_52 hs  hF
  · replace hF := zh_t cy1 hF
    refine z_aload_n d_Battery_nextStage_43 1 rfl rfl ?_
    refine z_get d_Battery_nextStage_44 f_Battery_9 (hs 12 _ rfl) rfl ?_
    refine z_iload d_Battery_nextStage_47 5 rfl ?_
    refine z_icmp_ne d_Battery_nextStage_49 (tgt := 56) (by decide) (fun cy2 => ?_) (fun cy2 => ?_)
    · replace hF := zh_f cy2 hF
      refine z_iconst d_Battery_nextStage_56 (v := (-1)) (by decide) ?_
      refine z_sub [1, 2, 3, 4, 5, 0] (L' := [(0, .ref (ad (b + 12))), (1, .int x1), (2, .int x2), (3, .ref (ad (b + 1))), (4, .int x4), (5, .int s0)]) rfl ?_
      exact z_Battery_nextStage_57 hs  hF
    · replace hF := zh_t cy2 hF
      refine z_sub [1, 2, 3, 4, 5, 0] (L' := [(0, .ref (ad (b + 12))), (1, .int x1), (2, .int x2), (3, .ref (ad (b + 1))), (4, .int x4), (5, .int s0)]) rfl ?_
      exact z_Battery_nextStage_52 hs  hF
def e_Battery_nextStage_128 (b : Nat)  (x1 : Int32) (x2 : Int32) (x4 : Int32) (x5 : Int32) (x6 : Int32) (s0 : Int32) (μ : zI) (ν : zJ) : Option (Int32 × zI × zJ) := some (s0, μ, ν)
theorem z_Battery_nextStage_128 {l : Launch} {D : va_G} {dA : Nat → ClassId} {ad : Nat → Nat} {sh : List zSE}  {b : Nat} (hs : zSt sh b)  {x1 : Int32} {x2 : Int32} {x4 : Int32} {x5 : Int32} {x6 : Int32} {s0 : Int32} {μ : zI} {ν : zJ} {out : (Int32 × zI × zJ)} (hF : e_Battery_nextStage_128 b  x1 x2 x4 x5 x6 s0 μ ν = some out) : Z l D dA ad sh m_Battery_nextStage (zR 1 0 0) (zS ad) (zOi out) 0 0 0 0 [] 128 [(0, .ref (ad (b + 12))), (1, .int x1), (2, .int x2), (3, .ref (ad (b + 1))), (4, .int x4), (5, .int x5), (6, .int x6)] [.int s0] μ ν := by
  unfold e_Battery_nextStage_128 at hF
  cases hF
  exact z_ireturn d_Battery_nextStage_128 rfl rfl ⟨rfl, rfl, rfl⟩
def e_Battery_nextStage_123 (b : Nat)  (x1 : Int32) (x2 : Int32) (x4 : Int32) (x5 : Int32) (x6 : Int32) (μ : zI) (ν : zJ) : Option (Int32 × zI × zJ) := e_Battery_nextStage_128 b x1 x2 x4 x5 x6 2 μ ν
theorem z_Battery_nextStage_123 {l : Launch} {D : va_G} {dA : Nat → ClassId} {ad : Nat → Nat} {sh : List zSE}  {b : Nat} (hs : zSt sh b)  {x1 : Int32} {x2 : Int32} {x4 : Int32} {x5 : Int32} {x6 : Int32} {μ : zI} {ν : zJ} {out : (Int32 × zI × zJ)} (hF : e_Battery_nextStage_123 b  x1 x2 x4 x5 x6 μ ν = some out) : Z l D dA ad sh m_Battery_nextStage (zR 1 0 0) (zS ad) (zOi out) 0 0 0 0 [] 123 [(0, .ref (ad (b + 12))), (1, .int x1), (2, .int x2), (3, .ref (ad (b + 1))), (4, .int x4), (5, .int x5), (6, .int x6)] [] μ ν := by
  unfold e_Battery_nextStage_123 at hF
  refine z_iconst d_Battery_nextStage_123 (v := 2) (by decide) ?_
  refine z_goto d_Battery_nextStage_124 (tgt := 128) (by decide) ?_
  exact z_Battery_nextStage_128 hs  hF
def e_Battery_nextStage_104 (b : Nat)  (x1 : Int32) (x2 : Int32) (x4 : Int32) (x5 : Int32) (s0 : Int32) (μ : zI) (ν : zJ) : Option (Int32 × zI × zJ) := (if s0 = 0 then Option.bind (E_Told_get b 5 μ ν) fun ty2 => (if (μ (b + 12) 2) < ty2.1 then e_Battery_nextStage_128 b x1 x2 x4 x5 s0 (-1) ty2.2.1 ty2.2.2 else e_Battery_nextStage_123 b x1 x2 x4 x5 s0 ty2.2.1 ty2.2.2) else e_Battery_nextStage_123 b x1 x2 x4 x5 s0 μ ν)
theorem z_Battery_nextStage_104 {l : Launch} {D : va_G} {dA : Nat → ClassId} {ad : Nat → Nat} {sh : List zSE}  {b : Nat} (hs : zSt sh b)  {x1 : Int32} {x2 : Int32} {x4 : Int32} {x5 : Int32} {s0 : Int32} {μ : zI} {ν : zJ} {out : (Int32 × zI × zJ)} (hF : e_Battery_nextStage_104 b  x1 x2 x4 x5 s0 μ ν = some out) : Z l D dA ad sh m_Battery_nextStage (zR 1 0 0) (zS ad) (zOi out) 0 0 0 0 [] 104 [(0, .ref (ad (b + 12))), (1, .int x1), (2, .int x2), (3, .ref (ad (b + 1))), (4, .int x4), (5, .int x5)] [.int s0] μ ν := by
  unfold e_Battery_nextStage_104 at hF
  refine z_istore d_Battery_nextStage_104 (by decide) (L2 := [(6, .int s0), (0, .ref (ad (b + 12))), (1, .int x1), (2, .int x2), (3, .ref (ad (b + 1))), (4, .int x4), (5, .int x5)]) rfl ?_
  refine z_iload d_Battery_nextStage_106 0 rfl ?_
  refine z_if_ne d_Battery_nextStage_108 (tgt := 123) (by decide) (fun cy1 => ?_) (fun cy1 => ?_)
  · replace hF := zh_f cy1 hF
    refine z_sub [1, 2, 3, 4, 5, 6, 0] (L' := [(0, .ref (ad (b + 12))), (1, .int x1), (2, .int x2), (3, .ref (ad (b + 1))), (4, .int x4), (5, .int x5), (6, .int s0)]) rfl ?_
    exact z_Battery_nextStage_123 hs  hF
  · replace hF := zh_t cy1 hF
    refine z_aload_n d_Battery_nextStage_111 1 rfl rfl ?_
    refine z_get d_Battery_nextStage_112 f_Battery_18 (hs 12 _ rfl) rfl ?_
    refine z_aload_n d_Battery_nextStage_115 4 rfl rfl ?_
    refine z_iconst d_Battery_nextStage_116 (v := 5) (by decide) ?_
    obtain ⟨ty2, hty2, hF⟩ := zh_bind hF
    refine z_callV d_Battery_nextStage_117 (c_Told_get hs hty2) mv_Told_get l_Battery_32 (fun _ _ h => h) (hs 1 _ rfl) rfl rfl ⟨Nat.le_of_ble_eq_true rfl, Nat.le_of_ble_eq_true rfl⟩ ⟨Nat.le_of_ble_eq_true rfl, Nat.le_of_ble_eq_true rfl⟩ rfl (Nat.le_of_ble_eq_true rfl) (fun r μ' ν' hq => ?_)
    obtain ⟨rfl, rfl, rfl⟩ := hq
    show Z _ _ _ _ _ _ _ _ _ _ _ 0 0 _ _ _ [.int ty2.1, .int (μ (b + 12) 2)] _ _
    refine z_icmp_lt d_Battery_nextStage_120 (tgt := 127) (by decide) (fun cy3 => ?_) (fun cy3 => ?_)
    · replace hF := zh_t cy3 hF
      refine z_iconst d_Battery_nextStage_127 (v := (-1)) (by decide) ?_
      refine z_sub [1, 2, 3, 4, 5, 6, 0] (L' := [(0, .ref (ad (b + 12))), (1, .int x1), (2, .int x2), (3, .ref (ad (b + 1))), (4, .int x4), (5, .int x5), (6, .int s0)]) rfl ?_
      exact z_Battery_nextStage_128 hs  hF
    · replace hF := zh_f cy3 hF
      refine z_sub [1, 2, 3, 4, 5, 6, 0] (L' := [(0, .ref (ad (b + 12))), (1, .int x1), (2, .int x2), (3, .ref (ad (b + 1))), (4, .int x4), (5, .int x5), (6, .int s0)]) rfl ?_
      exact z_Battery_nextStage_123 hs  hF
def e_Battery_nextStage_103 (b : Nat)  (x1 : Int32) (x2 : Int32) (x4 : Int32) (x5 : Int32) (μ : zI) (ν : zJ) : Option (Int32 × zI × zJ) := e_Battery_nextStage_104 b x1 x2 x4 x5 0 μ ν
theorem z_Battery_nextStage_103 {l : Launch} {D : va_G} {dA : Nat → ClassId} {ad : Nat → Nat} {sh : List zSE}  {b : Nat} (hs : zSt sh b)  {x1 : Int32} {x2 : Int32} {x4 : Int32} {x5 : Int32} {μ : zI} {ν : zJ} {out : (Int32 × zI × zJ)} (hF : e_Battery_nextStage_103 b  x1 x2 x4 x5 μ ν = some out) : Z l D dA ad sh m_Battery_nextStage (zR 1 0 0) (zS ad) (zOi out) 0 0 0 0 [] 103 [(0, .ref (ad (b + 12))), (1, .int x1), (2, .int x2), (3, .ref (ad (b + 1))), (4, .int x4), (5, .int x5)] [] μ ν := by
  unfold e_Battery_nextStage_103 at hF
  refine z_iconst d_Battery_nextStage_103 (v := 0) (by decide) ?_
  exact z_Battery_nextStage_104 hs  hF
def e_Battery_nextStage_152 (b : Nat)  (x1 : Int32) (x2 : Int32) (x4 : Int32) (s0 : Int32) (μ : zI) (ν : zJ) : Option (Int32 × zI × zJ) := some (s0, μ, ν)
theorem z_Battery_nextStage_152 {l : Launch} {D : va_G} {dA : Nat → ClassId} {ad : Nat → Nat} {sh : List zSE}  {b : Nat} (hs : zSt sh b)  {x1 : Int32} {x2 : Int32} {x4 : Int32} {s0 : Int32} {μ : zI} {ν : zJ} {out : (Int32 × zI × zJ)} (hF : e_Battery_nextStage_152 b  x1 x2 x4 s0 μ ν = some out) : Z l D dA ad sh m_Battery_nextStage (zR 1 0 0) (zS ad) (zOi out) 0 0 0 0 [] 152 [(0, .ref (ad (b + 12))), (1, .int x1), (2, .int x2), (3, .ref (ad (b + 1))), (4, .int x4)] [.int s0] μ ν := by
  unfold e_Battery_nextStage_152 at hF
  cases hF
  exact z_ireturn d_Battery_nextStage_152 rfl rfl ⟨rfl, rfl, rfl⟩
def e_Battery_nextStage_0 (b : Nat)  (x1 : Int32) (x2 : Int32) (μ : zI) (ν : zJ) : Option (Int32 × zI × zJ) := Option.bind (E_Told_get b 0 μ ν) fun ty1 => zlet (α := Int32) ty1.1 fun y2 => (if (ty1.2.1 (b + 12) 1) = 0 then Option.bind (E_Told_get b 2 ty1.2.1 ty1.2.2) fun ty12 => (if (x2 + ((ty1.2.1 (b + 12) 4) / 20)) < ty12.1 then e_Battery_nextStage_36 b x1 x2 y2 0 ty12.2.1 ty12.2.2 else e_Battery_nextStage_36 b x1 x2 y2 1 ty12.2.1 ty12.2.2) else (if (ty1.2.1 (b + 12) 1) = 1 then zlet (zu ty1.2.1 (b + 12) 2 ((ty1.2.1 (b + 12) 2) + 1)) fun μy7 => Option.bind (E_Told_get b 6 μy7 ty1.2.2) fun ty8 => zlet (α := Int32) ty8.1 fun y9 => (if y9 ≤ (ty8.2.1 (b + 12) 4) then e_Battery_nextStage_103 b x1 x2 y2 y9 ty8.2.1 ty8.2.2 else (if x1 < y9 then e_Battery_nextStage_103 b x1 x2 y2 y9 ty8.2.1 ty8.2.2 else e_Battery_nextStage_104 b x1 x2 y2 y9 1 ty8.2.1 ty8.2.2)) else Option.bind (E_Told_get b 4 ty1.2.1 ty1.2.2) fun ty5 => (if (ty5.1 * y2) ≤ ((ty1.2.1 (b + 12) 0) * 100) then e_Battery_nextStage_152 b x1 x2 y2 (-1) ty5.2.1 ty5.2.2 else e_Battery_nextStage_152 b x1 x2 y2 0 ty5.2.1 ty5.2.2)))
theorem z_Battery_nextStage_0 {l : Launch} {D : va_G} {dA : Nat → ClassId} {ad : Nat → Nat} {sh : List zSE}  {b : Nat} (hs : zSt sh b)  {x1 : Int32} {x2 : Int32} {μ : zI} {ν : zJ} {out : (Int32 × zI × zJ)} (hF : e_Battery_nextStage_0 b  x1 x2 μ ν = some out) : Z l D dA ad sh m_Battery_nextStage (zR 1 0 0) (zS ad) (zOi out) 0 0 0 0 [] 0 [(0, .ref (ad (b + 12))), (1, .int x1), (2, .int x2), (3, .ref (ad (b + 1)))] [] μ ν := by
  unfold e_Battery_nextStage_0 at hF
  refine z_aload_n d_Battery_nextStage_0 3 rfl rfl ?_
  refine z_iconst d_Battery_nextStage_1 (v := 0) (by decide) ?_
  obtain ⟨ty1, hty1, hF⟩ := zh_bind hF
  refine z_callV d_Battery_nextStage_2 (c_Told_get hs hty1) mv_Told_get l_Battery_32 (fun _ _ h => h) (hs 1 _ rfl) rfl rfl ⟨Nat.le_of_ble_eq_true rfl, Nat.le_of_ble_eq_true rfl⟩ ⟨Nat.le_of_ble_eq_true rfl, Nat.le_of_ble_eq_true rfl⟩ rfl (Nat.le_of_ble_eq_true rfl) (fun r μ' ν' hq => ?_)
  obtain ⟨rfl, rfl, rfl⟩ := hq
  show Z _ _ _ _ _ _ _ _ _ _ _ 0 0 _ _ _ [.int ty1.1] _ _
  obtain ⟨y2, hy2, hF⟩ := zh_let hF
  refine z_eqi hy2 ?_
  refine z_istore d_Battery_nextStage_5 (by decide) (L2 := [(4, .int y2), (0, .ref (ad (b + 12))), (1, .int x1), (2, .int x2), (3, .ref (ad (b + 1)))]) rfl ?_
  refine z_aload_n d_Battery_nextStage_7 1 rfl rfl ?_
  refine z_get d_Battery_nextStage_8 f_Battery_15 (hs 12 _ rfl) rfl ?_
  refine z_if_ne d_Battery_nextStage_11 (tgt := 58) (by decide) (fun cy3 => ?_) (fun cy3 => ?_)
  · replace hF := zh_f cy3 hF
    refine z_aload_n d_Battery_nextStage_58 1 rfl rfl ?_
    refine z_get d_Battery_nextStage_59 f_Battery_15 (hs 12 _ rfl) rfl ?_
    refine z_iconst d_Battery_nextStage_62 (v := 1) (by decide) ?_
    refine z_icmp_ne d_Battery_nextStage_63 (tgt := 129) (by decide) (fun cy4 => ?_) (fun cy4 => ?_)
    · replace hF := zh_f cy4 hF
      refine z_aload_n d_Battery_nextStage_129 1 rfl rfl ?_
      refine z_get d_Battery_nextStage_130 f_Battery_9 (hs 12 _ rfl) rfl ?_
      refine z_bipush d_Battery_nextStage_133 (v := 100) (by decide) ?_
      refine z_imul d_Battery_nextStage_135 ?_
      refine z_aload_n d_Battery_nextStage_136 4 rfl rfl ?_
      refine z_iconst d_Battery_nextStage_137 (v := 4) (by decide) ?_
      obtain ⟨ty5, hty5, hF⟩ := zh_bind hF
      refine z_callV d_Battery_nextStage_138 (c_Told_get hs hty5) mv_Told_get l_Battery_32 (fun _ _ h => h) (hs 1 _ rfl) rfl rfl ⟨Nat.le_of_ble_eq_true rfl, Nat.le_of_ble_eq_true rfl⟩ ⟨Nat.le_of_ble_eq_true rfl, Nat.le_of_ble_eq_true rfl⟩ rfl (Nat.le_of_ble_eq_true rfl) (fun r μ' ν' hq => ?_)
      obtain ⟨rfl, rfl, rfl⟩ := hq
      show Z _ _ _ _ _ _ _ _ _ _ _ 0 0 _ _ _ [.int ty5.1, .int ((ty1.2.1 (b + 12) 0) * 100)] _ _
      refine z_iload d_Battery_nextStage_141 0 rfl ?_
      refine z_imul d_Battery_nextStage_143 ?_
      refine z_icmp_ge d_Battery_nextStage_144 (tgt := 151) (by decide) (fun cy6 => ?_) (fun cy6 => ?_)
      · replace hF := zh_t cy6 hF
        refine z_iconst d_Battery_nextStage_151 (v := (-1)) (by decide) ?_
        refine z_sub [1, 2, 3, 4, 0] (L' := [(0, .ref (ad (b + 12))), (1, .int x1), (2, .int x2), (3, .ref (ad (b + 1))), (4, .int y2)]) rfl ?_
        exact z_Battery_nextStage_152 hs  hF
      · replace hF := zh_f cy6 hF
        refine z_iconst d_Battery_nextStage_147 (v := 0) (by decide) ?_
        refine z_goto d_Battery_nextStage_148 (tgt := 152) (by decide) ?_
        refine z_sub [1, 2, 3, 4, 0] (L' := [(0, .ref (ad (b + 12))), (1, .int x1), (2, .int x2), (3, .ref (ad (b + 1))), (4, .int y2)]) rfl ?_
        exact z_Battery_nextStage_152 hs  hF
    · replace hF := zh_t cy4 hF
      refine z_aload_n d_Battery_nextStage_66 1 rfl rfl ?_
      refine z_dup d_Battery_nextStage_67 rfl ?_
      refine z_get d_Battery_nextStage_68 f_Battery_18 (hs 12 _ rfl) rfl ?_
      refine z_iconst d_Battery_nextStage_71 (v := 1) (by decide) ?_
      refine z_iadd d_Battery_nextStage_72 ?_
      refine z_put d_Battery_nextStage_73 f_Battery_18 (hs 12 _ rfl) rfl (CL_fin _ _ (fun q hq => by cases hq; rfl)) rfl rfl ?_
      obtain ⟨μy7, hy7, hF⟩ := zh_let hF
      refine z_eqm hy7 ?_
      refine z_aload_n d_Battery_nextStage_76 4 rfl rfl ?_
      refine z_bipush d_Battery_nextStage_77 (v := 6) (by decide) ?_
      obtain ⟨ty8, hty8, hF⟩ := zh_bind hF
      refine z_callV d_Battery_nextStage_79 (c_Told_get hs hty8) mv_Told_get l_Battery_32 (fun _ _ h => h) (hs 1 _ rfl) rfl rfl ⟨Nat.le_of_ble_eq_true rfl, Nat.le_of_ble_eq_true rfl⟩ ⟨Nat.le_of_ble_eq_true rfl, Nat.le_of_ble_eq_true rfl⟩ rfl (Nat.le_of_ble_eq_true rfl) (fun r μ' ν' hq => ?_)
      obtain ⟨rfl, rfl, rfl⟩ := hq
      show Z _ _ _ _ _ _ _ _ _ _ _ 0 0 _ _ _ [.int ty8.1] _ _
      obtain ⟨y9, hy9, hF⟩ := zh_let hF
      refine z_eqi hy9 ?_
      refine z_istore d_Battery_nextStage_82 (by decide) (L2 := [(5, .int y9), (4, .int y2), (0, .ref (ad (b + 12))), (1, .int x1), (2, .int x2), (3, .ref (ad (b + 1)))]) rfl ?_
      refine z_aload_n d_Battery_nextStage_84 2 rfl rfl ?_
      refine z_get d_Battery_nextStage_85 f_Battery_24 (hs 12 _ rfl) rfl ?_
      refine z_iload d_Battery_nextStage_88 0 rfl ?_
      refine z_icmp_ge d_Battery_nextStage_90 (tgt := 103) (by decide) (fun cy10 => ?_) (fun cy10 => ?_)
      · replace hF := zh_t cy10 hF
        refine z_sub [2, 3, 4, 5, 1, 0] (L' := [(0, .ref (ad (b + 12))), (1, .int x1), (2, .int x2), (3, .ref (ad (b + 1))), (4, .int y2), (5, .int y9)]) rfl ?_
        exact z_Battery_nextStage_103 hs  hF
      · replace hF := zh_f cy10 hF
        refine z_iload_n d_Battery_nextStage_93 3 rfl rfl ?_
        refine z_iload d_Battery_nextStage_94 0 rfl ?_
        refine z_icmp_lt d_Battery_nextStage_96 (tgt := 103) (by decide) (fun cy11 => ?_) (fun cy11 => ?_)
        · replace hF := zh_t cy11 hF
          refine z_sub [2, 3, 4, 5, 1, 0] (L' := [(0, .ref (ad (b + 12))), (1, .int x1), (2, .int x2), (3, .ref (ad (b + 1))), (4, .int y2), (5, .int y9)]) rfl ?_
          exact z_Battery_nextStage_103 hs  hF
        · replace hF := zh_f cy11 hF
          refine z_iconst d_Battery_nextStage_99 (v := 1) (by decide) ?_
          refine z_goto d_Battery_nextStage_100 (tgt := 104) (by decide) ?_
          refine z_sub [2, 3, 4, 5, 1, 0] (L' := [(0, .ref (ad (b + 12))), (1, .int x1), (2, .int x2), (3, .ref (ad (b + 1))), (4, .int y2), (5, .int y9)]) rfl ?_
          exact z_Battery_nextStage_104 hs  hF
  · replace hF := zh_t cy3 hF
    refine z_iload_n d_Battery_nextStage_14 3 rfl rfl ?_
    refine z_aload_n d_Battery_nextStage_15 1 rfl rfl ?_
    refine z_get d_Battery_nextStage_16 f_Battery_24 (hs 12 _ rfl) rfl ?_
    refine z_bipush d_Battery_nextStage_19 (v := 20) (by decide) ?_
    refine z_idiv d_Battery_nextStage_21 (by decide) ?_
    refine z_iadd d_Battery_nextStage_22 ?_
    refine z_aload_n d_Battery_nextStage_23 4 rfl rfl ?_
    refine z_iconst d_Battery_nextStage_24 (v := 2) (by decide) ?_
    obtain ⟨ty12, hty12, hF⟩ := zh_bind hF
    refine z_callV d_Battery_nextStage_25 (c_Told_get hs hty12) mv_Told_get l_Battery_32 (fun _ _ h => h) (hs 1 _ rfl) rfl rfl ⟨Nat.le_of_ble_eq_true rfl, Nat.le_of_ble_eq_true rfl⟩ ⟨Nat.le_of_ble_eq_true rfl, Nat.le_of_ble_eq_true rfl⟩ rfl (Nat.le_of_ble_eq_true rfl) (fun r μ' ν' hq => ?_)
    obtain ⟨rfl, rfl, rfl⟩ := hq
    show Z _ _ _ _ _ _ _ _ _ _ _ 0 0 _ _ _ [.int ty12.1, .int (x2 + ((ty1.2.1 (b + 12) 4) / 20))] _ _
    refine z_icmp_lt d_Battery_nextStage_28 (tgt := 35) (by decide) (fun cy13 => ?_) (fun cy13 => ?_)
    · replace hF := zh_t cy13 hF
      refine z_iconst d_Battery_nextStage_35 (v := 0) (by decide) ?_
      refine z_sub [1, 2, 3, 4, 0] (L' := [(0, .ref (ad (b + 12))), (1, .int x1), (2, .int x2), (3, .ref (ad (b + 1))), (4, .int y2)]) rfl ?_
      exact z_Battery_nextStage_36 hs  hF
    · replace hF := zh_f cy13 hF
      refine z_iconst d_Battery_nextStage_31 (v := 1) (by decide) ?_
      refine z_goto d_Battery_nextStage_32 (tgt := 36) (by decide) ?_
      refine z_sub [1, 2, 3, 4, 0] (L' := [(0, .ref (ad (b + 12))), (1, .int x1), (2, .int x2), (3, .ref (ad (b + 1))), (4, .int y2)]) rfl ?_
      exact z_Battery_nextStage_36 hs  hF
def E_Battery_nextStage (b : Nat) (x1 : Int32) (x2 : Int32) (μ : zI) (ν : zJ) : Option (Int32 × zI × zJ) := e_Battery_nextStage_0 b x1 x2 μ ν
theorem c_Battery_nextStage {l : Launch} {D : va_G} {dA : Nat → ClassId} {ad : Nat → Nat} {sh : List zSE} {μ : zI} {ν : zJ} {b : Nat} {x1 : Int32} {x2 : Int32} (hs : zSt sh b) {out : (Int32 × zI × zJ)} (hE : E_Battery_nextStage b x1 x2 μ ν = some out) : zC l D dA ad sh m_Battery_nextStage 1 0 0 [.ref (ad (b + 12)), .int x1, .int x2, .ref (ad (b + 1))] μ ν (zOi out) :=
  zC.of (by decide) (Nat.le_of_ble_eq_true rfl) (z_Battery_nextStage_0 hs hE)
def e_Battery_take_134 (b : Nat)  (x1 : Int32) (x3 : Int32) (x4 : Int32) (μ : zI) (ν : zJ) : Option (zI × zJ) := some (μ, ν)
theorem z_Battery_take_134 {l : Launch} {D : va_G} {dA : Nat → ClassId} {ad : Nat → Nat} {sh : List zSE}  {b : Nat} (hs : zSt sh b)  {x1 : Int32} {x3 : Int32} {x4 : Int32} {μ : zI} {ν : zJ} {out : (zI × zJ)} (hF : e_Battery_take_134 b  x1 x3 x4 μ ν = some out) : Z l D dA ad sh m_Battery_take (zR 2 0 0) (zS ad) (zOv out) 0 0 0 0 [] 134 [(0, .ref (ad (b + 12))), (1, .int x1), (2, .ref (ad (b + 1))), (3, .int x3), (4, .int x4)] [] μ ν := by
  unfold e_Battery_take_134 at hF
  cases hF
  exact z_return d_Battery_take_134 rfl ⟨rfl, rfl, rfl⟩
def e_Battery_take_118 (b : Nat)  (x1 : Int32) (x3 : Int32) (x4 : Int32) (μ : zI) (ν : zJ) : Option (zI × zJ) := (if (μ (b + 12) 5) = (-1) then e_Battery_take_134 b x1 x3 x4 μ ν else zlet (zu μ (b + 12) 1 (μ (b + 12) 5)) fun μy2 => e_Battery_take_134 b x1 x3 x4 μy2 ν)
theorem z_Battery_take_118 {l : Launch} {D : va_G} {dA : Nat → ClassId} {ad : Nat → Nat} {sh : List zSE}  {b : Nat} (hs : zSt sh b)  {x1 : Int32} {x3 : Int32} {x4 : Int32} {μ : zI} {ν : zJ} {out : (zI × zJ)} (hF : e_Battery_take_118 b  x1 x3 x4 μ ν = some out) : Z l D dA ad sh m_Battery_take (zR 2 0 0) (zS ad) (zOv out) 0 0 0 0 [] 118 [(0, .ref (ad (b + 12))), (1, .int x1), (2, .ref (ad (b + 1))), (3, .int x3), (4, .int x4)] [] μ ν := by
  unfold e_Battery_take_118 at hF
  refine z_aload_n d_Battery_take_118 0 rfl rfl ?_
  refine z_get d_Battery_take_119 f_Battery_27 (hs 12 _ rfl) rfl ?_
  refine z_iconst d_Battery_take_122 (v := (-1)) (by decide) ?_
  refine z_icmp_eq d_Battery_take_123 (tgt := 134) (by decide) (fun cy1 => ?_) (fun cy1 => ?_)
  · replace hF := zh_t cy1 hF
    exact z_Battery_take_134 hs  hF
  · replace hF := zh_f cy1 hF
    refine z_aload_n d_Battery_take_126 0 rfl rfl ?_
    refine z_aload_n d_Battery_take_127 0 rfl rfl ?_
    refine z_get d_Battery_take_128 f_Battery_27 (hs 12 _ rfl) rfl ?_
    refine z_put d_Battery_take_131 f_Battery_15 (hs 12 _ rfl) rfl (CL_fin _ _ (fun q hq => by cases hq; rfl)) rfl rfl ?_
    obtain ⟨μy2, hy2, hF⟩ := zh_let hF
    refine z_eqm hy2 ?_
    exact z_Battery_take_134 hs  hF
def e_Battery_take_56 (b : Nat)  (x1 : Int32) (x3 : Int32) (s0 : Int32) (s1 : Int32) (μ : zI) (ν : zJ) : Option (zI × zJ) := zlet (α := Int32) (s0 + s1) fun y1 => Option.bind (E_Battery_wanted b x1 y1 μ ν) fun ty2 => zlet (zu ty2.2.1 (b + 12) 4 (zMin ty2.1 (x3 - (ty2.2.1 (b + 12) 0)))) fun μy3 => zlet (zu μy3 (b + 12) 0 ((μy3 (b + 12) 0) + (μy3 (b + 12) 4))) fun μy4 => Option.bind (E_Battery_nextStage b x1 y1 μy4 ty2.2.2) fun ty5 => zlet (zu ty5.2.1 (b + 12) 5 ty5.1) fun μy6 => (if (μy6 (b + 12) 5) = 1 then zlet (zu μy6 (b + 12) 2 0) fun μy8 => e_Battery_take_118 b x1 x3 y1 μy8 ty5.2.2 else e_Battery_take_118 b x1 x3 y1 μy6 ty5.2.2)
theorem z_Battery_take_56 {l : Launch} {D : va_G} {dA : Nat → ClassId} {ad : Nat → Nat} {sh : List zSE}  {b : Nat} (hs : zSt sh b)  {x1 : Int32} {x3 : Int32} {s0 : Int32} {s1 : Int32} {μ : zI} {ν : zJ} {out : (zI × zJ)} (hF : e_Battery_take_56 b  x1 x3 s0 s1 μ ν = some out) : Z l D dA ad sh m_Battery_take (zR 2 0 0) (zS ad) (zOv out) 0 0 0 0 [] 56 [(0, .ref (ad (b + 12))), (1, .int x1), (2, .ref (ad (b + 1))), (3, .int x3)] [.int s1, .int s0] μ ν := by
  unfold e_Battery_take_56 at hF
  refine z_iadd d_Battery_take_56 ?_
  obtain ⟨y1, hy1, hF⟩ := zh_let hF
  refine z_eqi hy1 ?_
  refine z_istore d_Battery_take_57 (by decide) (L2 := [(4, .int y1), (0, .ref (ad (b + 12))), (1, .int x1), (2, .ref (ad (b + 1))), (3, .int x3)]) rfl ?_
  refine z_aload_n d_Battery_take_59 1 rfl rfl ?_
  refine z_aload_n d_Battery_take_60 1 rfl rfl ?_
  refine z_iload_n d_Battery_take_61 2 rfl rfl ?_
  refine z_iload d_Battery_take_62 0 rfl ?_
  refine z_aload_n d_Battery_take_64 3 rfl rfl ?_
  obtain ⟨ty2, hty2, hF⟩ := zh_bind hF
  refine z_callV d_Battery_take_65 (c_Battery_wanted hs hty2) mv_Battery_wanted l_Battery_42 (fun _ _ h => h) (hs 12 _ rfl) rfl rfl ⟨Nat.le_of_ble_eq_true rfl, Nat.le_of_ble_eq_true rfl⟩ ⟨Nat.le_of_ble_eq_true rfl, Nat.le_of_ble_eq_true rfl⟩ rfl (Nat.le_of_ble_eq_true rfl) (fun r μ' ν' hq => ?_)
  obtain ⟨rfl, rfl, rfl⟩ := hq
  show Z _ _ _ _ _ _ _ _ _ _ _ 0 0 _ _ _ [.int ty2.1, .ref (ad (b + 12))] _ _
  refine z_iload_n d_Battery_take_68 4 rfl rfl ?_
  refine z_aload_n d_Battery_take_69 1 rfl rfl ?_
  refine z_get d_Battery_take_70 f_Battery_9 (hs 12 _ rfl) rfl ?_
  refine z_isub d_Battery_take_73 ?_
  refine z_min d_Battery_take_74 l_Battery_36 ma_min_s ma_i ma_min_c ⟨Nat.le_of_ble_eq_true rfl, Nat.le_of_ble_eq_true rfl, Nat.zero_le _, Nat.zero_le _⟩ ?_
  refine z_put d_Battery_take_77 f_Battery_24 (hs 12 _ rfl) rfl (CL_fin _ _ (fun q hq => by cases hq; rfl)) rfl rfl ?_
  obtain ⟨μy3, hy3, hF⟩ := zh_let hF
  refine z_eqm hy3 ?_
  refine z_aload_n d_Battery_take_80 1 rfl rfl ?_
  refine z_dup d_Battery_take_81 rfl ?_
  refine z_get d_Battery_take_82 f_Battery_9 (hs 12 _ rfl) rfl ?_
  refine z_aload_n d_Battery_take_85 1 rfl rfl ?_
  refine z_get d_Battery_take_86 f_Battery_24 (hs 12 _ rfl) rfl ?_
  refine z_iadd d_Battery_take_89 ?_
  refine z_put d_Battery_take_90 f_Battery_9 (hs 12 _ rfl) rfl (CL_fin _ _ (fun q hq => by cases hq; rfl)) rfl rfl ?_
  obtain ⟨μy4, hy4, hF⟩ := zh_let hF
  refine z_eqm hy4 ?_
  refine z_aload_n d_Battery_take_93 1 rfl rfl ?_
  refine z_aload_n d_Battery_take_94 1 rfl rfl ?_
  refine z_iload_n d_Battery_take_95 2 rfl rfl ?_
  refine z_iload d_Battery_take_96 0 rfl ?_
  refine z_aload_n d_Battery_take_98 3 rfl rfl ?_
  obtain ⟨ty5, hty5, hF⟩ := zh_bind hF
  refine z_callV d_Battery_take_99 (c_Battery_nextStage hs hty5) mv_Battery_nextStage l_Battery_46 (fun _ _ h => h) (hs 12 _ rfl) rfl rfl ⟨Nat.le_of_ble_eq_true rfl, Nat.le_of_ble_eq_true rfl⟩ ⟨Nat.le_of_ble_eq_true rfl, Nat.le_of_ble_eq_true rfl⟩ rfl (Nat.le_of_ble_eq_true rfl) (fun r μ' ν' hq => ?_)
  obtain ⟨rfl, rfl, rfl⟩ := hq
  show Z _ _ _ _ _ _ _ _ _ _ _ 0 0 _ _ _ [.int ty5.1, .ref (ad (b + 12))] _ _
  refine z_put d_Battery_take_102 f_Battery_27 (hs 12 _ rfl) rfl (CL_fin _ _ (fun q hq => by cases hq; rfl)) rfl rfl ?_
  obtain ⟨μy6, hy6, hF⟩ := zh_let hF
  refine z_eqm hy6 ?_
  refine z_aload_n d_Battery_take_105 1 rfl rfl ?_
  refine z_get d_Battery_take_106 f_Battery_27 (hs 12 _ rfl) rfl ?_
  refine z_iconst d_Battery_take_109 (v := 1) (by decide) ?_
  refine z_icmp_ne d_Battery_take_110 (tgt := 118) (by decide) (fun cy7 => ?_) (fun cy7 => ?_)
  · replace hF := zh_f cy7 hF
    refine z_sub [1, 2, 3, 4, 0] (L' := [(0, .ref (ad (b + 12))), (1, .int x1), (2, .ref (ad (b + 1))), (3, .int x3), (4, .int y1)]) rfl ?_
    exact z_Battery_take_118 hs  hF
  · replace hF := zh_t cy7 hF
    refine z_aload_n d_Battery_take_113 1 rfl rfl ?_
    refine z_iconst d_Battery_take_114 (v := 0) (by decide) ?_
    refine z_put d_Battery_take_115 f_Battery_18 (hs 12 _ rfl) rfl (CL_fin _ _ (fun q hq => by cases hq; rfl)) rfl rfl ?_
    obtain ⟨μy8, hy8, hF⟩ := zh_let hF
    refine z_eqm hy8 ?_
    refine z_sub [1, 2, 3, 4, 0] (L' := [(0, .ref (ad (b + 12))), (1, .int x1), (2, .ref (ad (b + 1))), (3, .int x3), (4, .int y1)]) rfl ?_
    exact z_Battery_take_118 hs  hF
def e_Battery_take_0 (b : Nat)  (x1 : Int32) (μ : zI) (ν : zJ) : Option (zI × zJ) := Option.bind (E_Told_get b 0 μ ν) fun ty1 => zlet (α := Int32) ty1.1 fun y2 => Option.bind (E_Told_get b 1 ty1.2.1 ty1.2.2) fun ty3 => zlet (zu ty3.2.1 (b + 12) 3 (zMin (ty1.2.1 (b + 12) 0) ty3.1)) fun μy4 => zlet (zu μy4 (b + 12) 0 ((μy4 (b + 12) 0) - (μy4 (b + 12) 3))) fun μy5 => (if y2 ≤ 0 then e_Battery_take_56 b x1 y2 1100 0 μy5 ty3.2.2 else (if y2 = 0 then none else e_Battery_take_56 b x1 y2 1100 ((300 * (μy5 (b + 12) 0)) / y2) μy5 ty3.2.2))
theorem z_Battery_take_0 {l : Launch} {D : va_G} {dA : Nat → ClassId} {ad : Nat → Nat} {sh : List zSE}  {b : Nat} (hs : zSt sh b)  {x1 : Int32} {μ : zI} {ν : zJ} {out : (zI × zJ)} (hF : e_Battery_take_0 b  x1 μ ν = some out) : Z l D dA ad sh m_Battery_take (zR 2 0 0) (zS ad) (zOv out) 0 0 0 0 [] 0 [(0, .ref (ad (b + 12))), (1, .int x1), (2, .ref (ad (b + 1)))] [] μ ν := by
  unfold e_Battery_take_0 at hF
  refine z_aload_n d_Battery_take_0 2 rfl rfl ?_
  refine z_iconst d_Battery_take_1 (v := 0) (by decide) ?_
  obtain ⟨ty1, hty1, hF⟩ := zh_bind hF
  refine z_callV d_Battery_take_2 (c_Told_get hs hty1) mv_Told_get l_Battery_32 (fun _ _ h => h) (hs 1 _ rfl) rfl rfl ⟨Nat.le_of_ble_eq_true rfl, Nat.le_of_ble_eq_true rfl⟩ ⟨Nat.le_of_ble_eq_true rfl, Nat.le_of_ble_eq_true rfl⟩ rfl (Nat.le_of_ble_eq_true rfl) (fun r μ' ν' hq => ?_)
  obtain ⟨rfl, rfl, rfl⟩ := hq
  show Z _ _ _ _ _ _ _ _ _ _ _ 0 0 _ _ _ [.int ty1.1] _ _
  obtain ⟨y2, hy2, hF⟩ := zh_let hF
  refine z_eqi hy2 ?_
  refine z_istore_n d_Battery_take_5 rfl (by decide) (L2 := [(3, .int y2), (0, .ref (ad (b + 12))), (1, .int x1), (2, .ref (ad (b + 1)))]) rfl ?_
  refine z_aload_n d_Battery_take_6 1 rfl rfl ?_
  refine z_aload_n d_Battery_take_7 1 rfl rfl ?_
  refine z_get d_Battery_take_8 f_Battery_9 (hs 12 _ rfl) rfl ?_
  refine z_aload_n d_Battery_take_11 3 rfl rfl ?_
  refine z_iconst d_Battery_take_12 (v := 1) (by decide) ?_
  obtain ⟨ty3, hty3, hF⟩ := zh_bind hF
  refine z_callV d_Battery_take_13 (c_Told_get hs hty3) mv_Told_get l_Battery_32 (fun _ _ h => h) (hs 1 _ rfl) rfl rfl ⟨Nat.le_of_ble_eq_true rfl, Nat.le_of_ble_eq_true rfl⟩ ⟨Nat.le_of_ble_eq_true rfl, Nat.le_of_ble_eq_true rfl⟩ rfl (Nat.le_of_ble_eq_true rfl) (fun r μ' ν' hq => ?_)
  obtain ⟨rfl, rfl, rfl⟩ := hq
  show Z _ _ _ _ _ _ _ _ _ _ _ 0 0 _ _ _ [.int ty3.1, .int (ty1.2.1 (b + 12) 0), .ref (ad (b + 12))] _ _
  refine z_min d_Battery_take_16 l_Battery_36 ma_min_s ma_i ma_min_c ⟨Nat.le_of_ble_eq_true rfl, Nat.le_of_ble_eq_true rfl, Nat.zero_le _, Nat.zero_le _⟩ ?_
  refine z_put d_Battery_take_19 f_Battery_21 (hs 12 _ rfl) rfl (CL_fin _ _ (fun q hq => by cases hq; rfl)) rfl rfl ?_
  obtain ⟨μy4, hy4, hF⟩ := zh_let hF
  refine z_eqm hy4 ?_
  refine z_aload_n d_Battery_take_22 1 rfl rfl ?_
  refine z_dup d_Battery_take_23 rfl ?_
  refine z_get d_Battery_take_24 f_Battery_9 (hs 12 _ rfl) rfl ?_
  refine z_aload_n d_Battery_take_27 1 rfl rfl ?_
  refine z_get d_Battery_take_28 f_Battery_21 (hs 12 _ rfl) rfl ?_
  refine z_isub d_Battery_take_31 ?_
  refine z_put d_Battery_take_32 f_Battery_9 (hs 12 _ rfl) rfl (CL_fin _ _ (fun q hq => by cases hq; rfl)) rfl rfl ?_
  obtain ⟨μy5, hy5, hF⟩ := zh_let hF
  refine z_eqm hy5 ?_
  refine z_sipush d_Battery_take_35 (v := 1100) (by decide) ?_
  refine z_iload_n d_Battery_take_38 0 rfl rfl ?_
  refine z_if_le d_Battery_take_39 (tgt := 55) (by decide) (fun cy6 => ?_) (fun cy6 => ?_)
  · replace hF := zh_t cy6 hF
    refine z_iconst d_Battery_take_55 (v := 0) (by decide) ?_
    refine z_sub [1, 2, 3, 0] (L' := [(0, .ref (ad (b + 12))), (1, .int x1), (2, .ref (ad (b + 1))), (3, .int y2)]) rfl ?_
    exact z_Battery_take_56 hs  hF
  · replace hF := zh_f cy6 hF
    refine z_sipush d_Battery_take_42 (v := 300) (by decide) ?_
    refine z_aload_n d_Battery_take_45 1 rfl rfl ?_
    refine z_get d_Battery_take_46 f_Battery_9 (hs 12 _ rfl) rfl ?_
    refine z_imul d_Battery_take_49 ?_
    refine z_iload_n d_Battery_take_50 0 rfl rfl ?_
    obtain ⟨hy7, hF⟩ := zh_ne hF
    refine z_idiv d_Battery_take_51 hy7 ?_
    refine z_goto d_Battery_take_52 (tgt := 56) (by decide) ?_
    refine z_sub [1, 2, 3, 0] (L' := [(0, .ref (ad (b + 12))), (1, .int x1), (2, .ref (ad (b + 1))), (3, .int y2)]) rfl ?_
    exact z_Battery_take_56 hs  hF
def E_Battery_take (b : Nat) (x1 : Int32) (μ : zI) (ν : zJ) : Option (zI × zJ) := e_Battery_take_0 b x1 μ ν
theorem c_Battery_take {l : Launch} {D : va_G} {dA : Nat → ClassId} {ad : Nat → Nat} {sh : List zSE} {μ : zI} {ν : zJ} {b : Nat} {x1 : Int32} (hs : zSt sh b) {out : (zI × zJ)} (hE : E_Battery_take b x1 μ ν = some out) : zC l D dA ad sh m_Battery_take 2 0 0 [.ref (ad (b + 12)), .int x1, .ref (ad (b + 1))] μ ν (zOv out) :=
  zC.of (by decide) (Nat.le_of_ble_eq_true rfl) (z_Battery_take_0 hs hE)
def e_Inverter_pushed_24   (x0 : Int32) (x1 : Int32) (x2 : Int32) (x3 : Int32) (s0 : Int32) (μ : zI) (ν : zJ) : Option (Int32 × zI × zJ) := some (s0, μ, ν)
theorem z_Inverter_pushed_24 {l : Launch} {D : va_G} {dA : Nat → ClassId} {ad : Nat → Nat} {sh : List zSE}    {x0 : Int32} {x1 : Int32} {x2 : Int32} {x3 : Int32} {s0 : Int32} {μ : zI} {ν : zJ} {out : (Int32 × zI × zJ)} (hF : e_Inverter_pushed_24   x0 x1 x2 x3 s0 μ ν = some out) : Z l D dA ad sh m_Inverter_pushed (zR 0 0 0) (zS ad) (zOi out) 0 0 0 0 [] 24 [(0, .int x0), (1, .int x1), (2, .int x2), (3, .int x3)] [.int s0] μ ν := by
  unfold e_Inverter_pushed_24 at hF
  cases hF
  exact z_ireturn d_Inverter_pushed_24 rfl rfl ⟨rfl, rfl, rfl⟩
def e_Inverter_pushed_0   (x0 : Int32) (x1 : Int32) (x2 : Int32) (μ : zI) (ν : zJ) : Option (Int32 × zI × zJ) := zlet (α := Int32) (x0 + ((x1 - x0) / 8)) fun y1 => (if y1 < 50000 then e_Inverter_pushed_24 x0 x1 x2 y1 (y1 - x2) μ ν else e_Inverter_pushed_24 x0 x1 x2 y1 (y1 + x2) μ ν)
theorem z_Inverter_pushed_0 {l : Launch} {D : va_G} {dA : Nat → ClassId} {ad : Nat → Nat} {sh : List zSE}    {x0 : Int32} {x1 : Int32} {x2 : Int32} {μ : zI} {ν : zJ} {out : (Int32 × zI × zJ)} (hF : e_Inverter_pushed_0   x0 x1 x2 μ ν = some out) : Z l D dA ad sh m_Inverter_pushed (zR 0 0 0) (zS ad) (zOi out) 0 0 0 0 [] 0 [(0, .int x0), (1, .int x1), (2, .int x2)] [] μ ν := by
  unfold e_Inverter_pushed_0 at hF
  refine z_iload_n d_Inverter_pushed_0 0 rfl rfl ?_
  refine z_iload_n d_Inverter_pushed_1 1 rfl rfl ?_
  refine z_iload_n d_Inverter_pushed_2 0 rfl rfl ?_
  refine z_isub d_Inverter_pushed_3 ?_
  refine z_bipush d_Inverter_pushed_4 (v := 8) (by decide) ?_
  refine z_idiv d_Inverter_pushed_6 (by decide) ?_
  refine z_iadd d_Inverter_pushed_7 ?_
  obtain ⟨y1, hy1, hF⟩ := zh_let hF
  refine z_eqi hy1 ?_
  refine z_istore_n d_Inverter_pushed_8 rfl (by decide) (L2 := [(3, .int y1), (0, .int x0), (1, .int x1), (2, .int x2)]) rfl ?_
  refine z_iload_n d_Inverter_pushed_9 0 rfl rfl ?_
  refine z_ldc d_Inverter_pushed_10 k_Inverter_19 ?_
  refine z_icmp_lt d_Inverter_pushed_12 (tgt := 21) (by decide) (fun cy2 => ?_) (fun cy2 => ?_)
  · replace hF := zh_t cy2 hF
    refine z_iload_n d_Inverter_pushed_21 0 rfl rfl ?_
    refine z_iload_n d_Inverter_pushed_22 3 rfl rfl ?_
    refine z_isub d_Inverter_pushed_23 ?_
    refine z_sub [1, 2, 3, 0] (L' := [(0, .int x0), (1, .int x1), (2, .int x2), (3, .int y1)]) rfl ?_
    exact z_Inverter_pushed_24   hF
  · replace hF := zh_f cy2 hF
    refine z_iload_n d_Inverter_pushed_15 0 rfl rfl ?_
    refine z_iload_n d_Inverter_pushed_16 3 rfl rfl ?_
    refine z_iadd d_Inverter_pushed_17 ?_
    refine z_goto d_Inverter_pushed_18 (tgt := 24) (by decide) ?_
    refine z_sub [1, 2, 3, 0] (L' := [(0, .int x0), (1, .int x1), (2, .int x2), (3, .int y1)]) rfl ?_
    exact z_Inverter_pushed_24   hF
def E_Inverter_pushed  (x0 : Int32) (x1 : Int32) (x2 : Int32) (μ : zI) (ν : zJ) : Option (Int32 × zI × zJ) := e_Inverter_pushed_0 x0 x1 x2 μ ν
theorem c_Inverter_pushed {l : Launch} {D : va_G} {dA : Nat → ClassId} {ad : Nat → Nat} {sh : List zSE} {μ : zI} {ν : zJ} {x0 : Int32} {x1 : Int32} {x2 : Int32}  {out : (Int32 × zI × zJ)} (hE : E_Inverter_pushed x0 x1 x2 μ ν = some out) : zC l D dA ad sh m_Inverter_pushed 0 0 0 [.int x0, .int x1, .int x2] μ ν (zOi out) :=
  zC.of (by decide) (Nat.le_of_ble_eq_true rfl) (z_Inverter_pushed_0  hE)
def e_Inverter_isFar_21 (b : Nat)  (x0 : Int32) (s0 : Int32) (μ : zI) (ν : zJ) : Option (Int32 × zI × zJ) := (if zb s0 = true then some (s0, μ, ν) else none)
theorem z_Inverter_isFar_21 {l : Launch} {D : va_G} {dA : Nat → ClassId} {ad : Nat → Nat} {sh : List zSE}  {b : Nat} (hs : zSt sh b)  {x0 : Int32} {s0 : Int32} {μ : zI} {ν : zJ} {out : (Int32 × zI × zJ)} (hF : e_Inverter_isFar_21 b  x0 s0 μ ν = some out) : Z l D dA ad sh m_Inverter_isFar (zR 1 0 0) (zS ad) (zOi out) 0 0 0 0 [] 21 [(0, .int x0), (1, .ref (ad (b + 1)))] [.int s0] μ ν := by
  unfold e_Inverter_isFar_21 at hF
  obtain ⟨hy1, hF⟩ := zh_if hF
  cases hF
  exact z_ireturn d_Inverter_isFar_21 rfl (zb_n hy1) ⟨rfl, rfl, rfl⟩
def e_Inverter_isFar_0 (b : Nat)  (x0 : Int32) (μ : zI) (ν : zJ) : Option (Int32 × zI × zJ) := Option.bind (E_Told_get b 7 μ ν) fun ty1 => (if (zAbs (x0 - 50000)) ≤ ty1.1 then e_Inverter_isFar_21 b x0 0 ty1.2.1 ty1.2.2 else e_Inverter_isFar_21 b x0 1 ty1.2.1 ty1.2.2)
theorem z_Inverter_isFar_0 {l : Launch} {D : va_G} {dA : Nat → ClassId} {ad : Nat → Nat} {sh : List zSE}  {b : Nat} (hs : zSt sh b)  {x0 : Int32} {μ : zI} {ν : zJ} {out : (Int32 × zI × zJ)} (hF : e_Inverter_isFar_0 b  x0 μ ν = some out) : Z l D dA ad sh m_Inverter_isFar (zR 1 0 0) (zS ad) (zOi out) 0 0 0 0 [] 0 [(0, .int x0), (1, .ref (ad (b + 1)))] [] μ ν := by
  unfold e_Inverter_isFar_0 at hF
  refine z_iload_n d_Inverter_isFar_0 0 rfl rfl ?_
  refine z_ldc d_Inverter_isFar_1 k_Inverter_19 ?_
  refine z_isub d_Inverter_isFar_3 ?_
  refine z_abs d_Inverter_isFar_4 l_Inverter_65 ma_abs_s ma_i ma_abs_c ⟨Nat.le_of_ble_eq_true rfl, Nat.le_of_ble_eq_true rfl, Nat.zero_le _, Nat.zero_le _⟩ ?_
  refine z_aload_n d_Inverter_isFar_7 1 rfl rfl ?_
  refine z_bipush d_Inverter_isFar_8 (v := 7) (by decide) ?_
  obtain ⟨ty1, hty1, hF⟩ := zh_bind hF
  refine z_callV d_Inverter_isFar_10 (c_Told_get hs hty1) mv_Told_get l_Inverter_44 (fun _ _ h => h) (hs 1 _ rfl) rfl rfl ⟨Nat.le_of_ble_eq_true rfl, Nat.le_of_ble_eq_true rfl⟩ ⟨Nat.le_of_ble_eq_true rfl, Nat.le_of_ble_eq_true rfl⟩ rfl (Nat.le_of_ble_eq_true rfl) (fun r μ' ν' hq => ?_)
  obtain ⟨rfl, rfl, rfl⟩ := hq
  show Z _ _ _ _ _ _ _ _ _ _ _ 0 0 _ _ _ [.int ty1.1, .int (zAbs (x0 - 50000))] _ _
  refine z_icmp_le d_Inverter_isFar_13 (tgt := 20) (by decide) (fun cy2 => ?_) (fun cy2 => ?_)
  · replace hF := zh_t cy2 hF
    refine z_iconst d_Inverter_isFar_20 (v := 0) (by decide) ?_
    exact z_Inverter_isFar_21 hs  hF
  · replace hF := zh_f cy2 hF
    refine z_iconst d_Inverter_isFar_16 (v := 1) (by decide) ?_
    refine z_goto d_Inverter_isFar_17 (tgt := 21) (by decide) ?_
    exact z_Inverter_isFar_21 hs  hF
def E_Inverter_isFar (b : Nat) (x0 : Int32) (μ : zI) (ν : zJ) : Option (Int32 × zI × zJ) := e_Inverter_isFar_0 b x0 μ ν
theorem c_Inverter_isFar {l : Launch} {D : va_G} {dA : Nat → ClassId} {ad : Nat → Nat} {sh : List zSE} {μ : zI} {ν : zJ} {b : Nat} {x0 : Int32} (hs : zSt sh b) {out : (Int32 × zI × zJ)} (hE : E_Inverter_isFar b x0 μ ν = some out) : zC l D dA ad sh m_Inverter_isFar 1 0 0 [.int x0, .ref (ad (b + 1))] μ ν (zOi out) :=
  zC.of (by decide) (Nat.le_of_ble_eq_true rfl) (z_Inverter_isFar_0 hs hE)
def e_Inverter_drive_92 (b : Nat)   (μ : zI) (ν : zJ) : Option (zI × zJ) := some (μ, ν)
theorem z_Inverter_drive_92 {l : Launch} {D : va_G} {dA : Nat → ClassId} {ad : Nat → Nat} {sh : List zSE}  {b : Nat} (hs : zSt sh b)   {μ : zI} {ν : zJ} {out : (zI × zJ)} (hF : e_Inverter_drive_92 b   μ ν = some out) : Z l D dA ad sh m_Inverter_drive (zR 2 0 0) (zS ad) (zOv out) 0 0 0 0 [] 92 [(0, .ref (ad (b + 13))), (1, .ref (ad (b + 1)))] [] μ ν := by
  unfold e_Inverter_drive_92 at hF
  cases hF
  exact z_return d_Inverter_drive_92 rfl ⟨rfl, rfl, rfl⟩
def e_Inverter_drive_56 (b : Nat)  (s1 : Int32) (μ : zI) (ν : zJ) : Option (zI × zJ) := zlet (zu μ (b + 13) 5 s1) fun μy1 => Option.bind (E_Told_get b 8 μy1 ν) fun ty2 => (if (μy1 (b + 13) 5) < ty2.1 then e_Inverter_drive_92 b ty2.2.1 ty2.2.2 else zlet (zu ty2.2.1 (b + 13) 7 1) fun μy4 => zlet (zu μy4 (b + 13) 0 0) fun μy5 => zlet (zu μy5 (b + 13) 6 0) fun μy6 => zlet (zu μy6 (b + 13) 5 0) fun μy7 => e_Inverter_drive_92 b μy7 ty2.2.2)
theorem z_Inverter_drive_56 {l : Launch} {D : va_G} {dA : Nat → ClassId} {ad : Nat → Nat} {sh : List zSE}  {b : Nat} (hs : zSt sh b)  {s1 : Int32} {μ : zI} {ν : zJ} {out : (zI × zJ)} (hF : e_Inverter_drive_56 b  s1 μ ν = some out) : Z l D dA ad sh m_Inverter_drive (zR 2 0 0) (zS ad) (zOv out) 0 0 0 0 [] 56 [(0, .ref (ad (b + 13))), (1, .ref (ad (b + 1)))] [.int s1, .ref (ad (b + 13))] μ ν := by
  unfold e_Inverter_drive_56 at hF
  refine z_put d_Inverter_drive_56 f_Inverter_29 (hs 13 _ rfl) rfl (CL_fin _ _ (fun q hq => by cases hq; rfl)) rfl rfl ?_
  obtain ⟨μy1, hy1, hF⟩ := zh_let hF
  refine z_eqm hy1 ?_
  refine z_aload_n d_Inverter_drive_59 0 rfl rfl ?_
  refine z_get d_Inverter_drive_60 f_Inverter_29 (hs 13 _ rfl) rfl ?_
  refine z_aload_n d_Inverter_drive_63 1 rfl rfl ?_
  refine z_bipush d_Inverter_drive_64 (v := 8) (by decide) ?_
  obtain ⟨ty2, hty2, hF⟩ := zh_bind hF
  refine z_callV d_Inverter_drive_66 (c_Told_get hs hty2) mv_Told_get l_Inverter_44 (fun _ _ h => h) (hs 1 _ rfl) rfl rfl ⟨Nat.le_of_ble_eq_true rfl, Nat.le_of_ble_eq_true rfl⟩ ⟨Nat.le_of_ble_eq_true rfl, Nat.le_of_ble_eq_true rfl⟩ rfl (Nat.le_of_ble_eq_true rfl) (fun r μ' ν' hq => ?_)
  obtain ⟨rfl, rfl, rfl⟩ := hq
  show Z _ _ _ _ _ _ _ _ _ _ _ 0 0 _ _ _ [.int ty2.1, .int (μy1 (b + 13) 5)] _ _
  refine z_icmp_lt d_Inverter_drive_69 (tgt := 92) (by decide) (fun cy3 => ?_) (fun cy3 => ?_)
  · replace hF := zh_t cy3 hF
    exact z_Inverter_drive_92 hs  hF
  · replace hF := zh_f cy3 hF
    refine z_aload_n d_Inverter_drive_72 0 rfl rfl ?_
    refine z_iconst d_Inverter_drive_73 (v := 1) (by decide) ?_
    refine z_put d_Inverter_drive_74 f_Inverter_35 (hs 13 _ rfl) rfl (CL_fin _ _ (fun q hq => by cases hq; rfl)) (by decide) (by decide) ?_
    obtain ⟨μy4, hy4, hF⟩ := zh_let hF
    refine z_eqm hy4 ?_
    refine z_aload_n d_Inverter_drive_77 0 rfl rfl ?_
    refine z_iconst d_Inverter_drive_78 (v := 0) (by decide) ?_
    refine z_put d_Inverter_drive_79 f_Inverter_9 (hs 13 _ rfl) rfl (CL_fin _ _ (fun q hq => by cases hq; rfl)) (by decide) (by decide) ?_
    obtain ⟨μy5, hy5, hF⟩ := zh_let hF
    refine z_eqm hy5 ?_
    refine z_aload_n d_Inverter_drive_82 0 rfl rfl ?_
    refine z_iconst d_Inverter_drive_83 (v := 0) (by decide) ?_
    refine z_put d_Inverter_drive_84 f_Inverter_32 (hs 13 _ rfl) rfl (CL_fin _ _ (fun q hq => by cases hq; rfl)) rfl rfl ?_
    obtain ⟨μy6, hy6, hF⟩ := zh_let hF
    refine z_eqm hy6 ?_
    refine z_aload_n d_Inverter_drive_87 0 rfl rfl ?_
    refine z_iconst d_Inverter_drive_88 (v := 0) (by decide) ?_
    refine z_put d_Inverter_drive_89 f_Inverter_29 (hs 13 _ rfl) rfl (CL_fin _ _ (fun q hq => by cases hq; rfl)) rfl rfl ?_
    obtain ⟨μy7, hy7, hF⟩ := zh_let hF
    refine z_eqm hy7 ?_
    exact z_Inverter_drive_92 hs  hF
def e_Inverter_drive_31 (b : Nat)  (s1 : Int32) (μ : zI) (ν : zJ) : Option (zI × zJ) := zlet (zu μ (b + 13) 3 s1) fun μy1 => Option.bind (E_Inverter_isFar b (μy1 (b + 13) 3) μy1 ν) fun ty2 => (if ty2.1 = 0 then e_Inverter_drive_56 b 0 ty2.2.1 ty2.2.2 else e_Inverter_drive_56 b ((ty2.2.1 (b + 13) 5) + 1) ty2.2.1 ty2.2.2)
theorem z_Inverter_drive_31 {l : Launch} {D : va_G} {dA : Nat → ClassId} {ad : Nat → Nat} {sh : List zSE}  {b : Nat} (hs : zSt sh b)  {s1 : Int32} {μ : zI} {ν : zJ} {out : (zI × zJ)} (hF : e_Inverter_drive_31 b  s1 μ ν = some out) : Z l D dA ad sh m_Inverter_drive (zR 2 0 0) (zS ad) (zOv out) 0 0 0 0 [] 31 [(0, .ref (ad (b + 13))), (1, .ref (ad (b + 1)))] [.int s1, .ref (ad (b + 13))] μ ν := by
  unfold e_Inverter_drive_31 at hF
  refine z_put d_Inverter_drive_31 f_Inverter_23 (hs 13 _ rfl) rfl (CL_fin _ _ (fun q hq => by cases hq; rfl)) rfl rfl ?_
  obtain ⟨μy1, hy1, hF⟩ := zh_let hF
  refine z_eqm hy1 ?_
  refine z_aload_n d_Inverter_drive_34 0 rfl rfl ?_
  refine z_aload_n d_Inverter_drive_35 0 rfl rfl ?_
  refine z_get d_Inverter_drive_36 f_Inverter_23 (hs 13 _ rfl) rfl ?_
  refine z_aload_n d_Inverter_drive_39 1 rfl rfl ?_
  obtain ⟨ty2, hty2, hF⟩ := zh_bind hF
  refine z_callS d_Inverter_drive_40 (c_Inverter_isFar hs hty2) ms_Inverter_isFar l_Inverter_61 (fun _ _ h => h) rfl ⟨Nat.le_of_ble_eq_true rfl, Nat.le_of_ble_eq_true rfl⟩ ⟨Nat.le_of_ble_eq_true rfl, Nat.le_of_ble_eq_true rfl⟩ rfl (Nat.le_of_ble_eq_true rfl) (fun r μ' ν' hq => ?_)
  obtain ⟨rfl, rfl, rfl⟩ := hq
  show Z _ _ _ _ _ _ _ _ _ _ _ 0 0 _ _ _ [.int ty2.1, .ref (ad (b + 13))] _ _
  refine z_if_eq d_Inverter_drive_43 (tgt := 55) (by decide) (fun cy3 => ?_) (fun cy3 => ?_)
  · replace hF := zh_t cy3 hF
    refine z_iconst d_Inverter_drive_55 (v := 0) (by decide) ?_
    exact z_Inverter_drive_56 hs  hF
  · replace hF := zh_f cy3 hF
    refine z_aload_n d_Inverter_drive_46 0 rfl rfl ?_
    refine z_get d_Inverter_drive_47 f_Inverter_29 (hs 13 _ rfl) rfl ?_
    refine z_iconst d_Inverter_drive_50 (v := 1) (by decide) ?_
    refine z_iadd d_Inverter_drive_51 ?_
    refine z_goto d_Inverter_drive_52 (tgt := 56) (by decide) ?_
    exact z_Inverter_drive_56 hs  hF
def e_Inverter_drive_0 (b : Nat)   (μ : zI) (ν : zJ) : Option (zI × zJ) := (if (μ (b + 13) 1) = 1 then e_Inverter_drive_31 b 50000 μ ν else Option.bind (E_Told_get b 9 μ ν) fun ty2 => Option.bind (E_Inverter_pushed (μ (b + 13) 3) (μ (b + 13) 2) ty2.1 ty2.2.1 ty2.2.2) fun ty3 => e_Inverter_drive_31 b ty3.1 ty3.2.1 ty3.2.2)
theorem z_Inverter_drive_0 {l : Launch} {D : va_G} {dA : Nat → ClassId} {ad : Nat → Nat} {sh : List zSE}  {b : Nat} (hs : zSt sh b)   {μ : zI} {ν : zJ} {out : (zI × zJ)} (hF : e_Inverter_drive_0 b   μ ν = some out) : Z l D dA ad sh m_Inverter_drive (zR 2 0 0) (zS ad) (zOv out) 0 0 0 0 [] 0 [(0, .ref (ad (b + 13))), (1, .ref (ad (b + 1)))] [] μ ν := by
  unfold e_Inverter_drive_0 at hF
  refine z_aload_n d_Inverter_drive_0 0 rfl rfl ?_
  refine z_aload_n d_Inverter_drive_1 0 rfl rfl ?_
  refine z_get d_Inverter_drive_2 f_Inverter_15 (hs 13 _ rfl) rfl ?_
  refine z_iconst d_Inverter_drive_5 (v := 1) (by decide) ?_
  refine z_icmp_ne d_Inverter_drive_6 (tgt := 14) (by decide) (fun cy1 => ?_) (fun cy1 => ?_)
  · replace hF := zh_f cy1 hF
    refine z_aload_n d_Inverter_drive_14 0 rfl rfl ?_
    refine z_get d_Inverter_drive_15 f_Inverter_23 (hs 13 _ rfl) rfl ?_
    refine z_aload_n d_Inverter_drive_18 0 rfl rfl ?_
    refine z_get d_Inverter_drive_19 f_Inverter_20 (hs 13 _ rfl) rfl ?_
    refine z_aload_n d_Inverter_drive_22 1 rfl rfl ?_
    refine z_bipush d_Inverter_drive_23 (v := 9) (by decide) ?_
    obtain ⟨ty2, hty2, hF⟩ := zh_bind hF
    refine z_callV d_Inverter_drive_25 (c_Told_get hs hty2) mv_Told_get l_Inverter_44 (fun _ _ h => h) (hs 1 _ rfl) rfl rfl ⟨Nat.le_of_ble_eq_true rfl, Nat.le_of_ble_eq_true rfl⟩ ⟨Nat.le_of_ble_eq_true rfl, Nat.le_of_ble_eq_true rfl⟩ rfl (Nat.le_of_ble_eq_true rfl) (fun r μ' ν' hq => ?_)
    obtain ⟨rfl, rfl, rfl⟩ := hq
    show Z _ _ _ _ _ _ _ _ _ _ _ 0 0 _ _ _ [.int ty2.1, .int (μ (b + 13) 2), .int (μ (b + 13) 3), .ref (ad (b + 13))] _ _
    obtain ⟨ty3, hty3, hF⟩ := zh_bind hF
    refine z_callS d_Inverter_drive_28 (c_Inverter_pushed  hty3) ms_Inverter_pushed l_Inverter_57 (fun _ _ h => h) rfl ⟨Nat.le_of_ble_eq_true rfl, Nat.le_of_ble_eq_true rfl⟩ ⟨Nat.le_of_ble_eq_true rfl, Nat.le_of_ble_eq_true rfl⟩ rfl (Nat.le_of_ble_eq_true rfl) (fun r μ' ν' hq => ?_)
    obtain ⟨rfl, rfl, rfl⟩ := hq
    show Z _ _ _ _ _ _ _ _ _ _ _ 0 0 _ _ _ [.int ty3.1, .ref (ad (b + 13))] _ _
    exact z_Inverter_drive_31 hs  hF
  · replace hF := zh_t cy1 hF
    refine z_ldc d_Inverter_drive_9 k_Inverter_19 ?_
    refine z_goto d_Inverter_drive_11 (tgt := 31) (by decide) ?_
    exact z_Inverter_drive_31 hs  hF
def E_Inverter_drive (b : Nat)  (μ : zI) (ν : zJ) : Option (zI × zJ) := e_Inverter_drive_0 b μ ν
theorem c_Inverter_drive {l : Launch} {D : va_G} {dA : Nat → ClassId} {ad : Nat → Nat} {sh : List zSE} {μ : zI} {ν : zJ} {b : Nat} (hs : zSt sh b) {out : (zI × zJ)} (hE : E_Inverter_drive b μ ν = some out) : zC l D dA ad sh m_Inverter_drive 2 0 0 [.ref (ad (b + 13)), .ref (ad (b + 1))] μ ν (zOv out) :=
  zC.of (by decide) (Nat.le_of_ble_eq_true rfl) (z_Inverter_drive_0 hs hE)
def e_Inverter_rest_51 (b : Nat)   (μ : zI) (ν : zJ) : Option (zI × zJ) := some (μ, ν)
theorem z_Inverter_rest_51 {l : Launch} {D : va_G} {dA : Nat → ClassId} {ad : Nat → Nat} {sh : List zSE}  {b : Nat} (hs : zSt sh b)   {μ : zI} {ν : zJ} {out : (zI × zJ)} (hF : e_Inverter_rest_51 b   μ ν = some out) : Z l D dA ad sh m_Inverter_rest (zR 1 0 0) (zS ad) (zOv out) 0 0 0 0 [] 51 [(0, .ref (ad (b + 13))), (1, .ref (ad (b + 1)))] [] μ ν := by
  unfold e_Inverter_rest_51 at hF
  cases hF
  exact z_return d_Inverter_rest_51 rfl ⟨rfl, rfl, rfl⟩
def e_Inverter_rest_19 (b : Nat)  (s1 : Int32) (μ : zI) (ν : zJ) : Option (zI × zJ) := zlet (zu μ (b + 13) 6 s1) fun μy1 => Option.bind (E_Told_get b 10 μy1 ν) fun ty2 => (if (μy1 (b + 13) 6) < ty2.1 then e_Inverter_rest_51 b ty2.2.1 ty2.2.2 else zlet (zu ty2.2.1 (b + 13) 0 1) fun μy4 => zlet (zu μy4 (b + 13) 3 50000) fun μy5 => zlet (zu μy5 (b + 13) 5 0) fun μy6 => e_Inverter_rest_51 b μy6 ty2.2.2)
theorem z_Inverter_rest_19 {l : Launch} {D : va_G} {dA : Nat → ClassId} {ad : Nat → Nat} {sh : List zSE}  {b : Nat} (hs : zSt sh b)  {s1 : Int32} {μ : zI} {ν : zJ} {out : (zI × zJ)} (hF : e_Inverter_rest_19 b  s1 μ ν = some out) : Z l D dA ad sh m_Inverter_rest (zR 1 0 0) (zS ad) (zOv out) 0 0 0 0 [] 19 [(0, .ref (ad (b + 13))), (1, .ref (ad (b + 1)))] [.int s1, .ref (ad (b + 13))] μ ν := by
  unfold e_Inverter_rest_19 at hF
  refine z_put d_Inverter_rest_19 f_Inverter_32 (hs 13 _ rfl) rfl (CL_fin _ _ (fun q hq => by cases hq; rfl)) rfl rfl ?_
  obtain ⟨μy1, hy1, hF⟩ := zh_let hF
  refine z_eqm hy1 ?_
  refine z_aload_n d_Inverter_rest_22 0 rfl rfl ?_
  refine z_get d_Inverter_rest_23 f_Inverter_32 (hs 13 _ rfl) rfl ?_
  refine z_aload_n d_Inverter_rest_26 1 rfl rfl ?_
  refine z_bipush d_Inverter_rest_27 (v := 10) (by decide) ?_
  obtain ⟨ty2, hty2, hF⟩ := zh_bind hF
  refine z_callV d_Inverter_rest_29 (c_Told_get hs hty2) mv_Told_get l_Inverter_44 (fun _ _ h => h) (hs 1 _ rfl) rfl rfl ⟨Nat.le_of_ble_eq_true rfl, Nat.le_of_ble_eq_true rfl⟩ ⟨Nat.le_of_ble_eq_true rfl, Nat.le_of_ble_eq_true rfl⟩ rfl (Nat.le_of_ble_eq_true rfl) (fun r μ' ν' hq => ?_)
  obtain ⟨rfl, rfl, rfl⟩ := hq
  show Z _ _ _ _ _ _ _ _ _ _ _ 0 0 _ _ _ [.int ty2.1, .int (μy1 (b + 13) 6)] _ _
  refine z_icmp_lt d_Inverter_rest_32 (tgt := 51) (by decide) (fun cy3 => ?_) (fun cy3 => ?_)
  · replace hF := zh_t cy3 hF
    exact z_Inverter_rest_51 hs  hF
  · replace hF := zh_f cy3 hF
    refine z_aload_n d_Inverter_rest_35 0 rfl rfl ?_
    refine z_iconst d_Inverter_rest_36 (v := 1) (by decide) ?_
    refine z_put d_Inverter_rest_37 f_Inverter_9 (hs 13 _ rfl) rfl (CL_fin _ _ (fun q hq => by cases hq; rfl)) (by decide) (by decide) ?_
    obtain ⟨μy4, hy4, hF⟩ := zh_let hF
    refine z_eqm hy4 ?_
    refine z_aload_n d_Inverter_rest_40 0 rfl rfl ?_
    refine z_ldc d_Inverter_rest_41 k_Inverter_19 ?_
    refine z_put d_Inverter_rest_43 f_Inverter_23 (hs 13 _ rfl) rfl (CL_fin _ _ (fun q hq => by cases hq; rfl)) rfl rfl ?_
    obtain ⟨μy5, hy5, hF⟩ := zh_let hF
    refine z_eqm hy5 ?_
    refine z_aload_n d_Inverter_rest_46 0 rfl rfl ?_
    refine z_iconst d_Inverter_rest_47 (v := 0) (by decide) ?_
    refine z_put d_Inverter_rest_48 f_Inverter_29 (hs 13 _ rfl) rfl (CL_fin _ _ (fun q hq => by cases hq; rfl)) rfl rfl ?_
    obtain ⟨μy6, hy6, hF⟩ := zh_let hF
    refine z_eqm hy6 ?_
    exact z_Inverter_rest_51 hs  hF
def e_Inverter_rest_0 (b : Nat)   (μ : zI) (ν : zJ) : Option (zI × zJ) := (if (μ (b + 13) 1) = 1 then e_Inverter_rest_19 b ((μ (b + 13) 6) + 1) μ ν else e_Inverter_rest_19 b 0 μ ν)
theorem z_Inverter_rest_0 {l : Launch} {D : va_G} {dA : Nat → ClassId} {ad : Nat → Nat} {sh : List zSE}  {b : Nat} (hs : zSt sh b)   {μ : zI} {ν : zJ} {out : (zI × zJ)} (hF : e_Inverter_rest_0 b   μ ν = some out) : Z l D dA ad sh m_Inverter_rest (zR 1 0 0) (zS ad) (zOv out) 0 0 0 0 [] 0 [(0, .ref (ad (b + 13))), (1, .ref (ad (b + 1)))] [] μ ν := by
  unfold e_Inverter_rest_0 at hF
  refine z_aload_n d_Inverter_rest_0 0 rfl rfl ?_
  refine z_aload_n d_Inverter_rest_1 0 rfl rfl ?_
  refine z_get d_Inverter_rest_2 f_Inverter_15 (hs 13 _ rfl) rfl ?_
  refine z_iconst d_Inverter_rest_5 (v := 1) (by decide) ?_
  refine z_icmp_ne d_Inverter_rest_6 (tgt := 18) (by decide) (fun cy1 => ?_) (fun cy1 => ?_)
  · replace hF := zh_f cy1 hF
    refine z_iconst d_Inverter_rest_18 (v := 0) (by decide) ?_
    exact z_Inverter_rest_19 hs  hF
  · replace hF := zh_t cy1 hF
    refine z_aload_n d_Inverter_rest_9 0 rfl rfl ?_
    refine z_get d_Inverter_rest_10 f_Inverter_32 (hs 13 _ rfl) rfl ?_
    refine z_iconst d_Inverter_rest_13 (v := 1) (by decide) ?_
    refine z_iadd d_Inverter_rest_14 ?_
    refine z_goto d_Inverter_rest_15 (tgt := 19) (by decide) ?_
    exact z_Inverter_rest_19 hs  hF
def E_Inverter_rest (b : Nat)  (μ : zI) (ν : zJ) : Option (zI × zJ) := e_Inverter_rest_0 b μ ν
theorem c_Inverter_rest {l : Launch} {D : va_G} {dA : Nat → ClassId} {ad : Nat → Nat} {sh : List zSE} {μ : zI} {ν : zJ} {b : Nat} (hs : zSt sh b) {out : (zI × zJ)} (hE : E_Inverter_rest b μ ν = some out) : zC l D dA ad sh m_Inverter_rest 1 0 0 [.ref (ad (b + 13)), .ref (ad (b + 1))] μ ν (zOv out) :=
  zC.of (by decide) (Nat.le_of_ble_eq_true rfl) (z_Inverter_rest_0 hs hE)
def e_Inverter_run_60 (b : Nat)  (x1 : Int32) (μ : zI) (ν : zJ) : Option (zI × zJ) := some (μ, ν)
theorem z_Inverter_run_60 {l : Launch} {D : va_G} {dA : Nat → ClassId} {ad : Nat → Nat} {sh : List zSE}  {b : Nat} (hs : zSt sh b)  {x1 : Int32} {μ : zI} {ν : zJ} {out : (zI × zJ)} (hF : e_Inverter_run_60 b  x1 μ ν = some out) : Z l D dA ad sh m_Inverter_run (zR 3 0 0) (zS ad) (zOv out) 0 0 0 0 [] 60 [(0, .ref (ad (b + 13))), (1, .int x1), (2, .ref (ad (b + 1)))] [] μ ν := by
  unfold e_Inverter_run_60 at hF
  cases hF
  exact z_return d_Inverter_run_60 rfl ⟨rfl, rfl, rfl⟩
def e_Inverter_run_44 (b : Nat)  (x1 : Int32) (s1 : Int32) (μ : zI) (ν : zJ) : Option (zI × zJ) := zlet (zu μ (b + 13) 4 s1) fun μy1 => e_Inverter_run_60 b x1 μy1 ν
theorem z_Inverter_run_44 {l : Launch} {D : va_G} {dA : Nat → ClassId} {ad : Nat → Nat} {sh : List zSE}  {b : Nat} (hs : zSt sh b)  {x1 : Int32} {s1 : Int32} {μ : zI} {ν : zJ} {out : (zI × zJ)} (hF : e_Inverter_run_44 b  x1 s1 μ ν = some out) : Z l D dA ad sh m_Inverter_run (zR 3 0 0) (zS ad) (zOv out) 0 0 0 0 [] 44 [(0, .ref (ad (b + 13))), (1, .int x1), (2, .ref (ad (b + 1)))] [.int s1, .ref (ad (b + 13))] μ ν := by
  unfold e_Inverter_run_44 at hF
  refine z_put d_Inverter_run_44 f_Inverter_26 (hs 13 _ rfl) rfl (CL_fin _ _ (fun q hq => by cases hq; rfl)) rfl rfl ?_
  obtain ⟨μy1, hy1, hF⟩ := zh_let hF
  refine z_eqm hy1 ?_
  refine z_goto d_Inverter_run_47 (tgt := 60) (by decide) ?_
  exact z_Inverter_run_60 hs  hF
def e_Inverter_run_0 (b : Nat)  (x1 : Int32) (μ : zI) (ν : zJ) : Option (zI × zJ) := zlet (zu μ (b + 13) 7 0) fun μy1 => (if (μy1 (b + 13) 0) = 0 then Option.bind (E_Inverter_rest b μy1 ν) fun ty3 => zlet (zu ty3.1 (b + 13) 4 0) fun μy4 => e_Inverter_run_60 b x1 μy4 ty3.2 else Option.bind (E_Inverter_drive b μy1 ν) fun ty5 => (if (ty5.1 (b + 13) 7) = 0 then Option.bind (E_Told_get b 11 ty5.1 ty5.2) fun ty7 => e_Inverter_run_44 b x1 (zMin x1 ((ty5.1 (b + 13) 4) + ty7.1)) ty7.2.1 ty7.2.2 else e_Inverter_run_44 b x1 0 ty5.1 ty5.2))
theorem z_Inverter_run_0 {l : Launch} {D : va_G} {dA : Nat → ClassId} {ad : Nat → Nat} {sh : List zSE}  {b : Nat} (hs : zSt sh b)  {x1 : Int32} {μ : zI} {ν : zJ} {out : (zI × zJ)} (hF : e_Inverter_run_0 b  x1 μ ν = some out) : Z l D dA ad sh m_Inverter_run (zR 3 0 0) (zS ad) (zOv out) 0 0 0 0 [] 0 [(0, .ref (ad (b + 13))), (1, .int x1), (2, .ref (ad (b + 1)))] [] μ ν := by
  unfold e_Inverter_run_0 at hF
  refine z_aload_n d_Inverter_run_0 0 rfl rfl ?_
  refine z_iconst d_Inverter_run_1 (v := 0) (by decide) ?_
  refine z_put d_Inverter_run_2 f_Inverter_35 (hs 13 _ rfl) rfl (CL_fin _ _ (fun q hq => by cases hq; rfl)) (by decide) (by decide) ?_
  obtain ⟨μy1, hy1, hF⟩ := zh_let hF
  refine z_eqm hy1 ?_
  refine z_aload_n d_Inverter_run_5 0 rfl rfl ?_
  refine z_get d_Inverter_run_6 f_Inverter_9 (hs 13 _ rfl) rfl ?_
  refine z_if_eq d_Inverter_run_9 (tgt := 50) (by decide) (fun cy2 => ?_) (fun cy2 => ?_)
  · replace hF := zh_t cy2 hF
    refine z_aload_n d_Inverter_run_50 0 rfl rfl ?_
    refine z_aload_n d_Inverter_run_51 2 rfl rfl ?_
    obtain ⟨ty3, hty3, hF⟩ := zh_bind hF
    refine z_callV d_Inverter_run_52 (c_Inverter_rest hs hty3) mv_Inverter_rest l_Inverter_54 (fun _ _ h => h) (hs 13 _ rfl) rfl rfl ⟨Nat.le_of_ble_eq_true rfl, Nat.le_of_ble_eq_true rfl⟩ ⟨Nat.le_of_ble_eq_true rfl, Nat.le_of_ble_eq_true rfl⟩ rfl (Nat.le_of_ble_eq_true rfl) (fun r μ' ν' hq => ?_)
    obtain ⟨rfl, rfl, rfl⟩ := hq
    show Z _ _ _ _ _ _ _ _ _ _ _ 0 0 _ _ _ [] _ _
    refine z_aload_n d_Inverter_run_55 0 rfl rfl ?_
    refine z_iconst d_Inverter_run_56 (v := 0) (by decide) ?_
    refine z_put d_Inverter_run_57 f_Inverter_26 (hs 13 _ rfl) rfl (CL_fin _ _ (fun q hq => by cases hq; rfl)) rfl rfl ?_
    obtain ⟨μy4, hy4, hF⟩ := zh_let hF
    refine z_eqm hy4 ?_
    exact z_Inverter_run_60 hs  hF
  · replace hF := zh_f cy2 hF
    refine z_aload_n d_Inverter_run_12 0 rfl rfl ?_
    refine z_aload_n d_Inverter_run_13 2 rfl rfl ?_
    obtain ⟨ty5, hty5, hF⟩ := zh_bind hF
    refine z_callV d_Inverter_run_14 (c_Inverter_drive hs hty5) mv_Inverter_drive l_Inverter_38 (fun _ _ h => h) (hs 13 _ rfl) rfl rfl ⟨Nat.le_of_ble_eq_true rfl, Nat.le_of_ble_eq_true rfl⟩ ⟨Nat.le_of_ble_eq_true rfl, Nat.le_of_ble_eq_true rfl⟩ rfl (Nat.le_of_ble_eq_true rfl) (fun r μ' ν' hq => ?_)
    obtain ⟨rfl, rfl, rfl⟩ := hq
    show Z _ _ _ _ _ _ _ _ _ _ _ 0 0 _ _ _ [] _ _
    refine z_aload_n d_Inverter_run_17 0 rfl rfl ?_
    refine z_aload_n d_Inverter_run_18 0 rfl rfl ?_
    refine z_get d_Inverter_run_19 f_Inverter_35 (hs 13 _ rfl) rfl ?_
    refine z_if_eq d_Inverter_run_22 (tgt := 29) (by decide) (fun cy6 => ?_) (fun cy6 => ?_)
    · replace hF := zh_t cy6 hF
      refine z_iload_n d_Inverter_run_29 1 rfl rfl ?_
      refine z_aload_n d_Inverter_run_30 0 rfl rfl ?_
      refine z_get d_Inverter_run_31 f_Inverter_26 (hs 13 _ rfl) rfl ?_
      refine z_aload_n d_Inverter_run_34 2 rfl rfl ?_
      refine z_bipush d_Inverter_run_35 (v := 11) (by decide) ?_
      obtain ⟨ty7, hty7, hF⟩ := zh_bind hF
      refine z_callV d_Inverter_run_37 (c_Told_get hs hty7) mv_Told_get l_Inverter_44 (fun _ _ h => h) (hs 1 _ rfl) rfl rfl ⟨Nat.le_of_ble_eq_true rfl, Nat.le_of_ble_eq_true rfl⟩ ⟨Nat.le_of_ble_eq_true rfl, Nat.le_of_ble_eq_true rfl⟩ rfl (Nat.le_of_ble_eq_true rfl) (fun r μ' ν' hq => ?_)
      obtain ⟨rfl, rfl, rfl⟩ := hq
      show Z _ _ _ _ _ _ _ _ _ _ _ 0 0 _ _ _ [.int ty7.1, .int (ty5.1 (b + 13) 4), .int x1, .ref (ad (b + 13))] _ _
      refine z_iadd d_Inverter_run_40 ?_
      refine z_min d_Inverter_run_41 l_Inverter_48 ma_min_s ma_i ma_min_c ⟨Nat.le_of_ble_eq_true rfl, Nat.le_of_ble_eq_true rfl, Nat.zero_le _, Nat.zero_le _⟩ ?_
      exact z_Inverter_run_44 hs  hF
    · replace hF := zh_f cy6 hF
      refine z_iconst d_Inverter_run_25 (v := 0) (by decide) ?_
      refine z_goto d_Inverter_run_26 (tgt := 44) (by decide) ?_
      exact z_Inverter_run_44 hs  hF
def E_Inverter_run (b : Nat) (x1 : Int32) (μ : zI) (ν : zJ) : Option (zI × zJ) := e_Inverter_run_0 b x1 μ ν
theorem c_Inverter_run {l : Launch} {D : va_G} {dA : Nat → ClassId} {ad : Nat → Nat} {sh : List zSE} {μ : zI} {ν : zJ} {b : Nat} {x1 : Int32} (hs : zSt sh b) {out : (zI × zJ)} (hE : E_Inverter_run b x1 μ ν = some out) : zC l D dA ad sh m_Inverter_run 3 0 0 [.ref (ad (b + 13)), .int x1, .ref (ad (b + 1))] μ ν (zOv out) :=
  zC.of (by decide) (Nat.le_of_ble_eq_true rfl) (z_Inverter_run_0 hs hE)
def e_Station_addUp_224 (b : Nat)  (s1 : Int32) (v2 : Int64) (s3 : Int32) (μ : zI) (ν : zJ) : Option (zI × zJ) := Option.bind (E_S_flag s3 μ ν) fun ty1 => (if zin s1 11 = true then zlet (zul ty1.2.2 (b + 14) (Int32.toNatClampNeg s1) (v2 + (Int32.toInt64 ty1.1))) fun νy3 => some (ty1.2.1, νy3) else none)
theorem z_Station_addUp_224 {l : Launch} {D : va_G} {dA : Nat → ClassId} {ad : Nat → Nat} {sh : List zSE}  {b : Nat} (hs : zSt sh b)  {s1 : Int32} {v2 : Int64} {s3 : Int32} {μ : zI} {ν : zJ} {out : (zI × zJ)} (hF : e_Station_addUp_224 b  s1 v2 s3 μ ν = some out) : Z l D dA ad sh m_Station_addUp (zR 1 0 0) (zS ad) (zOv out) 0 0 0 0 [] 224 [(0, .ref (ad b))] [.int s3, .long v2, .int s1, .ref (ad (b + 14))] μ ν := by
  unfold e_Station_addUp_224 at hF
  obtain ⟨ty1, hty1, hF⟩ := zh_bind hF
  refine z_callSN d_Station_addUp_224 (c_S_flag  hty1) ms_S_flag (host := "SunPoint") (by decide) (fun _ _ h => h) rfl ⟨Nat.le_of_ble_eq_true rfl, Nat.le_of_ble_eq_true rfl⟩ ⟨Nat.le_of_ble_eq_true rfl, Nat.le_of_ble_eq_true rfl⟩ rfl (Nat.le_of_ble_eq_true rfl) (fun r μ' ν' hq => ?_)
  obtain ⟨rfl, rfl, rfl⟩ := hq
  show Z _ _ _ _ _ _ _ _ _ _ _ 0 0 _ _ _ [.int ty1.1, .long v2, .int s1, .ref (ad (b + 14))] _ _
  refine z_i2l d_Station_addUp_227 ?_
  refine z_ladd d_Station_addUp_228 ?_
  obtain ⟨hy2, hF⟩ := zh_if hF
  refine z_last d_Station_addUp_229 (hs 14 _ rfl) (zin_vp hy2) ?_
  obtain ⟨νy3, hy3, hF⟩ := zh_let hF
  refine z_eqn hy3 ?_
  cases hF
  exact z_return d_Station_addUp_230 rfl ⟨rfl, rfl, rfl⟩
def e_Station_addUp_195 (b : Nat)  (s1 : Int32) (v2 : Int64) (s3 : Int32) (μ : zI) (ν : zJ) : Option (zI × zJ) := Option.bind (E_S_flag s3 μ ν) fun ty1 => (if zin s1 11 = true then zlet (zul ty1.2.2 (b + 14) (Int32.toNatClampNeg s1) (v2 + (Int32.toInt64 ty1.1))) fun νy3 => (if (ty1.2.1 (b + 12) 5) = 0 then e_Station_addUp_224 b 10 (νy3 (b + 14) 10) 1 ty1.2.1 νy3 else e_Station_addUp_224 b 10 (νy3 (b + 14) 10) 0 ty1.2.1 νy3) else none)
theorem z_Station_addUp_195 {l : Launch} {D : va_G} {dA : Nat → ClassId} {ad : Nat → Nat} {sh : List zSE}  {b : Nat} (hs : zSt sh b)  {s1 : Int32} {v2 : Int64} {s3 : Int32} {μ : zI} {ν : zJ} {out : (zI × zJ)} (hF : e_Station_addUp_195 b  s1 v2 s3 μ ν = some out) : Z l D dA ad sh m_Station_addUp (zR 1 0 0) (zS ad) (zOv out) 0 0 0 0 [] 195 [(0, .ref (ad b))] [.int s3, .long v2, .int s1, .ref (ad (b + 14))] μ ν := by
  unfold e_Station_addUp_195 at hF
  obtain ⟨ty1, hty1, hF⟩ := zh_bind hF
  refine z_callSN d_Station_addUp_195 (c_S_flag  hty1) ms_S_flag (host := "SunPoint") (by decide) (fun _ _ h => h) rfl ⟨Nat.le_of_ble_eq_true rfl, Nat.le_of_ble_eq_true rfl⟩ ⟨Nat.le_of_ble_eq_true rfl, Nat.le_of_ble_eq_true rfl⟩ rfl (Nat.le_of_ble_eq_true rfl) (fun r μ' ν' hq => ?_)
  obtain ⟨rfl, rfl, rfl⟩ := hq
  show Z _ _ _ _ _ _ _ _ _ _ _ 0 0 _ _ _ [.int ty1.1, .long v2, .int s1, .ref (ad (b + 14))] _ _
  refine z_i2l d_Station_addUp_198 ?_
  refine z_ladd d_Station_addUp_199 ?_
  obtain ⟨hy2, hF⟩ := zh_if hF
  refine z_last d_Station_addUp_200 (hs 14 _ rfl) (zin_vp hy2) ?_
  obtain ⟨νy3, hy3, hF⟩ := zh_let hF
  refine z_eqn hy3 ?_
  refine z_aload_n d_Station_addUp_201 0 rfl rfl ?_
  refine z_getr d_Station_addUp_202 (q := (b + 14)) f_Station_51 (hs 0 _ rfl) rfl ?_
  refine z_bipush d_Station_addUp_205 (v := 10) (by decide) ?_
  refine z_dup2 d_Station_addUp_207 rfl rfl ?_
  refine z_lald d_Station_addUp_208 (hs 14 _ rfl) (zin_vp rfl) ?_
  show Z _ _ _ _ _ _ _ _ _ _ _ _ _ _ _ _ [.long (νy3 (b + 14) 10), .int 10, .ref (ad (b + 14))] _ _
  refine z_aload_n d_Station_addUp_209 0 rfl rfl ?_
  refine z_getr d_Station_addUp_210 (q := (b + 12)) f_Station_40 (hs 0 _ rfl) rfl ?_
  refine z_get d_Station_addUp_213 f_Station_196 (hs 12 _ rfl) rfl ?_
  refine z_if_ne d_Station_addUp_216 (tgt := 223) (by decide) (fun cy4 => ?_) (fun cy4 => ?_)
  · replace hF := zh_f cy4 hF
    refine z_iconst d_Station_addUp_223 (v := 0) (by decide) ?_
    exact z_Station_addUp_224 hs  hF
  · replace hF := zh_t cy4 hF
    refine z_iconst d_Station_addUp_219 (v := 1) (by decide) ?_
    refine z_goto d_Station_addUp_220 (tgt := 224) (by decide) ?_
    exact z_Station_addUp_224 hs  hF
def e_Station_addUp_165 (b : Nat)  (s1 : Int32) (v2 : Int64) (s3 : Int32) (μ : zI) (ν : zJ) : Option (zI × zJ) := Option.bind (E_S_flag s3 μ ν) fun ty1 => (if zin s1 11 = true then zlet (zul ty1.2.2 (b + 14) (Int32.toNatClampNeg s1) (v2 + (Int32.toInt64 ty1.1))) fun νy3 => (if (ty1.2.1 (b + 12) 5) = 2 then e_Station_addUp_195 b 9 (νy3 (b + 14) 9) 1 ty1.2.1 νy3 else e_Station_addUp_195 b 9 (νy3 (b + 14) 9) 0 ty1.2.1 νy3) else none)
theorem z_Station_addUp_165 {l : Launch} {D : va_G} {dA : Nat → ClassId} {ad : Nat → Nat} {sh : List zSE}  {b : Nat} (hs : zSt sh b)  {s1 : Int32} {v2 : Int64} {s3 : Int32} {μ : zI} {ν : zJ} {out : (zI × zJ)} (hF : e_Station_addUp_165 b  s1 v2 s3 μ ν = some out) : Z l D dA ad sh m_Station_addUp (zR 1 0 0) (zS ad) (zOv out) 0 0 0 0 [] 165 [(0, .ref (ad b))] [.int s3, .long v2, .int s1, .ref (ad (b + 14))] μ ν := by
  unfold e_Station_addUp_165 at hF
  obtain ⟨ty1, hty1, hF⟩ := zh_bind hF
  refine z_callSN d_Station_addUp_165 (c_S_flag  hty1) ms_S_flag (host := "SunPoint") (by decide) (fun _ _ h => h) rfl ⟨Nat.le_of_ble_eq_true rfl, Nat.le_of_ble_eq_true rfl⟩ ⟨Nat.le_of_ble_eq_true rfl, Nat.le_of_ble_eq_true rfl⟩ rfl (Nat.le_of_ble_eq_true rfl) (fun r μ' ν' hq => ?_)
  obtain ⟨rfl, rfl, rfl⟩ := hq
  show Z _ _ _ _ _ _ _ _ _ _ _ 0 0 _ _ _ [.int ty1.1, .long v2, .int s1, .ref (ad (b + 14))] _ _
  refine z_i2l d_Station_addUp_168 ?_
  refine z_ladd d_Station_addUp_169 ?_
  obtain ⟨hy2, hF⟩ := zh_if hF
  refine z_last d_Station_addUp_170 (hs 14 _ rfl) (zin_vp hy2) ?_
  obtain ⟨νy3, hy3, hF⟩ := zh_let hF
  refine z_eqn hy3 ?_
  refine z_aload_n d_Station_addUp_171 0 rfl rfl ?_
  refine z_getr d_Station_addUp_172 (q := (b + 14)) f_Station_51 (hs 0 _ rfl) rfl ?_
  refine z_bipush d_Station_addUp_175 (v := 9) (by decide) ?_
  refine z_dup2 d_Station_addUp_177 rfl rfl ?_
  refine z_lald d_Station_addUp_178 (hs 14 _ rfl) (zin_vp rfl) ?_
  show Z _ _ _ _ _ _ _ _ _ _ _ _ _ _ _ _ [.long (νy3 (b + 14) 9), .int 9, .ref (ad (b + 14))] _ _
  refine z_aload_n d_Station_addUp_179 0 rfl rfl ?_
  refine z_getr d_Station_addUp_180 (q := (b + 12)) f_Station_40 (hs 0 _ rfl) rfl ?_
  refine z_get d_Station_addUp_183 f_Station_196 (hs 12 _ rfl) rfl ?_
  refine z_iconst d_Station_addUp_186 (v := 2) (by decide) ?_
  refine z_icmp_ne d_Station_addUp_187 (tgt := 194) (by decide) (fun cy4 => ?_) (fun cy4 => ?_)
  · replace hF := zh_f cy4 hF
    refine z_iconst d_Station_addUp_194 (v := 0) (by decide) ?_
    exact z_Station_addUp_195 hs  hF
  · replace hF := zh_t cy4 hF
    refine z_iconst d_Station_addUp_190 (v := 1) (by decide) ?_
    refine z_goto d_Station_addUp_191 (tgt := 195) (by decide) ?_
    exact z_Station_addUp_195 hs  hF
def e_Station_addUp_0 (b : Nat)   (μ : zI) (ν : zJ) : Option (zI × zJ) := zlet (zul ν (b + 14) 0 ((ν (b + 14) 0) + (Int32.toInt64 (μ (b + 11) 6)))) fun νy1 => zlet (zul νy1 (b + 14) 1 ((νy1 (b + 14) 1) + (Int32.toInt64 (μ (b + 3) 2)))) fun νy2 => zlet (zul νy2 (b + 14) 2 ((νy2 (b + 14) 2) + (Int32.toInt64 (μ (b + 12) 4)))) fun νy3 => zlet (zul νy3 (b + 14) 3 ((νy3 (b + 14) 3) + (Int32.toInt64 (μ (b + 13) 4)))) fun νy4 => zlet (zul νy4 (b + 14) 4 ((νy4 (b + 14) 4) + (Int32.toInt64 (μ b 1)))) fun νy5 => zlet (zul νy5 (b + 14) 5 ((νy5 (b + 14) 5) + (Int32.toInt64 (μ (b + 12) 3)))) fun νy6 => Option.bind (E_S_flag (μ (b + 13) 7) μ νy6) fun ty7 => zlet (zul ty7.2.2 (b + 14) 6 ((νy6 (b + 14) 6) + (Int32.toInt64 ty7.1))) fun νy8 => Option.bind (E_S_flag (ty7.2.1 (b + 11) 9) ty7.2.1 νy8) fun ty9 => zlet (zul ty9.2.2 (b + 14) 7 ((νy8 (b + 14) 7) + (Int32.toInt64 ty9.1))) fun νy10 => (if (ty9.2.1 (b + 12) 5) = 1 then e_Station_addUp_165 b 8 (νy10 (b + 14) 8) 1 ty9.2.1 νy10 else e_Station_addUp_165 b 8 (νy10 (b + 14) 8) 0 ty9.2.1 νy10)
theorem z_Station_addUp_0 {l : Launch} {D : va_G} {dA : Nat → ClassId} {ad : Nat → Nat} {sh : List zSE}  {b : Nat} (hs : zSt sh b)   {μ : zI} {ν : zJ} {out : (zI × zJ)} (hF : e_Station_addUp_0 b   μ ν = some out) : Z l D dA ad sh m_Station_addUp (zR 1 0 0) (zS ad) (zOv out) 0 0 0 0 [] 0 [(0, .ref (ad b))] [] μ ν := by
  unfold e_Station_addUp_0 at hF
  refine z_aload_n d_Station_addUp_0 0 rfl rfl ?_
  refine z_getr d_Station_addUp_1 (q := (b + 14)) f_Station_51 (hs 0 _ rfl) rfl ?_
  refine z_iconst d_Station_addUp_4 (v := 0) (by decide) ?_
  refine z_dup2 d_Station_addUp_5 rfl rfl ?_
  refine z_lald d_Station_addUp_6 (hs 14 _ rfl) (zin_vp rfl) ?_
  show Z _ _ _ _ _ _ _ _ _ _ _ _ _ _ _ _ [.long (ν (b + 14) 0), .int 0, .ref (ad (b + 14))] _ _
  refine z_aload_n d_Station_addUp_7 0 rfl rfl ?_
  refine z_getr d_Station_addUp_8 (q := (b + 11)) f_Station_33 (hs 0 _ rfl) rfl ?_
  refine z_get d_Station_addUp_11 f_Station_139 (hs 11 _ rfl) rfl ?_
  refine z_i2l d_Station_addUp_14 ?_
  refine z_ladd d_Station_addUp_15 ?_
  refine z_last d_Station_addUp_16 (hs 14 _ rfl) (zin_vp rfl) ?_
  obtain ⟨νy1, hy1, hF⟩ := zh_let hF
  refine z_eqn hy1 ?_
  refine z_aload_n d_Station_addUp_17 0 rfl rfl ?_
  refine z_getr d_Station_addUp_18 (q := (b + 14)) f_Station_51 (hs 0 _ rfl) rfl ?_
  refine z_iconst d_Station_addUp_21 (v := 1) (by decide) ?_
  refine z_dup2 d_Station_addUp_22 rfl rfl ?_
  refine z_lald d_Station_addUp_23 (hs 14 _ rfl) (zin_vp rfl) ?_
  show Z _ _ _ _ _ _ _ _ _ _ _ _ _ _ _ _ [.long (νy1 (b + 14) 1), .int 1, .ref (ad (b + 14))] _ _
  refine z_aload_n d_Station_addUp_24 0 rfl rfl ?_
  refine z_getr d_Station_addUp_25 (q := (b + 3)) f_Station_19 (hs 0 _ rfl) rfl ?_
  refine z_get d_Station_addUp_28 f_Station_178 (hs 3 _ rfl) rfl ?_
  refine z_i2l d_Station_addUp_31 ?_
  refine z_ladd d_Station_addUp_32 ?_
  refine z_last d_Station_addUp_33 (hs 14 _ rfl) (zin_vp rfl) ?_
  obtain ⟨νy2, hy2, hF⟩ := zh_let hF
  refine z_eqn hy2 ?_
  refine z_aload_n d_Station_addUp_34 0 rfl rfl ?_
  refine z_getr d_Station_addUp_35 (q := (b + 14)) f_Station_51 (hs 0 _ rfl) rfl ?_
  refine z_iconst d_Station_addUp_38 (v := 2) (by decide) ?_
  refine z_dup2 d_Station_addUp_39 rfl rfl ?_
  refine z_lald d_Station_addUp_40 (hs 14 _ rfl) (zin_vp rfl) ?_
  show Z _ _ _ _ _ _ _ _ _ _ _ _ _ _ _ _ [.long (νy2 (b + 14) 2), .int 2, .ref (ad (b + 14))] _ _
  refine z_aload_n d_Station_addUp_41 0 rfl rfl ?_
  refine z_getr d_Station_addUp_42 (q := (b + 12)) f_Station_40 (hs 0 _ rfl) rfl ?_
  refine z_get d_Station_addUp_45 f_Station_146 (hs 12 _ rfl) rfl ?_
  refine z_i2l d_Station_addUp_48 ?_
  refine z_ladd d_Station_addUp_49 ?_
  refine z_last d_Station_addUp_50 (hs 14 _ rfl) (zin_vp rfl) ?_
  obtain ⟨νy3, hy3, hF⟩ := zh_let hF
  refine z_eqn hy3 ?_
  refine z_aload_n d_Station_addUp_51 0 rfl rfl ?_
  refine z_getr d_Station_addUp_52 (q := (b + 14)) f_Station_51 (hs 0 _ rfl) rfl ?_
  refine z_iconst d_Station_addUp_55 (v := 3) (by decide) ?_
  refine z_dup2 d_Station_addUp_56 rfl rfl ?_
  refine z_lald d_Station_addUp_57 (hs 14 _ rfl) (zin_vp rfl) ?_
  show Z _ _ _ _ _ _ _ _ _ _ _ _ _ _ _ _ [.long (νy3 (b + 14) 3), .int 3, .ref (ad (b + 14))] _ _
  refine z_aload_n d_Station_addUp_58 0 rfl rfl ?_
  refine z_getr d_Station_addUp_59 (q := (b + 13)) f_Station_47 (hs 0 _ rfl) rfl ?_
  refine z_get d_Station_addUp_62 f_Station_152 (hs 13 _ rfl) rfl ?_
  refine z_i2l d_Station_addUp_65 ?_
  refine z_ladd d_Station_addUp_66 ?_
  refine z_last d_Station_addUp_67 (hs 14 _ rfl) (zin_vp rfl) ?_
  obtain ⟨νy4, hy4, hF⟩ := zh_let hF
  refine z_eqn hy4 ?_
  refine z_aload_n d_Station_addUp_68 0 rfl rfl ?_
  refine z_getr d_Station_addUp_69 (q := (b + 14)) f_Station_51 (hs 0 _ rfl) rfl ?_
  refine z_iconst d_Station_addUp_72 (v := 4) (by decide) ?_
  refine z_dup2 d_Station_addUp_73 rfl rfl ?_
  refine z_lald d_Station_addUp_74 (hs 14 _ rfl) (zin_vp rfl) ?_
  show Z _ _ _ _ _ _ _ _ _ _ _ _ _ _ _ _ [.long (νy4 (b + 14) 4), .int 4, .ref (ad (b + 14))] _ _
  refine z_aload_n d_Station_addUp_75 0 rfl rfl ?_
  refine z_get d_Station_addUp_76 f_Station_65 (hs 0 _ rfl) rfl ?_
  refine z_i2l d_Station_addUp_79 ?_
  refine z_ladd d_Station_addUp_80 ?_
  refine z_last d_Station_addUp_81 (hs 14 _ rfl) (zin_vp rfl) ?_
  obtain ⟨νy5, hy5, hF⟩ := zh_let hF
  refine z_eqn hy5 ?_
  refine z_aload_n d_Station_addUp_82 0 rfl rfl ?_
  refine z_getr d_Station_addUp_83 (q := (b + 14)) f_Station_51 (hs 0 _ rfl) rfl ?_
  refine z_iconst d_Station_addUp_86 (v := 5) (by decide) ?_
  refine z_dup2 d_Station_addUp_87 rfl rfl ?_
  refine z_lald d_Station_addUp_88 (hs 14 _ rfl) (zin_vp rfl) ?_
  show Z _ _ _ _ _ _ _ _ _ _ _ _ _ _ _ _ [.long (νy5 (b + 14) 5), .int 5, .ref (ad (b + 14))] _ _
  refine z_aload_n d_Station_addUp_89 0 rfl rfl ?_
  refine z_getr d_Station_addUp_90 (q := (b + 12)) f_Station_40 (hs 0 _ rfl) rfl ?_
  refine z_get d_Station_addUp_93 f_Station_181 (hs 12 _ rfl) rfl ?_
  refine z_i2l d_Station_addUp_96 ?_
  refine z_ladd d_Station_addUp_97 ?_
  refine z_last d_Station_addUp_98 (hs 14 _ rfl) (zin_vp rfl) ?_
  obtain ⟨νy6, hy6, hF⟩ := zh_let hF
  refine z_eqn hy6 ?_
  refine z_aload_n d_Station_addUp_99 0 rfl rfl ?_
  refine z_getr d_Station_addUp_100 (q := (b + 14)) f_Station_51 (hs 0 _ rfl) rfl ?_
  refine z_bipush d_Station_addUp_103 (v := 6) (by decide) ?_
  refine z_dup2 d_Station_addUp_105 rfl rfl ?_
  refine z_lald d_Station_addUp_106 (hs 14 _ rfl) (zin_vp rfl) ?_
  show Z _ _ _ _ _ _ _ _ _ _ _ _ _ _ _ _ [.long (νy6 (b + 14) 6), .int 6, .ref (ad (b + 14))] _ _
  refine z_aload_n d_Station_addUp_107 0 rfl rfl ?_
  refine z_getr d_Station_addUp_108 (q := (b + 13)) f_Station_47 (hs 0 _ rfl) rfl ?_
  refine z_get d_Station_addUp_111 f_Station_184 (hs 13 _ rfl) rfl ?_
  obtain ⟨ty7, hty7, hF⟩ := zh_bind hF
  refine z_callSN d_Station_addUp_114 (c_S_flag  hty7) ms_S_flag (host := "SunPoint") (by decide) (fun _ _ h => h) rfl ⟨Nat.le_of_ble_eq_true rfl, Nat.le_of_ble_eq_true rfl⟩ ⟨Nat.le_of_ble_eq_true rfl, Nat.le_of_ble_eq_true rfl⟩ rfl (Nat.le_of_ble_eq_true rfl) (fun r μ' ν' hq => ?_)
  obtain ⟨rfl, rfl, rfl⟩ := hq
  show Z _ _ _ _ _ _ _ _ _ _ _ 0 0 _ _ _ [.int ty7.1, .long (νy6 (b + 14) 6), .int 6, .ref (ad (b + 14))] _ _
  refine z_i2l d_Station_addUp_117 ?_
  refine z_ladd d_Station_addUp_118 ?_
  refine z_last d_Station_addUp_119 (hs 14 _ rfl) (zin_vp rfl) ?_
  obtain ⟨νy8, hy8, hF⟩ := zh_let hF
  refine z_eqn hy8 ?_
  refine z_aload_n d_Station_addUp_120 0 rfl rfl ?_
  refine z_getr d_Station_addUp_121 (q := (b + 14)) f_Station_51 (hs 0 _ rfl) rfl ?_
  refine z_bipush d_Station_addUp_124 (v := 7) (by decide) ?_
  refine z_dup2 d_Station_addUp_126 rfl rfl ?_
  refine z_lald d_Station_addUp_127 (hs 14 _ rfl) (zin_vp rfl) ?_
  show Z _ _ _ _ _ _ _ _ _ _ _ _ _ _ _ _ [.long (νy8 (b + 14) 7), .int 7, .ref (ad (b + 14))] _ _
  refine z_aload_n d_Station_addUp_128 0 rfl rfl ?_
  refine z_getr d_Station_addUp_129 (q := (b + 11)) f_Station_33 (hs 0 _ rfl) rfl ?_
  refine z_get d_Station_addUp_132 f_Station_193 (hs 11 _ rfl) rfl ?_
  obtain ⟨ty9, hty9, hF⟩ := zh_bind hF
  refine z_callSN d_Station_addUp_135 (c_S_flag  hty9) ms_S_flag (host := "SunPoint") (by decide) (fun _ _ h => h) rfl ⟨Nat.le_of_ble_eq_true rfl, Nat.le_of_ble_eq_true rfl⟩ ⟨Nat.le_of_ble_eq_true rfl, Nat.le_of_ble_eq_true rfl⟩ rfl (Nat.le_of_ble_eq_true rfl) (fun r μ' ν' hq => ?_)
  obtain ⟨rfl, rfl, rfl⟩ := hq
  show Z _ _ _ _ _ _ _ _ _ _ _ 0 0 _ _ _ [.int ty9.1, .long (νy8 (b + 14) 7), .int 7, .ref (ad (b + 14))] _ _
  refine z_i2l d_Station_addUp_138 ?_
  refine z_ladd d_Station_addUp_139 ?_
  refine z_last d_Station_addUp_140 (hs 14 _ rfl) (zin_vp rfl) ?_
  obtain ⟨νy10, hy10, hF⟩ := zh_let hF
  refine z_eqn hy10 ?_
  refine z_aload_n d_Station_addUp_141 0 rfl rfl ?_
  refine z_getr d_Station_addUp_142 (q := (b + 14)) f_Station_51 (hs 0 _ rfl) rfl ?_
  refine z_bipush d_Station_addUp_145 (v := 8) (by decide) ?_
  refine z_dup2 d_Station_addUp_147 rfl rfl ?_
  refine z_lald d_Station_addUp_148 (hs 14 _ rfl) (zin_vp rfl) ?_
  show Z _ _ _ _ _ _ _ _ _ _ _ _ _ _ _ _ [.long (νy10 (b + 14) 8), .int 8, .ref (ad (b + 14))] _ _
  refine z_aload_n d_Station_addUp_149 0 rfl rfl ?_
  refine z_getr d_Station_addUp_150 (q := (b + 12)) f_Station_40 (hs 0 _ rfl) rfl ?_
  refine z_get d_Station_addUp_153 f_Station_196 (hs 12 _ rfl) rfl ?_
  refine z_iconst d_Station_addUp_156 (v := 1) (by decide) ?_
  refine z_icmp_ne d_Station_addUp_157 (tgt := 164) (by decide) (fun cy11 => ?_) (fun cy11 => ?_)
  · replace hF := zh_f cy11 hF
    refine z_iconst d_Station_addUp_164 (v := 0) (by decide) ?_
    exact z_Station_addUp_165 hs  hF
  · replace hF := zh_t cy11 hF
    refine z_iconst d_Station_addUp_160 (v := 1) (by decide) ?_
    refine z_goto d_Station_addUp_161 (tgt := 165) (by decide) ?_
    exact z_Station_addUp_165 hs  hF
def E_Station_addUp (b : Nat)  (μ : zI) (ν : zJ) : Option (zI × zJ) := e_Station_addUp_0 b μ ν
theorem c_Station_addUp {l : Launch} {D : va_G} {dA : Nat → ClassId} {ad : Nat → Nat} {sh : List zSE} {μ : zI} {ν : zJ} {b : Nat} (hs : zSt sh b) {out : (zI × zJ)} (hE : E_Station_addUp b μ ν = some out) : zC l D dA ad sh m_Station_addUp 1 0 0 [.ref (ad b)] μ ν (zOv out) :=
  zC.of (by decide) (Nat.le_of_ble_eq_true rfl) (z_Station_addUp_0 hs hE)
def e_Station_advance_57 (b : Nat)   (μ : zI) (ν : zJ) : Option (zI × zJ) := Option.bind (E_Battery_take b (μ (b + 11) 6) μ ν) fun ty1 => zlet (α := Int32) ((ty1.1 (b + 11) 6) - (ty1.1 (b + 12) 4)) fun y2 => Option.bind (E_Inverter_run b y2 ty1.1 ty1.2) fun ty3 => zlet (zu ty3.1 b 1 (y2 - (ty3.1 (b + 13) 4))) fun μy4 => Option.bind (E_Station_addUp b μy4 ty3.2) fun ty5 => some (ty5.1, ty5.2)
theorem z_Station_advance_57 {l : Launch} {D : va_G} {dA : Nat → ClassId} {ad : Nat → Nat} {sh : List zSE}  {b : Nat} (hs : zSt sh b)   {μ : zI} {ν : zJ} {out : (zI × zJ)} (hF : e_Station_advance_57 b   μ ν = some out) : Z l D dA ad sh m_Station_advance (zR 4 0 0) (zS ad) (zOv out) 0 0 0 0 [] 57 [(0, .ref (ad b))] [] μ ν := by
  unfold e_Station_advance_57 at hF
  refine z_aload_n d_Station_advance_57 0 rfl rfl ?_
  refine z_getr d_Station_advance_58 (q := (b + 12)) f_Station_40 (hs 0 _ rfl) rfl ?_
  refine z_aload_n d_Station_advance_61 0 rfl rfl ?_
  refine z_getr d_Station_advance_62 (q := (b + 11)) f_Station_33 (hs 0 _ rfl) rfl ?_
  refine z_get d_Station_advance_65 f_Station_139 (hs 11 _ rfl) rfl ?_
  refine z_aload_n d_Station_advance_68 0 rfl rfl ?_
  refine z_getr d_Station_advance_69 (q := (b + 1)) f_Station_10 (hs 0 _ rfl) rfl ?_
  obtain ⟨ty1, hty1, hF⟩ := zh_bind hF
  refine z_callV d_Station_advance_72 (c_Battery_take hs hty1) mv_Battery_take l_Station_142 (fun _ _ h => h) (hs 12 _ rfl) rfl rfl ⟨Nat.le_of_ble_eq_true rfl, Nat.le_of_ble_eq_true rfl⟩ ⟨Nat.le_of_ble_eq_true rfl, Nat.le_of_ble_eq_true rfl⟩ rfl (Nat.le_of_ble_eq_true rfl) (fun r μ' ν' hq => ?_)
  obtain ⟨rfl, rfl, rfl⟩ := hq
  show Z _ _ _ _ _ _ _ _ _ _ _ 0 0 _ _ _ [] _ _
  refine z_aload_n d_Station_advance_75 0 rfl rfl ?_
  refine z_getr d_Station_advance_76 (q := (b + 11)) f_Station_33 (hs 0 _ rfl) rfl ?_
  refine z_get d_Station_advance_79 f_Station_139 (hs 11 _ rfl) rfl ?_
  refine z_aload_n d_Station_advance_82 0 rfl rfl ?_
  refine z_getr d_Station_advance_83 (q := (b + 12)) f_Station_40 (hs 0 _ rfl) rfl ?_
  refine z_get d_Station_advance_86 f_Station_146 (hs 12 _ rfl) rfl ?_
  refine z_isub d_Station_advance_89 ?_
  obtain ⟨y2, hy2, hF⟩ := zh_let hF
  refine z_eqi hy2 ?_
  refine z_istore_n d_Station_advance_90 rfl (by decide) (L2 := [(1, .int y2), (0, .ref (ad b))]) rfl ?_
  refine z_aload_n d_Station_advance_91 1 rfl rfl ?_
  refine z_getr d_Station_advance_92 (q := (b + 13)) f_Station_47 (hs 0 _ rfl) rfl ?_
  refine z_iload_n d_Station_advance_95 0 rfl rfl ?_
  refine z_aload_n d_Station_advance_96 1 rfl rfl ?_
  refine z_getr d_Station_advance_97 (q := (b + 1)) f_Station_10 (hs 0 _ rfl) rfl ?_
  obtain ⟨ty3, hty3, hF⟩ := zh_bind hF
  refine z_callV d_Station_advance_100 (c_Inverter_run hs hty3) mv_Inverter_run l_Station_149 (fun _ _ h => h) (hs 13 _ rfl) rfl rfl ⟨Nat.le_of_ble_eq_true rfl, Nat.le_of_ble_eq_true rfl⟩ ⟨Nat.le_of_ble_eq_true rfl, Nat.le_of_ble_eq_true rfl⟩ rfl (Nat.le_of_ble_eq_true rfl) (fun r μ' ν' hq => ?_)
  obtain ⟨rfl, rfl, rfl⟩ := hq
  show Z _ _ _ _ _ _ _ _ _ _ _ 0 0 _ _ _ [] _ _
  refine z_aload_n d_Station_advance_103 1 rfl rfl ?_
  refine z_iload_n d_Station_advance_104 0 rfl rfl ?_
  refine z_aload_n d_Station_advance_105 1 rfl rfl ?_
  refine z_getr d_Station_advance_106 (q := (b + 13)) f_Station_47 (hs 0 _ rfl) rfl ?_
  refine z_get d_Station_advance_109 f_Station_152 (hs 13 _ rfl) rfl ?_
  refine z_isub d_Station_advance_112 ?_
  refine z_put d_Station_advance_113 f_Station_65 (hs 0 _ rfl) rfl (CL_fin _ _ (fun q hq => by cases hq; rfl)) rfl rfl ?_
  obtain ⟨μy4, hy4, hF⟩ := zh_let hF
  refine z_eqm hy4 ?_
  refine z_aload_n d_Station_advance_116 1 rfl rfl ?_
  obtain ⟨ty5, hty5, hF⟩ := zh_bind hF
  refine z_callV d_Station_advance_117 (c_Station_addUp hs hty5) mv_Station_addUp l_Station_155 (fun _ _ h => h) (hs 0 _ rfl) rfl rfl ⟨Nat.le_of_ble_eq_true rfl, Nat.le_of_ble_eq_true rfl⟩ ⟨Nat.le_of_ble_eq_true rfl, Nat.le_of_ble_eq_true rfl⟩ rfl (Nat.le_of_ble_eq_true rfl) (fun r μ' ν' hq => ?_)
  obtain ⟨rfl, rfl, rfl⟩ := hq
  show Z _ _ _ _ _ _ _ _ _ _ _ 0 0 _ _ _ [] _ _
  cases hF
  exact z_return d_Station_advance_120 rfl ⟨rfl, rfl, rfl⟩
def e_Station_advance_0 (b : Nat)   (μ : zI) (ν : zJ) : Option (zI × zJ) := zlet (zu μ b 0 ((μ b 0) + 1)) fun μy1 => Option.bind (E_Station_doWhatComes b μy1 ν) fun ty2 => (if (ty2.1 (b + 11) 7) = 0 then Option.bind (E_Follower_seek b ty2.1 ty2.2) fun ty4 => e_Station_advance_57 b ty4.1 ty4.2 else Option.bind (E_Follower_scanOn b ty2.1 ty2.2) fun ty5 => e_Station_advance_57 b ty5.1 ty5.2)
theorem z_Station_advance_0 {l : Launch} {D : va_G} {dA : Nat → ClassId} {ad : Nat → Nat} {sh : List zSE}  {b : Nat} (hs : zSt sh b)   {μ : zI} {ν : zJ} {out : (zI × zJ)} (hF : e_Station_advance_0 b   μ ν = some out) : Z l D dA ad sh m_Station_advance (zR 4 0 0) (zS ad) (zOv out) 0 0 0 0 [] 0 [(0, .ref (ad b))] [] μ ν := by
  unfold e_Station_advance_0 at hF
  refine z_aload_n d_Station_advance_0 0 rfl rfl ?_
  refine z_dup d_Station_advance_1 rfl ?_
  refine z_get d_Station_advance_2 f_Station_61 (hs 0 _ rfl) rfl ?_
  refine z_iconst d_Station_advance_5 (v := 1) (by decide) ?_
  refine z_iadd d_Station_advance_6 ?_
  refine z_put d_Station_advance_7 f_Station_61 (hs 0 _ rfl) rfl (CL_fin _ _ (fun q hq => by cases hq; rfl)) rfl rfl ?_
  obtain ⟨μy1, hy1, hF⟩ := zh_let hF
  refine z_eqm hy1 ?_
  refine z_aload_n d_Station_advance_10 0 rfl rfl ?_
  obtain ⟨ty2, hty2, hF⟩ := zh_bind hF
  refine z_callV d_Station_advance_11 (c_Station_doWhatComes hs hty2) mv_Station_doWhatComes l_Station_125 (fun _ _ h => h) (hs 0 _ rfl) rfl rfl ⟨Nat.le_of_ble_eq_true rfl, Nat.le_of_ble_eq_true rfl⟩ ⟨Nat.le_of_ble_eq_true rfl, Nat.le_of_ble_eq_true rfl⟩ rfl (Nat.le_of_ble_eq_true rfl) (fun r μ' ν' hq => ?_)
  obtain ⟨rfl, rfl, rfl⟩ := hq
  show Z _ _ _ _ _ _ _ _ _ _ _ 0 0 _ _ _ [] _ _
  refine z_aload_n d_Station_advance_14 0 rfl rfl ?_
  refine z_getr d_Station_advance_15 (q := (b + 11)) f_Station_33 (hs 0 _ rfl) rfl ?_
  refine z_get d_Station_advance_18 f_Station_128 (hs 11 _ rfl) rfl ?_
  refine z_if_eq d_Station_advance_21 (tgt := 42) (by decide) (fun cy3 => ?_) (fun cy3 => ?_)
  · replace hF := zh_t cy3 hF
    refine z_aload_n d_Station_advance_42 0 rfl rfl ?_
    refine z_getr d_Station_advance_43 (q := (b + 11)) f_Station_33 (hs 0 _ rfl) rfl ?_
    refine z_aload_n d_Station_advance_46 0 rfl rfl ?_
    refine z_getr d_Station_advance_47 (q := (b + 3)) f_Station_19 (hs 0 _ rfl) rfl ?_
    refine z_aload_n d_Station_advance_50 0 rfl rfl ?_
    refine z_getr d_Station_advance_51 (q := (b + 1)) f_Station_10 (hs 0 _ rfl) rfl ?_
    obtain ⟨ty4, hty4, hF⟩ := zh_bind hF
    refine z_callV d_Station_advance_54 (c_Follower_seek hs hty4) mv_Follower_seek l_Station_136 (fun _ _ h => h) (hs 11 _ rfl) rfl rfl ⟨Nat.le_of_ble_eq_true rfl, Nat.le_of_ble_eq_true rfl⟩ ⟨Nat.le_of_ble_eq_true rfl, Nat.le_of_ble_eq_true rfl⟩ rfl (Nat.le_of_ble_eq_true rfl) (fun r μ' ν' hq => ?_)
    obtain ⟨rfl, rfl, rfl⟩ := hq
    show Z _ _ _ _ _ _ _ _ _ _ _ 0 0 _ _ _ [] _ _
    exact z_Station_advance_57 hs  hF
  · replace hF := zh_f cy3 hF
    refine z_aload_n d_Station_advance_24 0 rfl rfl ?_
    refine z_getr d_Station_advance_25 (q := (b + 11)) f_Station_33 (hs 0 _ rfl) rfl ?_
    refine z_aload_n d_Station_advance_28 0 rfl rfl ?_
    refine z_getr d_Station_advance_29 (q := (b + 3)) f_Station_19 (hs 0 _ rfl) rfl ?_
    refine z_aload_n d_Station_advance_32 0 rfl rfl ?_
    refine z_getr d_Station_advance_33 (q := (b + 1)) f_Station_10 (hs 0 _ rfl) rfl ?_
    obtain ⟨ty5, hty5, hF⟩ := zh_bind hF
    refine z_callV d_Station_advance_36 (c_Follower_scanOn hs hty5) mv_Follower_scanOn l_Station_132 (fun _ _ h => h) (hs 11 _ rfl) rfl rfl ⟨Nat.le_of_ble_eq_true rfl, Nat.le_of_ble_eq_true rfl⟩ ⟨Nat.le_of_ble_eq_true rfl, Nat.le_of_ble_eq_true rfl⟩ rfl (Nat.le_of_ble_eq_true rfl) (fun r μ' ν' hq => ?_)
    obtain ⟨rfl, rfl, rfl⟩ := hq
    show Z _ _ _ _ _ _ _ _ _ _ _ 0 0 _ _ _ [] _ _
    refine z_goto d_Station_advance_39 (tgt := 57) (by decide) ?_
    exact z_Station_advance_57 hs  hF
def E_Station_advance (b : Nat)  (μ : zI) (ν : zJ) : Option (zI × zJ) := e_Station_advance_0 b μ ν
theorem c_Station_advance {l : Launch} {D : va_G} {dA : Nat → ClassId} {ad : Nat → Nat} {sh : List zSE} {μ : zI} {ν : zJ} {b : Nat} (hs : zSt sh b) {out : (zI × zJ)} (hE : E_Station_advance b μ ν = some out) : zC l D dA ad sh m_Station_advance 4 0 0 [.ref (ad b)] μ ν (zOv out) :=
  zC.of (by decide) (Nat.le_of_ble_eq_true rfl) (z_Station_advance_0 hs hE)
def e_Log_add_0    (μ : zI) (ν : zJ) : Option (zI × zJ) := zlet (zu μ 34 1 (((μ 34 1) + 1) - ((μ 34 1) + 1) / 100 * 100)) fun μy1 => zlet (zu μy1 34 0 (zMin 100 ((μy1 34 0) + 1))) fun μy2 => zlet (α := Int32) ((μy2 34 1) * 10) fun y3 => (if zin (y3 + 0) 1000 = true then zlet (zu μy2 35 (Int32.toNatClampNeg (y3 + 0)) (μy2 (4 + 11) 0)) fun μy5 => (if zin (y3 + 1) 1000 = true then zlet (zu μy5 35 (Int32.toNatClampNeg (y3 + 1)) (μy5 (4 + 11) 6)) fun μy7 => (if zin (y3 + 2) 1000 = true then zlet (zu μy7 35 (Int32.toNatClampNeg (y3 + 2)) (μy7 (4 + 3) 2)) fun μy9 => (if zin (y3 + 3) 1000 = true then zlet (zu μy9 35 (Int32.toNatClampNeg (y3 + 3)) (μy9 (4 + 12) 4)) fun μy11 => (if zin (y3 + 4) 1000 = true then zlet (zu μy11 35 (Int32.toNatClampNeg (y3 + 4)) (μy11 (4 + 13) 4)) fun μy13 => (if zin (y3 + 5) 1000 = true then zlet (zu μy13 35 (Int32.toNatClampNeg (y3 + 5)) (μy13 4 1)) fun μy15 => (if zin (y3 + 6) 1000 = true then zlet (zu μy15 35 (Int32.toNatClampNeg (y3 + 6)) (μy15 (4 + 13) 3)) fun μy17 => (if zin (y3 + 7) 1000 = true then zlet (zu μy17 35 (Int32.toNatClampNeg (y3 + 7)) (μy17 (4 + 12) 1)) fun μy19 => Option.bind (E_S_flag (μy19 (4 + 13) 0) μy19 ν) fun ty20 => (if zin (y3 + 8) 1000 = true then zlet (zu ty20.2.1 35 (Int32.toNatClampNeg (y3 + 8)) ty20.1) fun μy22 => Option.bind (E_S_flag (μy22 (4 + 11) 8) μy22 ty20.2.2) fun ty23 => (if zin (y3 + 9) 1000 = true then zlet (zu ty23.2.1 35 (Int32.toNatClampNeg (y3 + 9)) ty23.1) fun μy25 => some (μy25, ty23.2.2) else none) else none) else none) else none) else none) else none) else none) else none) else none) else none)
theorem z_Log_add_0 {l : Launch} {D : va_G} {dA : Nat → ClassId} {ad : Nat → Nat} {sh : List zSE}  (hr : zRo sh)   {μ : zI} {ν : zJ} {out : (zI × zJ)} (hF : e_Log_add_0    μ ν = some out) : Z l D dA ad sh m_Log_add (zR 1 0 0) (zS ad) (zOv out) 0 0 0 0 [] 0 [(0, .ref (ad 34)), (1, .ref (ad 4))] [] μ ν := by
  unfold e_Log_add_0 at hF
  refine z_aload_n d_Log_add_0 0 rfl rfl ?_
  refine z_aload_n d_Log_add_1 0 rfl rfl ?_
  refine z_get d_Log_add_2 f_Log_15 (hr 34 _ rfl) rfl ?_
  refine z_iconst d_Log_add_5 (v := 1) (by decide) ?_
  refine z_iadd d_Log_add_6 ?_
  refine z_bipush d_Log_add_7 (v := 100) (by decide) ?_
  refine z_irem d_Log_add_9 (by decide) ?_
  refine z_put d_Log_add_10 f_Log_15 (hr 34 _ rfl) rfl (CL_fin _ _ (fun q hq => by cases hq; rfl)) rfl rfl ?_
  obtain ⟨μy1, hy1, hF⟩ := zh_let hF
  refine z_eqm hy1 ?_
  refine z_aload_n d_Log_add_13 0 rfl rfl ?_
  refine z_bipush d_Log_add_14 (v := 100) (by decide) ?_
  refine z_aload_n d_Log_add_16 0 rfl rfl ?_
  refine z_get d_Log_add_17 f_Log_19 (hr 34 _ rfl) rfl ?_
  refine z_iconst d_Log_add_20 (v := 1) (by decide) ?_
  refine z_iadd d_Log_add_21 ?_
  refine z_min d_Log_add_22 l_Log_22 ma_min_s ma_i ma_min_c ⟨Nat.le_of_ble_eq_true rfl, Nat.le_of_ble_eq_true rfl, Nat.zero_le _, Nat.zero_le _⟩ ?_
  refine z_put d_Log_add_25 f_Log_19 (hr 34 _ rfl) rfl (CL_fin _ _ (fun q hq => by cases hq; rfl)) rfl rfl ?_
  obtain ⟨μy2, hy2, hF⟩ := zh_let hF
  refine z_eqm hy2 ?_
  refine z_aload_n d_Log_add_28 0 rfl rfl ?_
  refine z_get d_Log_add_29 f_Log_15 (hr 34 _ rfl) rfl ?_
  refine z_bipush d_Log_add_32 (v := 10) (by decide) ?_
  refine z_imul d_Log_add_34 ?_
  obtain ⟨y3, hy3, hF⟩ := zh_let hF
  refine z_eqi hy3 ?_
  refine z_istore_n d_Log_add_35 rfl (by decide) (L2 := [(2, .int y3), (0, .ref (ad 34)), (1, .ref (ad 4))]) rfl ?_
  refine z_aload_n d_Log_add_36 1 rfl rfl ?_
  refine z_getr d_Log_add_37 (q := 35) f_Log_11 (hr 34 _ rfl) rfl ?_
  refine z_iload_n d_Log_add_40 0 rfl rfl ?_
  refine z_iconst d_Log_add_41 (v := 0) (by decide) ?_
  refine z_iadd d_Log_add_42 ?_
  refine z_aload_n d_Log_add_43 2 rfl rfl ?_
  refine z_getr d_Log_add_44 (q := (4 + 11)) f_Log_28 ((zRo_4 hr) 0 _ rfl) rfl ?_
  refine z_get d_Log_add_47 f_Log_34 ((zRo_4 hr) 11 _ rfl) rfl ?_
  obtain ⟨hy4, hF⟩ := zh_if hF
  refine z_iast d_Log_add_50 (hr 35 _ rfl) (zin_vp hy4) ?_
  obtain ⟨μy5, hy5, hF⟩ := zh_let hF
  refine z_eqm hy5 ?_
  refine z_aload_n d_Log_add_51 1 rfl rfl ?_
  refine z_getr d_Log_add_52 (q := 35) f_Log_11 (hr 34 _ rfl) rfl ?_
  refine z_iload_n d_Log_add_55 0 rfl rfl ?_
  refine z_iconst d_Log_add_56 (v := 1) (by decide) ?_
  refine z_iadd d_Log_add_57 ?_
  refine z_aload_n d_Log_add_58 2 rfl rfl ?_
  refine z_getr d_Log_add_59 (q := (4 + 11)) f_Log_28 ((zRo_4 hr) 0 _ rfl) rfl ?_
  refine z_get d_Log_add_62 f_Log_39 ((zRo_4 hr) 11 _ rfl) rfl ?_
  obtain ⟨hy6, hF⟩ := zh_if hF
  refine z_iast d_Log_add_65 (hr 35 _ rfl) (zin_vp hy6) ?_
  obtain ⟨μy7, hy7, hF⟩ := zh_let hF
  refine z_eqm hy7 ?_
  refine z_aload_n d_Log_add_66 1 rfl rfl ?_
  refine z_getr d_Log_add_67 (q := 35) f_Log_11 (hr 34 _ rfl) rfl ?_
  refine z_iload_n d_Log_add_70 0 rfl rfl ?_
  refine z_iconst d_Log_add_71 (v := 2) (by decide) ?_
  refine z_iadd d_Log_add_72 ?_
  refine z_aload_n d_Log_add_73 2 rfl rfl ?_
  refine z_getr d_Log_add_74 (q := (4 + 3)) f_Log_42 ((zRo_4 hr) 0 _ rfl) rfl ?_
  refine z_get d_Log_add_77 f_Log_46 ((zRo_4 hr) 3 _ rfl) rfl ?_
  obtain ⟨hy8, hF⟩ := zh_if hF
  refine z_iast d_Log_add_80 (hr 35 _ rfl) (zin_vp hy8) ?_
  obtain ⟨μy9, hy9, hF⟩ := zh_let hF
  refine z_eqm hy9 ?_
  refine z_aload_n d_Log_add_81 1 rfl rfl ?_
  refine z_getr d_Log_add_82 (q := 35) f_Log_11 (hr 34 _ rfl) rfl ?_
  refine z_iload_n d_Log_add_85 0 rfl rfl ?_
  refine z_iconst d_Log_add_86 (v := 3) (by decide) ?_
  refine z_iadd d_Log_add_87 ?_
  refine z_aload_n d_Log_add_88 2 rfl rfl ?_
  refine z_getr d_Log_add_89 (q := (4 + 12)) f_Log_51 ((zRo_4 hr) 0 _ rfl) rfl ?_
  refine z_get d_Log_add_92 f_Log_55 ((zRo_4 hr) 12 _ rfl) rfl ?_
  obtain ⟨hy10, hF⟩ := zh_if hF
  refine z_iast d_Log_add_95 (hr 35 _ rfl) (zin_vp hy10) ?_
  obtain ⟨μy11, hy11, hF⟩ := zh_let hF
  refine z_eqm hy11 ?_
  refine z_aload_n d_Log_add_96 1 rfl rfl ?_
  refine z_getr d_Log_add_97 (q := 35) f_Log_11 (hr 34 _ rfl) rfl ?_
  refine z_iload_n d_Log_add_100 0 rfl rfl ?_
  refine z_iconst d_Log_add_101 (v := 4) (by decide) ?_
  refine z_iadd d_Log_add_102 ?_
  refine z_aload_n d_Log_add_103 2 rfl rfl ?_
  refine z_getr d_Log_add_104 (q := (4 + 13)) f_Log_60 ((zRo_4 hr) 0 _ rfl) rfl ?_
  refine z_get d_Log_add_107 f_Log_64 ((zRo_4 hr) 13 _ rfl) rfl ?_
  obtain ⟨hy12, hF⟩ := zh_if hF
  refine z_iast d_Log_add_110 (hr 35 _ rfl) (zin_vp hy12) ?_
  obtain ⟨μy13, hy13, hF⟩ := zh_let hF
  refine z_eqm hy13 ?_
  refine z_aload_n d_Log_add_111 1 rfl rfl ?_
  refine z_getr d_Log_add_112 (q := 35) f_Log_11 (hr 34 _ rfl) rfl ?_
  refine z_iload_n d_Log_add_115 0 rfl rfl ?_
  refine z_iconst d_Log_add_116 (v := 5) (by decide) ?_
  refine z_iadd d_Log_add_117 ?_
  refine z_aload_n d_Log_add_118 2 rfl rfl ?_
  refine z_get d_Log_add_119 f_Log_69 ((zRo_4 hr) 0 _ rfl) rfl ?_
  obtain ⟨hy14, hF⟩ := zh_if hF
  refine z_iast d_Log_add_122 (hr 35 _ rfl) (zin_vp hy14) ?_
  obtain ⟨μy15, hy15, hF⟩ := zh_let hF
  refine z_eqm hy15 ?_
  refine z_aload_n d_Log_add_123 1 rfl rfl ?_
  refine z_getr d_Log_add_124 (q := 35) f_Log_11 (hr 34 _ rfl) rfl ?_
  refine z_iload_n d_Log_add_127 0 rfl rfl ?_
  refine z_bipush d_Log_add_128 (v := 6) (by decide) ?_
  refine z_iadd d_Log_add_130 ?_
  refine z_aload_n d_Log_add_131 2 rfl rfl ?_
  refine z_getr d_Log_add_132 (q := (4 + 13)) f_Log_60 ((zRo_4 hr) 0 _ rfl) rfl ?_
  refine z_get d_Log_add_135 f_Log_72 ((zRo_4 hr) 13 _ rfl) rfl ?_
  obtain ⟨hy16, hF⟩ := zh_if hF
  refine z_iast d_Log_add_138 (hr 35 _ rfl) (zin_vp hy16) ?_
  obtain ⟨μy17, hy17, hF⟩ := zh_let hF
  refine z_eqm hy17 ?_
  refine z_aload_n d_Log_add_139 1 rfl rfl ?_
  refine z_getr d_Log_add_140 (q := 35) f_Log_11 (hr 34 _ rfl) rfl ?_
  refine z_iload_n d_Log_add_143 0 rfl rfl ?_
  refine z_bipush d_Log_add_144 (v := 7) (by decide) ?_
  refine z_iadd d_Log_add_146 ?_
  refine z_aload_n d_Log_add_147 2 rfl rfl ?_
  refine z_getr d_Log_add_148 (q := (4 + 12)) f_Log_51 ((zRo_4 hr) 0 _ rfl) rfl ?_
  refine z_get d_Log_add_151 f_Log_75 ((zRo_4 hr) 12 _ rfl) rfl ?_
  obtain ⟨hy18, hF⟩ := zh_if hF
  refine z_iast d_Log_add_154 (hr 35 _ rfl) (zin_vp hy18) ?_
  obtain ⟨μy19, hy19, hF⟩ := zh_let hF
  refine z_eqm hy19 ?_
  refine z_aload_n d_Log_add_155 1 rfl rfl ?_
  refine z_getr d_Log_add_156 (q := 35) f_Log_11 (hr 34 _ rfl) rfl ?_
  refine z_iload_n d_Log_add_159 0 rfl rfl ?_
  refine z_bipush d_Log_add_160 (v := 8) (by decide) ?_
  refine z_iadd d_Log_add_162 ?_
  refine z_aload_n d_Log_add_163 2 rfl rfl ?_
  refine z_getr d_Log_add_164 (q := (4 + 13)) f_Log_60 ((zRo_4 hr) 0 _ rfl) rfl ?_
  refine z_get d_Log_add_167 f_Log_78 ((zRo_4 hr) 13 _ rfl) rfl ?_
  obtain ⟨ty20, hty20, hF⟩ := zh_bind hF
  refine z_callSN d_Log_add_170 (c_S_flag  hty20) ms_S_flag (host := "SunPoint") (by decide) (fun _ _ h => h) rfl ⟨Nat.le_of_ble_eq_true rfl, Nat.le_of_ble_eq_true rfl⟩ ⟨Nat.le_of_ble_eq_true rfl, Nat.le_of_ble_eq_true rfl⟩ rfl (Nat.le_of_ble_eq_true rfl) (fun r μ' ν' hq => ?_)
  obtain ⟨rfl, rfl, rfl⟩ := hq
  show Z _ _ _ _ _ _ _ _ _ _ _ 0 0 _ _ _ [.int ty20.1, .int (y3 + 8), .ref (ad 35)] _ _
  obtain ⟨hy21, hF⟩ := zh_if hF
  refine z_iast d_Log_add_173 (hr 35 _ rfl) (zin_vp hy21) ?_
  obtain ⟨μy22, hy22, hF⟩ := zh_let hF
  refine z_eqm hy22 ?_
  refine z_aload_n d_Log_add_174 1 rfl rfl ?_
  refine z_getr d_Log_add_175 (q := 35) f_Log_11 (hr 34 _ rfl) rfl ?_
  refine z_iload_n d_Log_add_178 0 rfl rfl ?_
  refine z_bipush d_Log_add_179 (v := 9) (by decide) ?_
  refine z_iadd d_Log_add_181 ?_
  refine z_aload_n d_Log_add_182 2 rfl rfl ?_
  refine z_getr d_Log_add_183 (q := (4 + 11)) f_Log_28 ((zRo_4 hr) 0 _ rfl) rfl ?_
  refine z_get d_Log_add_186 f_Log_86 ((zRo_4 hr) 11 _ rfl) rfl ?_
  obtain ⟨ty23, hty23, hF⟩ := zh_bind hF
  refine z_callSN d_Log_add_189 (c_S_flag  hty23) ms_S_flag (host := "SunPoint") (by decide) (fun _ _ h => h) rfl ⟨Nat.le_of_ble_eq_true rfl, Nat.le_of_ble_eq_true rfl⟩ ⟨Nat.le_of_ble_eq_true rfl, Nat.le_of_ble_eq_true rfl⟩ rfl (Nat.le_of_ble_eq_true rfl) (fun r μ' ν' hq => ?_)
  obtain ⟨rfl, rfl, rfl⟩ := hq
  show Z _ _ _ _ _ _ _ _ _ _ _ 0 0 _ _ _ [.int ty23.1, .int (y3 + 9), .ref (ad 35)] _ _
  obtain ⟨hy24, hF⟩ := zh_if hF
  refine z_iast d_Log_add_192 (hr 35 _ rfl) (zin_vp hy24) ?_
  obtain ⟨μy25, hy25, hF⟩ := zh_let hF
  refine z_eqm hy25 ?_
  cases hF
  exact z_return d_Log_add_193 rfl ⟨rfl, rfl, rfl⟩
def E_Log_add   (μ : zI) (ν : zJ) : Option (zI × zJ) := e_Log_add_0 μ ν
theorem c_Log_add {l : Launch} {D : va_G} {dA : Nat → ClassId} {ad : Nat → Nat} {sh : List zSE} {μ : zI} {ν : zJ} (hr : zRo sh) {out : (zI × zJ)} (hE : E_Log_add  μ ν = some out) : zC l D dA ad sh m_Log_add 1 0 0 [.ref (ad 34), .ref (ad 4)] μ ν (zOv out) :=
  zC.of (by decide) (Nat.le_of_ble_eq_true rfl) (z_Log_add_0 hr hE)
def e_Panel_lightOf_18 (b : Nat)  (x1 : Int32) (s0 : Int32) (μ : zI) (ν : zJ) : Option (Int32 × zI × zJ) := some (s0, μ, ν)
theorem z_Panel_lightOf_18 {l : Launch} {D : va_G} {dA : Nat → ClassId} {ad : Nat → Nat} {sh : List zSE}  {b : Nat} (hs : zSt sh b)  {x1 : Int32} {s0 : Int32} {μ : zI} {ν : zJ} {out : (Int32 × zI × zJ)} (hF : e_Panel_lightOf_18 b  x1 s0 μ ν = some out) : Z l D dA ad sh m_Panel_lightOf (zR 1 0 0) (zS ad) (zOi out) 0 0 0 0 [] 18 [(0, .ref (ad (b + 3))), (1, .int x1)] [.int s0] μ ν := by
  unfold e_Panel_lightOf_18 at hF
  cases hF
  exact z_ireturn d_Panel_lightOf_18 rfl rfl ⟨rfl, rfl, rfl⟩
def e_Panel_lightOf_0 (b : Nat)  (x1 : Int32) (μ : zI) (ν : zJ) : Option (Int32 × zI × zJ) := Option.bind (E_Panel_has b x1 μ ν) fun ty1 => (if ty1.1 = 0 then e_Panel_lightOf_18 b x1 0 ty1.2.1 ty1.2.2 else (if zin x1 6 = true then e_Panel_lightOf_18 b x1 (ty1.2.1 (b + 6) (Int32.toNatClampNeg x1)) ty1.2.1 ty1.2.2 else none))
theorem z_Panel_lightOf_0 {l : Launch} {D : va_G} {dA : Nat → ClassId} {ad : Nat → Nat} {sh : List zSE}  {b : Nat} (hs : zSt sh b)  {x1 : Int32} {μ : zI} {ν : zJ} {out : (Int32 × zI × zJ)} (hF : e_Panel_lightOf_0 b  x1 μ ν = some out) : Z l D dA ad sh m_Panel_lightOf (zR 1 0 0) (zS ad) (zOi out) 0 0 0 0 [] 0 [(0, .ref (ad (b + 3))), (1, .int x1)] [] μ ν := by
  unfold e_Panel_lightOf_0 at hF
  refine z_aload_n d_Panel_lightOf_0 0 rfl rfl ?_
  refine z_iload_n d_Panel_lightOf_1 1 rfl rfl ?_
  obtain ⟨ty1, hty1, hF⟩ := zh_bind hF
  refine z_callV d_Panel_lightOf_2 (c_Panel_has hs hty1) mv_Panel_has l_Panel_43 (fun _ _ h => h) (hs 3 _ rfl) rfl rfl ⟨Nat.le_of_ble_eq_true rfl, Nat.le_of_ble_eq_true rfl⟩ ⟨Nat.le_of_ble_eq_true rfl, Nat.le_of_ble_eq_true rfl⟩ rfl (Nat.le_of_ble_eq_true rfl) (fun r μ' ν' hq => ?_)
  obtain ⟨rfl, rfl, rfl⟩ := hq
  show Z _ _ _ _ _ _ _ _ _ _ _ 0 0 _ _ _ [.int ty1.1] _ _
  refine z_if_eq d_Panel_lightOf_5 (tgt := 17) (by decide) (fun cy2 => ?_) (fun cy2 => ?_)
  · replace hF := zh_t cy2 hF
    refine z_iconst d_Panel_lightOf_17 (v := 0) (by decide) ?_
    exact z_Panel_lightOf_18 hs  hF
  · replace hF := zh_f cy2 hF
    refine z_aload_n d_Panel_lightOf_8 0 rfl rfl ?_
    refine z_getr d_Panel_lightOf_9 (q := (b + 6)) f_Panel_18 (hs 3 _ rfl) rfl ?_
    refine z_iload_n d_Panel_lightOf_12 1 rfl rfl ?_
    obtain ⟨hy3, hF⟩ := zh_if hF
    refine z_iald d_Panel_lightOf_13 (hs 6 _ rfl) (zin_vp hy3) ?_
    refine z_goto d_Panel_lightOf_14 (tgt := 18) (by decide) ?_
    exact z_Panel_lightOf_18 hs  hF
def E_Panel_lightOf (b : Nat) (x1 : Int32) (μ : zI) (ν : zJ) : Option (Int32 × zI × zJ) := e_Panel_lightOf_0 b x1 μ ν
theorem c_Panel_lightOf {l : Launch} {D : va_G} {dA : Nat → ClassId} {ad : Nat → Nat} {sh : List zSE} {μ : zI} {ν : zJ} {b : Nat} {x1 : Int32} (hs : zSt sh b) {out : (Int32 × zI × zJ)} (hE : E_Panel_lightOf b x1 μ ν = some out) : zC l D dA ad sh m_Panel_lightOf 1 0 0 [.ref (ad (b + 3)), .int x1] μ ν (zOi out) :=
  zC.of (by decide) (Nat.le_of_ble_eq_true rfl) (z_Panel_lightOf_0 hs hE)
def e_Told_isOne_15   (x0 : Int32) (s0 : Int32) (μ : zI) (ν : zJ) : Option (Int32 × zI × zJ) := (if zb s0 = true then some (s0, μ, ν) else none)
theorem z_Told_isOne_15 {l : Launch} {D : va_G} {dA : Nat → ClassId} {ad : Nat → Nat} {sh : List zSE}    {x0 : Int32} {s0 : Int32} {μ : zI} {ν : zJ} {out : (Int32 × zI × zJ)} (hF : e_Told_isOne_15   x0 s0 μ ν = some out) : Z l D dA ad sh m_Told_isOne (zR 0 0 0) (zS ad) (zOi out) 0 0 0 0 [] 15 [(0, .int x0)] [.int s0] μ ν := by
  unfold e_Told_isOne_15 at hF
  obtain ⟨hy1, hF⟩ := zh_if hF
  cases hF
  exact z_ireturn d_Told_isOne_15 rfl (zb_n hy1) ⟨rfl, rfl, rfl⟩
def e_Told_isOne_14   (x0 : Int32) (μ : zI) (ν : zJ) : Option (Int32 × zI × zJ) := e_Told_isOne_15 x0 0 μ ν
theorem z_Told_isOne_14 {l : Launch} {D : va_G} {dA : Nat → ClassId} {ad : Nat → Nat} {sh : List zSE}    {x0 : Int32} {μ : zI} {ν : zJ} {out : (Int32 × zI × zJ)} (hF : e_Told_isOne_14   x0 μ ν = some out) : Z l D dA ad sh m_Told_isOne (zR 0 0 0) (zS ad) (zOi out) 0 0 0 0 [] 14 [(0, .int x0)] [] μ ν := by
  unfold e_Told_isOne_14 at hF
  refine z_iconst d_Told_isOne_14 (v := 0) (by decide) ?_
  exact z_Told_isOne_15   hF
def e_Told_isOne_0   (x0 : Int32) (μ : zI) (ν : zJ) : Option (Int32 × zI × zJ) := (if x0 < 0 then e_Told_isOne_14 x0 μ ν else (if 19 ≤ x0 then e_Told_isOne_14 x0 μ ν else e_Told_isOne_15 x0 1 μ ν))
theorem z_Told_isOne_0 {l : Launch} {D : va_G} {dA : Nat → ClassId} {ad : Nat → Nat} {sh : List zSE}    {x0 : Int32} {μ : zI} {ν : zJ} {out : (Int32 × zI × zJ)} (hF : e_Told_isOne_0   x0 μ ν = some out) : Z l D dA ad sh m_Told_isOne (zR 0 0 0) (zS ad) (zOi out) 0 0 0 0 [] 0 [(0, .int x0)] [] μ ν := by
  unfold e_Told_isOne_0 at hF
  refine z_iload_n d_Told_isOne_0 0 rfl rfl ?_
  refine z_if_lt d_Told_isOne_1 (tgt := 14) (by decide) (fun cy1 => ?_) (fun cy1 => ?_)
  · replace hF := zh_t cy1 hF
    exact z_Told_isOne_14   hF
  · replace hF := zh_f cy1 hF
    refine z_iload_n d_Told_isOne_4 0 rfl rfl ?_
    refine z_bipush d_Told_isOne_5 (v := 19) (by decide) ?_
    refine z_icmp_ge d_Told_isOne_7 (tgt := 14) (by decide) (fun cy2 => ?_) (fun cy2 => ?_)
    · replace hF := zh_t cy2 hF
      exact z_Told_isOne_14   hF
    · replace hF := zh_f cy2 hF
      refine z_iconst d_Told_isOne_10 (v := 1) (by decide) ?_
      refine z_goto d_Told_isOne_11 (tgt := 15) (by decide) ?_
      exact z_Told_isOne_15   hF
def E_Told_isOne  (x0 : Int32) (μ : zI) (ν : zJ) : Option (Int32 × zI × zJ) := e_Told_isOne_0 x0 μ ν
theorem c_Told_isOne {l : Launch} {D : va_G} {dA : Nat → ClassId} {ad : Nat → Nat} {sh : List zSE} {μ : zI} {ν : zJ} {x0 : Int32}  {out : (Int32 × zI × zJ)} (hE : E_Told_isOne x0 μ ν = some out) : zC l D dA ad sh m_Told_isOne 0 0 0 [.int x0] μ ν (zOi out) :=
  zC.of (by decide) (Nat.le_of_ble_eq_true rfl) (z_Told_isOne_0  hE)
def e_Told_mayBe_33   (x0 : Int32) (x1 : Int32) (s0 : Int32) (μ : zI) (ν : zJ) : Option (Int32 × zI × zJ) := (if zb s0 = true then some (s0, μ, ν) else none)
theorem z_Told_mayBe_33 {l : Launch} {D : va_G} {dA : Nat → ClassId} {ad : Nat → Nat} {sh : List zSE}    {x0 : Int32} {x1 : Int32} {s0 : Int32} {μ : zI} {ν : zJ} {out : (Int32 × zI × zJ)} (hF : e_Told_mayBe_33   x0 x1 s0 μ ν = some out) : Z l D dA ad sh m_Told_mayBe (zR 0 0 0) (zS ad) (zOi out) 0 0 0 0 [] 33 [(0, .int x0), (1, .int x1)] [.int s0] μ ν := by
  unfold e_Told_mayBe_33 at hF
  obtain ⟨hy1, hF⟩ := zh_if hF
  cases hF
  exact z_ireturn d_Told_mayBe_33 rfl (zb_n hy1) ⟨rfl, rfl, rfl⟩
def e_Told_mayBe_32   (x0 : Int32) (x1 : Int32) (μ : zI) (ν : zJ) : Option (Int32 × zI × zJ) := e_Told_mayBe_33 x0 x1 0 μ ν
theorem z_Told_mayBe_32 {l : Launch} {D : va_G} {dA : Nat → ClassId} {ad : Nat → Nat} {sh : List zSE}    {x0 : Int32} {x1 : Int32} {μ : zI} {ν : zJ} {out : (Int32 × zI × zJ)} (hF : e_Told_mayBe_32   x0 x1 μ ν = some out) : Z l D dA ad sh m_Told_mayBe (zR 0 0 0) (zS ad) (zOi out) 0 0 0 0 [] 32 [(0, .int x0), (1, .int x1)] [] μ ν := by
  unfold e_Told_mayBe_32 at hF
  refine z_iconst d_Told_mayBe_32 (v := 0) (by decide) ?_
  exact z_Told_mayBe_33   hF
def e_Told_mayBe_0   (x0 : Int32) (x1 : Int32) (μ : zI) (ν : zJ) : Option (Int32 × zI × zJ) := (if x0 < 0 then e_Told_mayBe_32 x0 x1 μ ν else (if 19 ≤ x0 then e_Told_mayBe_32 x0 x1 μ ν else (if zin x0 19 = true then (if x1 < (((zTabs.getD 1 ("", "", [])).2.2).getD (Int32.toNatClampNeg x0) 0) then e_Told_mayBe_32 x0 x1 μ ν else (if zin x0 19 = true then (if (((zTabs.getD 2 ("", "", [])).2.2).getD (Int32.toNatClampNeg x0) 0) < x1 then e_Told_mayBe_32 x0 x1 μ ν else e_Told_mayBe_33 x0 x1 1 μ ν) else none)) else none)))
theorem z_Told_mayBe_0 {l : Launch} {D : va_G} {dA : Nat → ClassId} {ad : Nat → Nat} {sh : List zSE}    {x0 : Int32} {x1 : Int32} {μ : zI} {ν : zJ} {out : (Int32 × zI × zJ)} (hF : e_Told_mayBe_0   x0 x1 μ ν = some out) : Z l D dA ad sh m_Told_mayBe (zR 0 0 0) (zS ad) (zOi out) 0 0 0 0 [] 0 [(0, .int x0), (1, .int x1)] [] μ ν := by
  unfold e_Told_mayBe_0 at hF
  refine z_iload_n d_Told_mayBe_0 0 rfl rfl ?_
  refine z_if_lt d_Told_mayBe_1 (tgt := 32) (by decide) (fun cy1 => ?_) (fun cy1 => ?_)
  · replace hF := zh_t cy1 hF
    exact z_Told_mayBe_32   hF
  · replace hF := zh_f cy1 hF
    refine z_iload_n d_Told_mayBe_4 0 rfl rfl ?_
    refine z_bipush d_Told_mayBe_5 (v := 19) (by decide) ?_
    refine z_icmp_ge d_Told_mayBe_7 (tgt := 32) (by decide) (fun cy2 => ?_) (fun cy2 => ?_)
    · replace hF := zh_t cy2 hF
      exact z_Told_mayBe_32   hF
    · replace hF := zh_f cy2 hF
      refine z_iload_n d_Told_mayBe_10 1 rfl rfl ?_
      refine z_gets d_Told_mayBe_11 (fun _ _ h => h) (k := 1) rfl s_Told_13 ?_
      refine z_iload_n d_Told_mayBe_14 0 rfl rfl ?_
      obtain ⟨hy3, hF⟩ := zh_if hF
      refine z_tald d_Told_mayBe_15 (fun _ _ h => h) (k := 1) rfl (zin_vp hy3) ?_
      refine z_icmp_lt d_Told_mayBe_16 (tgt := 32) (by decide) (fun cy4 => ?_) (fun cy4 => ?_)
      · replace hF := zh_t cy4 hF
        exact z_Told_mayBe_32   hF
      · replace hF := zh_f cy4 hF
        refine z_iload_n d_Told_mayBe_19 1 rfl rfl ?_
        refine z_gets d_Told_mayBe_20 (fun _ _ h => h) (k := 2) rfl s_Told_16 ?_
        refine z_iload_n d_Told_mayBe_23 0 rfl rfl ?_
        obtain ⟨hy5, hF⟩ := zh_if hF
        refine z_tald d_Told_mayBe_24 (fun _ _ h => h) (k := 2) rfl (zin_vp hy5) ?_
        refine z_icmp_gt d_Told_mayBe_25 (tgt := 32) (by decide) (fun cy6 => ?_) (fun cy6 => ?_)
        · replace hF := zh_t cy6 hF
          exact z_Told_mayBe_32   hF
        · replace hF := zh_f cy6 hF
          refine z_iconst d_Told_mayBe_28 (v := 1) (by decide) ?_
          refine z_goto d_Told_mayBe_29 (tgt := 33) (by decide) ?_
          exact z_Told_mayBe_33   hF
def E_Told_mayBe  (x0 : Int32) (x1 : Int32) (μ : zI) (ν : zJ) : Option (Int32 × zI × zJ) := e_Told_mayBe_0 x0 x1 μ ν
theorem c_Told_mayBe {l : Launch} {D : va_G} {dA : Nat → ClassId} {ad : Nat → Nat} {sh : List zSE} {μ : zI} {ν : zJ} {x0 : Int32} {x1 : Int32}  {out : (Int32 × zI × zJ)} (hE : E_Told_mayBe x0 x1 μ ν = some out) : zC l D dA ad sh m_Told_mayBe 0 0 0 [.int x0, .int x1] μ ν (zOi out) :=
  zC.of (by decide) (Nat.le_of_ble_eq_true rfl) (z_Told_mayBe_0  hE)
def e_Panel_ampsOf_18 (b : Nat)  (x1 : Int32) (s0 : Int32) (μ : zI) (ν : zJ) : Option (Int32 × zI × zJ) := some (s0, μ, ν)
theorem z_Panel_ampsOf_18 {l : Launch} {D : va_G} {dA : Nat → ClassId} {ad : Nat → Nat} {sh : List zSE}  {b : Nat} (hs : zSt sh b)  {x1 : Int32} {s0 : Int32} {μ : zI} {ν : zJ} {out : (Int32 × zI × zJ)} (hF : e_Panel_ampsOf_18 b  x1 s0 μ ν = some out) : Z l D dA ad sh m_Panel_ampsOf (zR 1 0 0) (zS ad) (zOi out) 0 0 0 0 [] 18 [(0, .ref (ad (b + 3))), (1, .int x1)] [.int s0] μ ν := by
  unfold e_Panel_ampsOf_18 at hF
  cases hF
  exact z_ireturn d_Panel_ampsOf_18 rfl rfl ⟨rfl, rfl, rfl⟩
def e_Panel_ampsOf_0 (b : Nat)  (x1 : Int32) (μ : zI) (ν : zJ) : Option (Int32 × zI × zJ) := Option.bind (E_Panel_has b x1 μ ν) fun ty1 => (if ty1.1 = 0 then e_Panel_ampsOf_18 b x1 0 ty1.2.1 ty1.2.2 else (if zin x1 6 = true then e_Panel_ampsOf_18 b x1 (ty1.2.1 (b + 4) (Int32.toNatClampNeg x1)) ty1.2.1 ty1.2.2 else none))
theorem z_Panel_ampsOf_0 {l : Launch} {D : va_G} {dA : Nat → ClassId} {ad : Nat → Nat} {sh : List zSE}  {b : Nat} (hs : zSt sh b)  {x1 : Int32} {μ : zI} {ν : zJ} {out : (Int32 × zI × zJ)} (hF : e_Panel_ampsOf_0 b  x1 μ ν = some out) : Z l D dA ad sh m_Panel_ampsOf (zR 1 0 0) (zS ad) (zOi out) 0 0 0 0 [] 0 [(0, .ref (ad (b + 3))), (1, .int x1)] [] μ ν := by
  unfold e_Panel_ampsOf_0 at hF
  refine z_aload_n d_Panel_ampsOf_0 0 rfl rfl ?_
  refine z_iload_n d_Panel_ampsOf_1 1 rfl rfl ?_
  obtain ⟨ty1, hty1, hF⟩ := zh_bind hF
  refine z_callV d_Panel_ampsOf_2 (c_Panel_has hs hty1) mv_Panel_has l_Panel_43 (fun _ _ h => h) (hs 3 _ rfl) rfl rfl ⟨Nat.le_of_ble_eq_true rfl, Nat.le_of_ble_eq_true rfl⟩ ⟨Nat.le_of_ble_eq_true rfl, Nat.le_of_ble_eq_true rfl⟩ rfl (Nat.le_of_ble_eq_true rfl) (fun r μ' ν' hq => ?_)
  obtain ⟨rfl, rfl, rfl⟩ := hq
  show Z _ _ _ _ _ _ _ _ _ _ _ 0 0 _ _ _ [.int ty1.1] _ _
  refine z_if_eq d_Panel_ampsOf_5 (tgt := 17) (by decide) (fun cy2 => ?_) (fun cy2 => ?_)
  · replace hF := zh_t cy2 hF
    refine z_iconst d_Panel_ampsOf_17 (v := 0) (by decide) ?_
    exact z_Panel_ampsOf_18 hs  hF
  · replace hF := zh_f cy2 hF
    refine z_aload_n d_Panel_ampsOf_8 0 rfl rfl ?_
    refine z_getr d_Panel_ampsOf_9 (q := (b + 4)) f_Panel_11 (hs 3 _ rfl) rfl ?_
    refine z_iload_n d_Panel_ampsOf_12 1 rfl rfl ?_
    obtain ⟨hy3, hF⟩ := zh_if hF
    refine z_iald d_Panel_ampsOf_13 (hs 4 _ rfl) (zin_vp hy3) ?_
    refine z_goto d_Panel_ampsOf_14 (tgt := 18) (by decide) ?_
    exact z_Panel_ampsOf_18 hs  hF
def E_Panel_ampsOf (b : Nat) (x1 : Int32) (μ : zI) (ν : zJ) : Option (Int32 × zI × zJ) := e_Panel_ampsOf_0 b x1 μ ν
theorem c_Panel_ampsOf {l : Launch} {D : va_G} {dA : Nat → ClassId} {ad : Nat → Nat} {sh : List zSE} {μ : zI} {ν : zJ} {b : Nat} {x1 : Int32} (hs : zSt sh b) {out : (Int32 × zI × zJ)} (hE : E_Panel_ampsOf b x1 μ ν = some out) : zC l D dA ad sh m_Panel_ampsOf 1 0 0 [.ref (ad (b + 3)), .int x1] μ ν (zOi out) :=
  zC.of (by decide) (Nat.le_of_ble_eq_true rfl) (z_Panel_ampsOf_0 hs hE)
def e_Panel_voltsOf_18 (b : Nat)  (x1 : Int32) (s0 : Int32) (μ : zI) (ν : zJ) : Option (Int32 × zI × zJ) := some (s0, μ, ν)
theorem z_Panel_voltsOf_18 {l : Launch} {D : va_G} {dA : Nat → ClassId} {ad : Nat → Nat} {sh : List zSE}  {b : Nat} (hs : zSt sh b)  {x1 : Int32} {s0 : Int32} {μ : zI} {ν : zJ} {out : (Int32 × zI × zJ)} (hF : e_Panel_voltsOf_18 b  x1 s0 μ ν = some out) : Z l D dA ad sh m_Panel_voltsOf (zR 1 0 0) (zS ad) (zOi out) 0 0 0 0 [] 18 [(0, .ref (ad (b + 3))), (1, .int x1)] [.int s0] μ ν := by
  unfold e_Panel_voltsOf_18 at hF
  cases hF
  exact z_ireturn d_Panel_voltsOf_18 rfl rfl ⟨rfl, rfl, rfl⟩
def e_Panel_voltsOf_0 (b : Nat)  (x1 : Int32) (μ : zI) (ν : zJ) : Option (Int32 × zI × zJ) := Option.bind (E_Panel_has b x1 μ ν) fun ty1 => (if ty1.1 = 0 then e_Panel_voltsOf_18 b x1 0 ty1.2.1 ty1.2.2 else (if zin x1 6 = true then e_Panel_voltsOf_18 b x1 (ty1.2.1 (b + 5) (Int32.toNatClampNeg x1)) ty1.2.1 ty1.2.2 else none))
theorem z_Panel_voltsOf_0 {l : Launch} {D : va_G} {dA : Nat → ClassId} {ad : Nat → Nat} {sh : List zSE}  {b : Nat} (hs : zSt sh b)  {x1 : Int32} {μ : zI} {ν : zJ} {out : (Int32 × zI × zJ)} (hF : e_Panel_voltsOf_0 b  x1 μ ν = some out) : Z l D dA ad sh m_Panel_voltsOf (zR 1 0 0) (zS ad) (zOi out) 0 0 0 0 [] 0 [(0, .ref (ad (b + 3))), (1, .int x1)] [] μ ν := by
  unfold e_Panel_voltsOf_0 at hF
  refine z_aload_n d_Panel_voltsOf_0 0 rfl rfl ?_
  refine z_iload_n d_Panel_voltsOf_1 1 rfl rfl ?_
  obtain ⟨ty1, hty1, hF⟩ := zh_bind hF
  refine z_callV d_Panel_voltsOf_2 (c_Panel_has hs hty1) mv_Panel_has l_Panel_43 (fun _ _ h => h) (hs 3 _ rfl) rfl rfl ⟨Nat.le_of_ble_eq_true rfl, Nat.le_of_ble_eq_true rfl⟩ ⟨Nat.le_of_ble_eq_true rfl, Nat.le_of_ble_eq_true rfl⟩ rfl (Nat.le_of_ble_eq_true rfl) (fun r μ' ν' hq => ?_)
  obtain ⟨rfl, rfl, rfl⟩ := hq
  show Z _ _ _ _ _ _ _ _ _ _ _ 0 0 _ _ _ [.int ty1.1] _ _
  refine z_if_eq d_Panel_voltsOf_5 (tgt := 17) (by decide) (fun cy2 => ?_) (fun cy2 => ?_)
  · replace hF := zh_t cy2 hF
    refine z_iconst d_Panel_voltsOf_17 (v := 0) (by decide) ?_
    exact z_Panel_voltsOf_18 hs  hF
  · replace hF := zh_f cy2 hF
    refine z_aload_n d_Panel_voltsOf_8 0 rfl rfl ?_
    refine z_getr d_Panel_voltsOf_9 (q := (b + 5)) f_Panel_15 (hs 3 _ rfl) rfl ?_
    refine z_iload_n d_Panel_voltsOf_12 1 rfl rfl ?_
    obtain ⟨hy3, hF⟩ := zh_if hF
    refine z_iald d_Panel_voltsOf_13 (hs 5 _ rfl) (zin_vp hy3) ?_
    refine z_goto d_Panel_voltsOf_14 (tgt := 18) (by decide) ?_
    exact z_Panel_voltsOf_18 hs  hF
def E_Panel_voltsOf (b : Nat) (x1 : Int32) (μ : zI) (ν : zJ) : Option (Int32 × zI × zJ) := e_Panel_voltsOf_0 b x1 μ ν
theorem c_Panel_voltsOf {l : Launch} {D : va_G} {dA : Nat → ClassId} {ad : Nat → Nat} {sh : List zSE} {μ : zI} {ν : zJ} {b : Nat} {x1 : Int32} (hs : zSt sh b) {out : (Int32 × zI × zJ)} (hE : E_Panel_voltsOf b x1 μ ν = some out) : zC l D dA ad sh m_Panel_voltsOf 1 0 0 [.ref (ad (b + 3)), .int x1] μ ν (zOi out) :=
  zC.of (by decide) (Nat.le_of_ble_eq_true rfl) (z_Panel_voltsOf_0 hs hE)
def e_Panel_litOf_18 (b : Nat)  (x1 : Int32) (s0 : Int32) (μ : zI) (ν : zJ) : Option (Int32 × zI × zJ) := some (s0, μ, ν)
theorem z_Panel_litOf_18 {l : Launch} {D : va_G} {dA : Nat → ClassId} {ad : Nat → Nat} {sh : List zSE}  {b : Nat} (hs : zSt sh b)  {x1 : Int32} {s0 : Int32} {μ : zI} {ν : zJ} {out : (Int32 × zI × zJ)} (hF : e_Panel_litOf_18 b  x1 s0 μ ν = some out) : Z l D dA ad sh m_Panel_litOf (zR 1 0 0) (zS ad) (zOi out) 0 0 0 0 [] 18 [(0, .ref (ad (b + 3))), (1, .int x1)] [.int s0] μ ν := by
  unfold e_Panel_litOf_18 at hF
  cases hF
  exact z_ireturn d_Panel_litOf_18 rfl rfl ⟨rfl, rfl, rfl⟩
def e_Panel_litOf_0 (b : Nat)  (x1 : Int32) (μ : zI) (ν : zJ) : Option (Int32 × zI × zJ) := Option.bind (E_Panel_has b x1 μ ν) fun ty1 => (if ty1.1 = 0 then e_Panel_litOf_18 b x1 0 ty1.2.1 ty1.2.2 else (if zin x1 6 = true then e_Panel_litOf_18 b x1 (ty1.2.1 (b + 7) (Int32.toNatClampNeg x1)) ty1.2.1 ty1.2.2 else none))
theorem z_Panel_litOf_0 {l : Launch} {D : va_G} {dA : Nat → ClassId} {ad : Nat → Nat} {sh : List zSE}  {b : Nat} (hs : zSt sh b)  {x1 : Int32} {μ : zI} {ν : zJ} {out : (Int32 × zI × zJ)} (hF : e_Panel_litOf_0 b  x1 μ ν = some out) : Z l D dA ad sh m_Panel_litOf (zR 1 0 0) (zS ad) (zOi out) 0 0 0 0 [] 0 [(0, .ref (ad (b + 3))), (1, .int x1)] [] μ ν := by
  unfold e_Panel_litOf_0 at hF
  refine z_aload_n d_Panel_litOf_0 0 rfl rfl ?_
  refine z_iload_n d_Panel_litOf_1 1 rfl rfl ?_
  obtain ⟨ty1, hty1, hF⟩ := zh_bind hF
  refine z_callV d_Panel_litOf_2 (c_Panel_has hs hty1) mv_Panel_has l_Panel_43 (fun _ _ h => h) (hs 3 _ rfl) rfl rfl ⟨Nat.le_of_ble_eq_true rfl, Nat.le_of_ble_eq_true rfl⟩ ⟨Nat.le_of_ble_eq_true rfl, Nat.le_of_ble_eq_true rfl⟩ rfl (Nat.le_of_ble_eq_true rfl) (fun r μ' ν' hq => ?_)
  obtain ⟨rfl, rfl, rfl⟩ := hq
  show Z _ _ _ _ _ _ _ _ _ _ _ 0 0 _ _ _ [.int ty1.1] _ _
  refine z_if_eq d_Panel_litOf_5 (tgt := 17) (by decide) (fun cy2 => ?_) (fun cy2 => ?_)
  · replace hF := zh_t cy2 hF
    refine z_iconst d_Panel_litOf_17 (v := 0) (by decide) ?_
    exact z_Panel_litOf_18 hs  hF
  · replace hF := zh_f cy2 hF
    refine z_aload_n d_Panel_litOf_8 0 rfl rfl ?_
    refine z_getr d_Panel_litOf_9 (q := (b + 7)) f_Panel_21 (hs 3 _ rfl) rfl ?_
    refine z_iload_n d_Panel_litOf_12 1 rfl rfl ?_
    obtain ⟨hy3, hF⟩ := zh_if hF
    refine z_iald d_Panel_litOf_13 (hs 7 _ rfl) (zin_vp hy3) ?_
    refine z_goto d_Panel_litOf_14 (tgt := 18) (by decide) ?_
    exact z_Panel_litOf_18 hs  hF
def E_Panel_litOf (b : Nat) (x1 : Int32) (μ : zI) (ν : zJ) : Option (Int32 × zI × zJ) := e_Panel_litOf_0 b x1 μ ν
theorem c_Panel_litOf {l : Launch} {D : va_G} {dA : Nat → ClassId} {ad : Nat → Nat} {sh : List zSE} {μ : zI} {ν : zJ} {b : Nat} {x1 : Int32} (hs : zSt sh b) {out : (Int32 × zI × zJ)} (hE : E_Panel_litOf b x1 μ ν = some out) : zC l D dA ad sh m_Panel_litOf 1 0 0 [.ref (ad (b + 3)), .int x1] μ ν (zOi out) :=
  zC.of (by decide) (Nat.le_of_ble_eq_true rfl) (z_Panel_litOf_0 hs hE)
def e_Panel_isPoint_16   (x0 : Int32) (s0 : Int32) (μ : zI) (ν : zJ) : Option (Int32 × zI × zJ) := (if zb s0 = true then some (s0, μ, ν) else none)
theorem z_Panel_isPoint_16 {l : Launch} {D : va_G} {dA : Nat → ClassId} {ad : Nat → Nat} {sh : List zSE}    {x0 : Int32} {s0 : Int32} {μ : zI} {ν : zJ} {out : (Int32 × zI × zJ)} (hF : e_Panel_isPoint_16   x0 s0 μ ν = some out) : Z l D dA ad sh m_Panel_isPoint (zR 0 0 0) (zS ad) (zOi out) 0 0 0 0 [] 16 [(0, .int x0)] [.int s0] μ ν := by
  unfold e_Panel_isPoint_16 at hF
  obtain ⟨hy1, hF⟩ := zh_if hF
  cases hF
  exact z_ireturn d_Panel_isPoint_16 rfl (zb_n hy1) ⟨rfl, rfl, rfl⟩
def e_Panel_isPoint_15   (x0 : Int32) (μ : zI) (ν : zJ) : Option (Int32 × zI × zJ) := e_Panel_isPoint_16 x0 0 μ ν
theorem z_Panel_isPoint_15 {l : Launch} {D : va_G} {dA : Nat → ClassId} {ad : Nat → Nat} {sh : List zSE}    {x0 : Int32} {μ : zI} {ν : zJ} {out : (Int32 × zI × zJ)} (hF : e_Panel_isPoint_15   x0 μ ν = some out) : Z l D dA ad sh m_Panel_isPoint (zR 0 0 0) (zS ad) (zOi out) 0 0 0 0 [] 15 [(0, .int x0)] [] μ ν := by
  unfold e_Panel_isPoint_15 at hF
  refine z_iconst d_Panel_isPoint_15 (v := 0) (by decide) ?_
  exact z_Panel_isPoint_16   hF
def e_Panel_isPoint_0   (x0 : Int32) (μ : zI) (ν : zJ) : Option (Int32 × zI × zJ) := (if x0 < 0 then e_Panel_isPoint_15 x0 μ ν else (if 1000 ≤ x0 then e_Panel_isPoint_15 x0 μ ν else e_Panel_isPoint_16 x0 1 μ ν))
theorem z_Panel_isPoint_0 {l : Launch} {D : va_G} {dA : Nat → ClassId} {ad : Nat → Nat} {sh : List zSE}    {x0 : Int32} {μ : zI} {ν : zJ} {out : (Int32 × zI × zJ)} (hF : e_Panel_isPoint_0   x0 μ ν = some out) : Z l D dA ad sh m_Panel_isPoint (zR 0 0 0) (zS ad) (zOi out) 0 0 0 0 [] 0 [(0, .int x0)] [] μ ν := by
  unfold e_Panel_isPoint_0 at hF
  refine z_iload_n d_Panel_isPoint_0 0 rfl rfl ?_
  refine z_if_lt d_Panel_isPoint_1 (tgt := 15) (by decide) (fun cy1 => ?_) (fun cy1 => ?_)
  · replace hF := zh_t cy1 hF
    exact z_Panel_isPoint_15   hF
  · replace hF := zh_f cy1 hF
    refine z_iload_n d_Panel_isPoint_4 0 rfl rfl ?_
    refine z_sipush d_Panel_isPoint_5 (v := 1000) (by decide) ?_
    refine z_icmp_ge d_Panel_isPoint_8 (tgt := 15) (by decide) (fun cy2 => ?_) (fun cy2 => ?_)
    · replace hF := zh_t cy2 hF
      exact z_Panel_isPoint_15   hF
    · replace hF := zh_f cy2 hF
      refine z_iconst d_Panel_isPoint_11 (v := 1) (by decide) ?_
      refine z_goto d_Panel_isPoint_12 (tgt := 16) (by decide) ?_
      exact z_Panel_isPoint_16   hF
def E_Panel_isPoint  (x0 : Int32) (μ : zI) (ν : zJ) : Option (Int32 × zI × zJ) := e_Panel_isPoint_0 x0 μ ν
theorem c_Panel_isPoint {l : Launch} {D : va_G} {dA : Nat → ClassId} {ad : Nat → Nat} {sh : List zSE} {μ : zI} {ν : zJ} {x0 : Int32}  {out : (Int32 × zI × zJ)} (hE : E_Panel_isPoint x0 μ ν = some out) : zC l D dA ad sh m_Panel_isPoint 0 0 0 [.int x0] μ ν (zOi out) :=
  zC.of (by decide) (Nat.le_of_ble_eq_true rfl) (z_Panel_isPoint_0  hE)
def e_Panel_topEnd_69 (b : Nat)  (x1 : Int32) (x2 : Int32) (x3 : Int32) (x4 : Int32) (s0 : Int32) (μ : zI) (ν : zJ) : Option (Int32 × zI × zJ) := some (s0, μ, ν)
theorem z_Panel_topEnd_69 {l : Launch} {D : va_G} {dA : Nat → ClassId} {ad : Nat → Nat} {sh : List zSE}  {b : Nat} (hs : zSt sh b)  {x1 : Int32} {x2 : Int32} {x3 : Int32} {x4 : Int32} {s0 : Int32} {μ : zI} {ν : zJ} {out : (Int32 × zI × zJ)} (hF : e_Panel_topEnd_69 b  x1 x2 x3 x4 s0 μ ν = some out) : Z l D dA ad sh m_Panel_topEnd (zR 1 0 0) (zS ad) (zOi out) 0 0 0 0 [] 69 [(0, .ref (ad (b + 3))), (1, .int x1), (2, .int x2), (3, .int x3), (4, .int x4)] [.int s0] μ ν := by
  unfold e_Panel_topEnd_69 at hF
  cases hF
  exact z_ireturn d_Panel_topEnd_69 rfl rfl ⟨rfl, rfl, rfl⟩
def e_Panel_topEnd_53 (b : Nat)  (x1 : Int32) (x2 : Int32) (x3 : Int32) (x4 : Int32) (μ : zI) (ν : zJ) : Option (Int32 × zI × zJ) := Option.bind (E_Panel_powerAt b (x3 + 1) μ ν) fun ty1 => (if x2 ≤ ty1.1 then e_Panel_topEnd_69 b x1 x2 x3 x4 (-1) ty1.2.1 ty1.2.2 else e_Panel_topEnd_69 b x1 x2 x3 x4 x3 ty1.2.1 ty1.2.2)
theorem z_Panel_topEnd_53 {l : Launch} {D : va_G} {dA : Nat → ClassId} {ad : Nat → Nat} {sh : List zSE}  {b : Nat} (hs : zSt sh b)  {x1 : Int32} {x2 : Int32} {x3 : Int32} {x4 : Int32} {μ : zI} {ν : zJ} {out : (Int32 × zI × zJ)} (hF : e_Panel_topEnd_53 b  x1 x2 x3 x4 μ ν = some out) : Z l D dA ad sh m_Panel_topEnd (zR 1 0 0) (zS ad) (zOi out) 0 0 0 0 [] 53 [(0, .ref (ad (b + 3))), (1, .int x1), (2, .int x2), (3, .int x3), (4, .int x4)] [] μ ν := by
  unfold e_Panel_topEnd_53 at hF
  refine z_aload_n d_Panel_topEnd_53 0 rfl rfl ?_
  refine z_iload_n d_Panel_topEnd_54 3 rfl rfl ?_
  refine z_iconst d_Panel_topEnd_55 (v := 1) (by decide) ?_
  refine z_iadd d_Panel_topEnd_56 ?_
  obtain ⟨ty1, hty1, hF⟩ := zh_bind hF
  refine z_callV d_Panel_topEnd_57 (c_Panel_powerAt hs hty1) mv_Panel_powerAt l_Panel_67 (fun _ _ h => h) (hs 3 _ rfl) rfl rfl ⟨Nat.le_of_ble_eq_true rfl, Nat.le_of_ble_eq_true rfl⟩ ⟨Nat.le_of_ble_eq_true rfl, Nat.le_of_ble_eq_true rfl⟩ rfl (Nat.le_of_ble_eq_true rfl) (fun r μ' ν' hq => ?_)
  obtain ⟨rfl, rfl, rfl⟩ := hq
  show Z _ _ _ _ _ _ _ _ _ _ _ 0 0 _ _ _ [.int ty1.1] _ _
  refine z_iload_n d_Panel_topEnd_60 2 rfl rfl ?_
  refine z_icmp_ge d_Panel_topEnd_61 (tgt := 68) (by decide) (fun cy2 => ?_) (fun cy2 => ?_)
  · replace hF := zh_t cy2 hF
    refine z_iconst d_Panel_topEnd_68 (v := (-1)) (by decide) ?_
    exact z_Panel_topEnd_69 hs  hF
  · replace hF := zh_f cy2 hF
    refine z_iload_n d_Panel_topEnd_64 3 rfl rfl ?_
    refine z_goto d_Panel_topEnd_65 (tgt := 69) (by decide) ?_
    exact z_Panel_topEnd_69 hs  hF
def f_Panel_topEnd_26 (b : Nat)  : Nat → Int32 → Int32 → Int32 → Int32 → zI → zJ → Option (Int32 × zI × zJ)
  | 0, _, _, _, _, _, _ => none
  | n + 1, x1, x2, x3, x4, μ, ν => (if 1000 ≤ x4 then e_Panel_topEnd_53 b x1 x2 x3 x4 μ ν else Option.bind (E_Panel_powerAt b x4 μ ν) fun ty2 => (if ty2.1 = x2 then (f_Panel_topEnd_26 b n) x1 x2 x4 (x4 + 1) ty2.2.1 ty2.2.2 else e_Panel_topEnd_53 b x1 x2 x3 x4 ty2.2.1 ty2.2.2))
theorem z_Panel_topEnd_26 {l : Launch} {D : va_G} {dA : Nat → ClassId} {ad : Nat → Nat} {sh : List zSE}  {b : Nat} (hs : zSt sh b)  {out : (Int32 × zI × zJ)} : ∀ (n : Nat) (x1 : Int32) (x2 : Int32) (x3 : Int32) (x4 : Int32) (μ : zI) (ν : zJ), f_Panel_topEnd_26 b  n x1 x2 x3 x4 μ ν = some out → Z l D dA ad sh m_Panel_topEnd (zR 1 0 0) (zS ad) (zOi out) 0 0 0 0 [] 26 [(0, .ref (ad (b + 3))), (1, .int x1), (2, .int x2), (3, .int x3), (4, .int x4)] [] μ ν := by
  intro n
  induction n with
  | zero => intro x1 x2 x3 x4 μ ν hF; cases hF
  | succ n ih =>
    intro x1 x2 x3 x4 μ ν hF
    dsimp only [f_Panel_topEnd_26] at hF
    refine z_iload d_Panel_topEnd_26 4 rfl ?_
    refine z_sipush d_Panel_topEnd_28 (v := 1000) (by decide) ?_
    refine z_icmp_ge d_Panel_topEnd_31 (tgt := 53) (by decide) (fun cy1 => ?_) (fun cy1 => ?_)
    · replace hF := zh_t cy1 hF
      exact z_Panel_topEnd_53 hs  hF
    · replace hF := zh_f cy1 hF
      refine z_aload_n d_Panel_topEnd_34 0 rfl rfl ?_
      refine z_iload d_Panel_topEnd_35 4 rfl ?_
      obtain ⟨ty2, hty2, hF⟩ := zh_bind hF
      refine z_callV d_Panel_topEnd_37 (c_Panel_powerAt hs hty2) mv_Panel_powerAt l_Panel_67 (fun _ _ h => h) (hs 3 _ rfl) rfl rfl ⟨Nat.le_of_ble_eq_true rfl, Nat.le_of_ble_eq_true rfl⟩ ⟨Nat.le_of_ble_eq_true rfl, Nat.le_of_ble_eq_true rfl⟩ rfl (Nat.le_of_ble_eq_true rfl) (fun r μ' ν' hq => ?_)
      obtain ⟨rfl, rfl, rfl⟩ := hq
      show Z _ _ _ _ _ _ _ _ _ _ _ 0 0 _ _ _ [.int ty2.1] _ _
      refine z_iload_n d_Panel_topEnd_40 2 rfl rfl ?_
      refine z_icmp_ne d_Panel_topEnd_41 (tgt := 53) (by decide) (fun cy3 => ?_) (fun cy3 => ?_)
      · replace hF := zh_f cy3 hF
        exact z_Panel_topEnd_53 hs  hF
      · replace hF := zh_t cy3 hF
        refine z_iload d_Panel_topEnd_44 4 rfl ?_
        refine z_istore_n d_Panel_topEnd_46 rfl (by decide) (L2 := [(3, .int x4), (0, .ref (ad (b + 3))), (1, .int x1), (2, .int x2), (4, .int x4)]) rfl ?_
        refine z_iinc d_Panel_topEnd_47 (k := 4) (v := (x4 + 1)) rfl rfl (by decide) (L2 := [(4, .int (x4 + 1)), (3, .int x4), (0, .ref (ad (b + 3))), (1, .int x1), (2, .int x2)]) rfl ?_
        refine z_goto d_Panel_topEnd_50 (tgt := 26) (by decide) ?_
        refine z_sub [2, 3, 4, 1, 0] (L' := [(0, .ref (ad (b + 3))), (1, .int x1), (2, .int x2), (3, .int x4), (4, .int (x4 + 1))]) rfl ?_
        exact ih _ _ _ _ _ _ hF
def e_Panel_topEnd_0 (b : Nat)  (x1 : Int32) (μ : zI) (ν : zJ) : Option (Int32 × zI × zJ) := Option.bind (E_Panel_powerAt b x1 μ ν) fun ty1 => zlet (α := Int32) ty1.1 fun y2 => Option.bind (E_Panel_powerAt b (x1 - 1) ty1.2.1 ty1.2.2) fun ty3 => (if ty3.1 < y2 then zlet (α := Int32) (x1 + 1) fun y5 => f_Panel_topEnd_26 b zFuel x1 y2 x1 y5 ty3.2.1 ty3.2.2 else some ((-1), ty3.2.1, ty3.2.2))
theorem z_Panel_topEnd_0 {l : Launch} {D : va_G} {dA : Nat → ClassId} {ad : Nat → Nat} {sh : List zSE}  {b : Nat} (hs : zSt sh b)  {x1 : Int32} {μ : zI} {ν : zJ} {out : (Int32 × zI × zJ)} (hF : e_Panel_topEnd_0 b  x1 μ ν = some out) : Z l D dA ad sh m_Panel_topEnd (zR 1 0 0) (zS ad) (zOi out) 0 0 0 0 [] 0 [(0, .ref (ad (b + 3))), (1, .int x1)] [] μ ν := by
  unfold e_Panel_topEnd_0 at hF
  refine z_aload_n d_Panel_topEnd_0 0 rfl rfl ?_
  refine z_iload_n d_Panel_topEnd_1 1 rfl rfl ?_
  obtain ⟨ty1, hty1, hF⟩ := zh_bind hF
  refine z_callV d_Panel_topEnd_2 (c_Panel_powerAt hs hty1) mv_Panel_powerAt l_Panel_67 (fun _ _ h => h) (hs 3 _ rfl) rfl rfl ⟨Nat.le_of_ble_eq_true rfl, Nat.le_of_ble_eq_true rfl⟩ ⟨Nat.le_of_ble_eq_true rfl, Nat.le_of_ble_eq_true rfl⟩ rfl (Nat.le_of_ble_eq_true rfl) (fun r μ' ν' hq => ?_)
  obtain ⟨rfl, rfl, rfl⟩ := hq
  show Z _ _ _ _ _ _ _ _ _ _ _ 0 0 _ _ _ [.int ty1.1] _ _
  obtain ⟨y2, hy2, hF⟩ := zh_let hF
  refine z_eqi hy2 ?_
  refine z_istore_n d_Panel_topEnd_5 rfl (by decide) (L2 := [(2, .int y2), (0, .ref (ad (b + 3))), (1, .int x1)]) rfl ?_
  refine z_iload_n d_Panel_topEnd_6 0 rfl rfl ?_
  refine z_aload_n d_Panel_topEnd_7 1 rfl rfl ?_
  refine z_iload_n d_Panel_topEnd_8 2 rfl rfl ?_
  refine z_iconst d_Panel_topEnd_9 (v := 1) (by decide) ?_
  refine z_isub d_Panel_topEnd_10 ?_
  obtain ⟨ty3, hty3, hF⟩ := zh_bind hF
  refine z_callV d_Panel_topEnd_11 (c_Panel_powerAt hs hty3) mv_Panel_powerAt l_Panel_67 (fun _ _ h => h) (hs 3 _ rfl) rfl rfl ⟨Nat.le_of_ble_eq_true rfl, Nat.le_of_ble_eq_true rfl⟩ ⟨Nat.le_of_ble_eq_true rfl, Nat.le_of_ble_eq_true rfl⟩ rfl (Nat.le_of_ble_eq_true rfl) (fun r μ' ν' hq => ?_)
  obtain ⟨rfl, rfl, rfl⟩ := hq
  show Z _ _ _ _ _ _ _ _ _ _ _ 0 0 _ _ _ [.int ty3.1, .int y2] _ _
  refine z_icmp_gt d_Panel_topEnd_14 (tgt := 19) (by decide) (fun cy4 => ?_) (fun cy4 => ?_)
  · replace hF := zh_t cy4 hF
    refine z_iload_n d_Panel_topEnd_19 2 rfl rfl ?_
    refine z_istore_n d_Panel_topEnd_20 rfl (by decide) (L2 := [(3, .int x1), (2, .int y2), (0, .ref (ad (b + 3))), (1, .int x1)]) rfl ?_
    refine z_iload_n d_Panel_topEnd_21 3 rfl rfl ?_
    refine z_iconst d_Panel_topEnd_22 (v := 1) (by decide) ?_
    refine z_iadd d_Panel_topEnd_23 ?_
    obtain ⟨y5, hy5, hF⟩ := zh_let hF
    refine z_eqi hy5 ?_
    refine z_istore d_Panel_topEnd_24 (by decide) (L2 := [(4, .int y5), (3, .int x1), (2, .int y2), (0, .ref (ad (b + 3))), (1, .int x1)]) rfl ?_
    refine z_sub [3, 4, 2, 1, 0] (L' := [(0, .ref (ad (b + 3))), (1, .int x1), (2, .int y2), (3, .int x1), (4, .int y5)]) rfl ?_
    exact z_Panel_topEnd_26 hs  zFuel _ _ _ _ _ _ hF
  · replace hF := zh_f cy4 hF
    refine z_iconst d_Panel_topEnd_17 (v := (-1)) (by decide) ?_
    cases hF
    exact z_ireturn d_Panel_topEnd_18 rfl rfl ⟨rfl, rfl, rfl⟩
def E_Panel_topEnd (b : Nat) (x1 : Int32) (μ : zI) (ν : zJ) : Option (Int32 × zI × zJ) := e_Panel_topEnd_0 b x1 μ ν
theorem c_Panel_topEnd {l : Launch} {D : va_G} {dA : Nat → ClassId} {ad : Nat → Nat} {sh : List zSE} {μ : zI} {ν : zJ} {b : Nat} {x1 : Int32} (hs : zSt sh b) {out : (Int32 × zI × zJ)} (hE : E_Panel_topEnd b x1 μ ν = some out) : zC l D dA ad sh m_Panel_topEnd 1 0 0 [.ref (ad (b + 3)), .int x1] μ ν (zOi out) :=
  zC.of (by decide) (Nat.le_of_ble_eq_true rfl) (z_Panel_topEnd_0 hs hE)
def e_Station_isSum_15 (b : Nat)  (x1 : Int32) (s0 : Int32) (μ : zI) (ν : zJ) : Option (Int32 × zI × zJ) := (if zb s0 = true then some (s0, μ, ν) else none)
theorem z_Station_isSum_15 {l : Launch} {D : va_G} {dA : Nat → ClassId} {ad : Nat → Nat} {sh : List zSE}  {b : Nat} (hs : zSt sh b)  {x1 : Int32} {s0 : Int32} {μ : zI} {ν : zJ} {out : (Int32 × zI × zJ)} (hF : e_Station_isSum_15 b  x1 s0 μ ν = some out) : Z l D dA ad sh m_Station_isSum (zR 0 0 0) (zS ad) (zOi out) 0 0 0 0 [] 15 [(0, .ref (ad b)), (1, .int x1)] [.int s0] μ ν := by
  unfold e_Station_isSum_15 at hF
  obtain ⟨hy1, hF⟩ := zh_if hF
  cases hF
  exact z_ireturn d_Station_isSum_15 rfl (zb_n hy1) ⟨rfl, rfl, rfl⟩
def e_Station_isSum_14 (b : Nat)  (x1 : Int32) (μ : zI) (ν : zJ) : Option (Int32 × zI × zJ) := e_Station_isSum_15 b x1 0 μ ν
theorem z_Station_isSum_14 {l : Launch} {D : va_G} {dA : Nat → ClassId} {ad : Nat → Nat} {sh : List zSE}  {b : Nat} (hs : zSt sh b)  {x1 : Int32} {μ : zI} {ν : zJ} {out : (Int32 × zI × zJ)} (hF : e_Station_isSum_14 b  x1 μ ν = some out) : Z l D dA ad sh m_Station_isSum (zR 0 0 0) (zS ad) (zOi out) 0 0 0 0 [] 14 [(0, .ref (ad b)), (1, .int x1)] [] μ ν := by
  unfold e_Station_isSum_14 at hF
  refine z_iconst d_Station_isSum_14 (v := 0) (by decide) ?_
  exact z_Station_isSum_15 hs  hF
def e_Station_isSum_0 (b : Nat)  (x1 : Int32) (μ : zI) (ν : zJ) : Option (Int32 × zI × zJ) := (if x1 < 0 then e_Station_isSum_14 b x1 μ ν else (if 11 ≤ x1 then e_Station_isSum_14 b x1 μ ν else e_Station_isSum_15 b x1 1 μ ν))
theorem z_Station_isSum_0 {l : Launch} {D : va_G} {dA : Nat → ClassId} {ad : Nat → Nat} {sh : List zSE}  {b : Nat} (hs : zSt sh b)  {x1 : Int32} {μ : zI} {ν : zJ} {out : (Int32 × zI × zJ)} (hF : e_Station_isSum_0 b  x1 μ ν = some out) : Z l D dA ad sh m_Station_isSum (zR 0 0 0) (zS ad) (zOi out) 0 0 0 0 [] 0 [(0, .ref (ad b)), (1, .int x1)] [] μ ν := by
  unfold e_Station_isSum_0 at hF
  refine z_iload_n d_Station_isSum_0 1 rfl rfl ?_
  refine z_if_lt d_Station_isSum_1 (tgt := 14) (by decide) (fun cy1 => ?_) (fun cy1 => ?_)
  · replace hF := zh_t cy1 hF
    exact z_Station_isSum_14 hs  hF
  · replace hF := zh_f cy1 hF
    refine z_iload_n d_Station_isSum_4 1 rfl rfl ?_
    refine z_bipush d_Station_isSum_5 (v := 11) (by decide) ?_
    refine z_icmp_ge d_Station_isSum_7 (tgt := 14) (by decide) (fun cy2 => ?_) (fun cy2 => ?_)
    · replace hF := zh_t cy2 hF
      exact z_Station_isSum_14 hs  hF
    · replace hF := zh_f cy2 hF
      refine z_iconst d_Station_isSum_10 (v := 1) (by decide) ?_
      refine z_goto d_Station_isSum_11 (tgt := 15) (by decide) ?_
      exact z_Station_isSum_15 hs  hF
def E_Station_isSum (b : Nat) (x1 : Int32) (μ : zI) (ν : zJ) : Option (Int32 × zI × zJ) := e_Station_isSum_0 b x1 μ ν
theorem c_Station_isSum {l : Launch} {D : va_G} {dA : Nat → ClassId} {ad : Nat → Nat} {sh : List zSE} {μ : zI} {ν : zJ} {b : Nat} {x1 : Int32} (hs : zSt sh b) {out : (Int32 × zI × zJ)} (hE : E_Station_isSum b x1 μ ν = some out) : zC l D dA ad sh m_Station_isSum 0 0 0 [.ref (ad b), .int x1] μ ν (zOi out) :=
  zC.of (by decide) (Nat.le_of_ble_eq_true rfl) (z_Station_isSum_0 hs hE)
def e_Station_sumOf_18 (b : Nat)  (x1 : Int32) (v0 : Int64) (μ : zI) (ν : zJ) : Option (Int64 × zI × zJ) := some (v0, μ, ν)
theorem z_Station_sumOf_18 {l : Launch} {D : va_G} {dA : Nat → ClassId} {ad : Nat → Nat} {sh : List zSE}  {b : Nat} (hs : zSt sh b)  {x1 : Int32} {v0 : Int64} {μ : zI} {ν : zJ} {out : (Int64 × zI × zJ)} (hF : e_Station_sumOf_18 b  x1 v0 μ ν = some out) : Z l D dA ad sh m_Station_sumOf (zR 1 0 0) (zS ad) (zOl out) 0 0 0 0 [] 18 [(0, .ref (ad b)), (1, .int x1)] [.long v0] μ ν := by
  unfold e_Station_sumOf_18 at hF
  cases hF
  exact z_lreturn d_Station_sumOf_18 rfl ⟨rfl, rfl, rfl⟩
def e_Station_sumOf_0 (b : Nat)  (x1 : Int32) (μ : zI) (ν : zJ) : Option (Int64 × zI × zJ) := Option.bind (E_Station_isSum b x1 μ ν) fun ty1 => (if ty1.1 = 0 then e_Station_sumOf_18 b x1 0 ty1.2.1 ty1.2.2 else (if zin x1 11 = true then e_Station_sumOf_18 b x1 (ty1.2.2 (b + 14) (Int32.toNatClampNeg x1)) ty1.2.1 ty1.2.2 else none))
theorem z_Station_sumOf_0 {l : Launch} {D : va_G} {dA : Nat → ClassId} {ad : Nat → Nat} {sh : List zSE}  {b : Nat} (hs : zSt sh b)  {x1 : Int32} {μ : zI} {ν : zJ} {out : (Int64 × zI × zJ)} (hF : e_Station_sumOf_0 b  x1 μ ν = some out) : Z l D dA ad sh m_Station_sumOf (zR 1 0 0) (zS ad) (zOl out) 0 0 0 0 [] 0 [(0, .ref (ad b)), (1, .int x1)] [] μ ν := by
  unfold e_Station_sumOf_0 at hF
  refine z_aload_n d_Station_sumOf_0 0 rfl rfl ?_
  refine z_iload_n d_Station_sumOf_1 1 rfl rfl ?_
  obtain ⟨ty1, hty1, hF⟩ := zh_bind hF
  refine z_callV d_Station_sumOf_2 (c_Station_isSum hs hty1) mv_Station_isSum l_Station_118 (fun _ _ h => h) (hs 0 _ rfl) rfl rfl ⟨Nat.le_of_ble_eq_true rfl, Nat.le_of_ble_eq_true rfl⟩ ⟨Nat.le_of_ble_eq_true rfl, Nat.le_of_ble_eq_true rfl⟩ rfl (Nat.le_of_ble_eq_true rfl) (fun r μ' ν' hq => ?_)
  obtain ⟨rfl, rfl, rfl⟩ := hq
  show Z _ _ _ _ _ _ _ _ _ _ _ 0 0 _ _ _ [.int ty1.1] _ _
  refine z_if_eq d_Station_sumOf_5 (tgt := 17) (by decide) (fun cy2 => ?_) (fun cy2 => ?_)
  · replace hF := zh_t cy2 hF
    refine z_lconst d_Station_sumOf_17 (v := 0) (by decide) ?_
    exact z_Station_sumOf_18 hs  hF
  · replace hF := zh_f cy2 hF
    refine z_aload_n d_Station_sumOf_8 0 rfl rfl ?_
    refine z_getr d_Station_sumOf_9 (q := (b + 14)) f_Station_51 (hs 0 _ rfl) rfl ?_
    refine z_iload_n d_Station_sumOf_12 1 rfl rfl ?_
    obtain ⟨hy3, hF⟩ := zh_if hF
    refine z_lald d_Station_sumOf_13 (hs 14 _ rfl) (zin_vp hy3) ?_
    refine z_goto d_Station_sumOf_14 (tgt := 18) (by decide) ?_
    exact z_Station_sumOf_18 hs  hF
def E_Station_sumOf (b : Nat) (x1 : Int32) (μ : zI) (ν : zJ) : Option (Int64 × zI × zJ) := e_Station_sumOf_0 b x1 μ ν
theorem c_Station_sumOf {l : Launch} {D : va_G} {dA : Nat → ClassId} {ad : Nat → Nat} {sh : List zSE} {μ : zI} {ν : zJ} {b : Nat} {x1 : Int32} (hs : zSt sh b) {out : (Int64 × zI × zJ)} (hE : E_Station_sumOf b x1 μ ν = some out) : zC l D dA ad sh m_Station_sumOf 1 0 0 [.ref (ad b), .int x1] μ ν (zOl out) :=
  zC.of (by decide) (Nat.le_of_ble_eq_true rfl) (z_Station_sumOf_0 hs hE)
def e_Log_get_22   (x1 : Int32) (x2 : Int32) (μ : zI) (ν : zJ) : Option (Int32 × zI × zJ) := some ((-2), μ, ν)
theorem z_Log_get_22 {l : Launch} {D : va_G} {dA : Nat → ClassId} {ad : Nat → Nat} {sh : List zSE}  (hr : zRo sh)  {x1 : Int32} {x2 : Int32} {μ : zI} {ν : zJ} {out : (Int32 × zI × zJ)} (hF : e_Log_get_22   x1 x2 μ ν = some out) : Z l D dA ad sh m_Log_get (zR 0 0 0) (zS ad) (zOi out) 0 0 0 0 [] 22 [(0, .ref (ad 34)), (1, .int x1), (2, .int x2)] [] μ ν := by
  unfold e_Log_get_22 at hF
  refine z_bipush d_Log_get_22 (v := (-2)) (by decide) ?_
  cases hF
  exact z_ireturn d_Log_get_24 rfl rfl ⟨rfl, rfl, rfl⟩
def e_Log_get_0   (x1 : Int32) (x2 : Int32) (μ : zI) (ν : zJ) : Option (Int32 × zI × zJ) := (if x1 < 0 then e_Log_get_22 x1 x2 μ ν else (if (μ 34 0) ≤ x1 then e_Log_get_22 x1 x2 μ ν else (if x2 < 0 then e_Log_get_22 x1 x2 μ ν else (if x2 < 10 then (if zin ((((((μ 34 1) + 100) - x1) - (((μ 34 1) + 100) - x1) / 100 * 100) * 10) + x2) 1000 = true then some ((μ 35 (Int32.toNatClampNeg ((((((μ 34 1) + 100) - x1) - (((μ 34 1) + 100) - x1) / 100 * 100) * 10) + x2))), μ, ν) else none) else e_Log_get_22 x1 x2 μ ν))))
theorem z_Log_get_0 {l : Launch} {D : va_G} {dA : Nat → ClassId} {ad : Nat → Nat} {sh : List zSE}  (hr : zRo sh)  {x1 : Int32} {x2 : Int32} {μ : zI} {ν : zJ} {out : (Int32 × zI × zJ)} (hF : e_Log_get_0   x1 x2 μ ν = some out) : Z l D dA ad sh m_Log_get (zR 0 0 0) (zS ad) (zOi out) 0 0 0 0 [] 0 [(0, .ref (ad 34)), (1, .int x1), (2, .int x2)] [] μ ν := by
  unfold e_Log_get_0 at hF
  refine z_iload_n d_Log_get_0 1 rfl rfl ?_
  refine z_if_lt d_Log_get_1 (tgt := 22) (by decide) (fun cy1 => ?_) (fun cy1 => ?_)
  · replace hF := zh_t cy1 hF
    exact z_Log_get_22 hr  hF
  · replace hF := zh_f cy1 hF
    refine z_iload_n d_Log_get_4 1 rfl rfl ?_
    refine z_aload_n d_Log_get_5 0 rfl rfl ?_
    refine z_get d_Log_get_6 f_Log_19 (hr 34 _ rfl) rfl ?_
    refine z_icmp_ge d_Log_get_9 (tgt := 22) (by decide) (fun cy2 => ?_) (fun cy2 => ?_)
    · replace hF := zh_t cy2 hF
      exact z_Log_get_22 hr  hF
    · replace hF := zh_f cy2 hF
      refine z_iload_n d_Log_get_12 2 rfl rfl ?_
      refine z_if_lt d_Log_get_13 (tgt := 22) (by decide) (fun cy3 => ?_) (fun cy3 => ?_)
      · replace hF := zh_t cy3 hF
        exact z_Log_get_22 hr  hF
      · replace hF := zh_f cy3 hF
        refine z_iload_n d_Log_get_16 2 rfl rfl ?_
        refine z_bipush d_Log_get_17 (v := 10) (by decide) ?_
        refine z_icmp_lt d_Log_get_19 (tgt := 25) (by decide) (fun cy4 => ?_) (fun cy4 => ?_)
        · replace hF := zh_t cy4 hF
          refine z_aload_n d_Log_get_25 0 rfl rfl ?_
          refine z_getr d_Log_get_26 (q := 35) f_Log_11 (hr 34 _ rfl) rfl ?_
          refine z_aload_n d_Log_get_29 0 rfl rfl ?_
          refine z_get d_Log_get_30 f_Log_15 (hr 34 _ rfl) rfl ?_
          refine z_bipush d_Log_get_33 (v := 100) (by decide) ?_
          refine z_iadd d_Log_get_35 ?_
          refine z_iload_n d_Log_get_36 1 rfl rfl ?_
          refine z_isub d_Log_get_37 ?_
          refine z_bipush d_Log_get_38 (v := 100) (by decide) ?_
          refine z_irem d_Log_get_40 (by decide) ?_
          refine z_bipush d_Log_get_41 (v := 10) (by decide) ?_
          refine z_imul d_Log_get_43 ?_
          refine z_iload_n d_Log_get_44 2 rfl rfl ?_
          refine z_iadd d_Log_get_45 ?_
          obtain ⟨hy5, hF⟩ := zh_if hF
          refine z_iald d_Log_get_46 (hr 35 _ rfl) (zin_vp hy5) ?_
          cases hF
          exact z_ireturn d_Log_get_47 rfl rfl ⟨rfl, rfl, rfl⟩
        · replace hF := zh_f cy4 hF
          exact z_Log_get_22 hr  hF
def E_Log_get  (x1 : Int32) (x2 : Int32) (μ : zI) (ν : zJ) : Option (Int32 × zI × zJ) := e_Log_get_0 x1 x2 μ ν
theorem c_Log_get {l : Launch} {D : va_G} {dA : Nat → ClassId} {ad : Nat → Nat} {sh : List zSE} {μ : zI} {ν : zJ} {x1 : Int32} {x2 : Int32} (hr : zRo sh) {out : (Int32 × zI × zJ)} (hE : E_Log_get x1 x2 μ ν = some out) : zC l D dA ad sh m_Log_get 0 0 0 [.ref (ad 34), .int x1, .int x2] μ ν (zOi out) :=
  zC.of (by decide) (Nat.le_of_ble_eq_true rfl) (z_Log_get_0 hr hE)
def e_Log_wasNear_0   (x1 : Int32) (x2 : Int32) (μ : zI) (ν : zJ) : Option (Int32 × zI × zJ) := Option.bind (E_Log_get x1 1 μ ν) fun ty1 => Option.bind (E_Log_get x1 2 ty1.2.1 ty1.2.2) fun ty2 => Option.bind (E_S_isNear ty1.1 x2 ty2.1 ty2.2.1 ty2.2.2) fun ty3 => (if zb ty3.1 = true then some (ty3.1, ty3.2.1, ty3.2.2) else none)
theorem z_Log_wasNear_0 {l : Launch} {D : va_G} {dA : Nat → ClassId} {ad : Nat → Nat} {sh : List zSE}  (hr : zRo sh)  {x1 : Int32} {x2 : Int32} {μ : zI} {ν : zJ} {out : (Int32 × zI × zJ)} (hF : e_Log_wasNear_0   x1 x2 μ ν = some out) : Z l D dA ad sh m_Log_wasNear (zR 1 0 0) (zS ad) (zOi out) 0 0 0 0 [] 0 [(0, .ref (ad 34)), (1, .int x1), (2, .int x2)] [] μ ν := by
  unfold e_Log_wasNear_0 at hF
  refine z_aload_n d_Log_wasNear_0 0 rfl rfl ?_
  refine z_iload_n d_Log_wasNear_1 1 rfl rfl ?_
  refine z_iconst d_Log_wasNear_2 (v := 1) (by decide) ?_
  obtain ⟨ty1, hty1, hF⟩ := zh_bind hF
  refine z_callV d_Log_wasNear_3 (c_Log_get hr hty1) mv_Log_get l_Log_89 (fun _ _ h => h) (hr 34 _ rfl) rfl rfl ⟨Nat.le_of_ble_eq_true rfl, Nat.le_of_ble_eq_true rfl⟩ ⟨Nat.le_of_ble_eq_true rfl, Nat.le_of_ble_eq_true rfl⟩ rfl (Nat.le_of_ble_eq_true rfl) (fun r μ' ν' hq => ?_)
  obtain ⟨rfl, rfl, rfl⟩ := hq
  show Z _ _ _ _ _ _ _ _ _ _ _ 0 0 _ _ _ [.int ty1.1] _ _
  refine z_iload_n d_Log_wasNear_6 2 rfl rfl ?_
  refine z_aload_n d_Log_wasNear_7 0 rfl rfl ?_
  refine z_iload_n d_Log_wasNear_8 1 rfl rfl ?_
  refine z_iconst d_Log_wasNear_9 (v := 2) (by decide) ?_
  obtain ⟨ty2, hty2, hF⟩ := zh_bind hF
  refine z_callV d_Log_wasNear_10 (c_Log_get hr hty2) mv_Log_get l_Log_89 (fun _ _ h => h) (hr 34 _ rfl) rfl rfl ⟨Nat.le_of_ble_eq_true rfl, Nat.le_of_ble_eq_true rfl⟩ ⟨Nat.le_of_ble_eq_true rfl, Nat.le_of_ble_eq_true rfl⟩ rfl (Nat.le_of_ble_eq_true rfl) (fun r μ' ν' hq => ?_)
  obtain ⟨rfl, rfl, rfl⟩ := hq
  show Z _ _ _ _ _ _ _ _ _ _ _ 0 0 _ _ _ [.int ty2.1, .int x2, .int ty1.1] _ _
  obtain ⟨ty3, hty3, hF⟩ := zh_bind hF
  refine z_callSN d_Log_wasNear_13 (c_S_isNear  hty3) ms_S_isNear (host := "SunPoint") (by decide) (fun _ _ h => h) rfl ⟨Nat.le_of_ble_eq_true rfl, Nat.le_of_ble_eq_true rfl⟩ ⟨Nat.le_of_ble_eq_true rfl, Nat.le_of_ble_eq_true rfl⟩ rfl (Nat.le_of_ble_eq_true rfl) (fun r μ' ν' hq => ?_)
  obtain ⟨rfl, rfl, rfl⟩ := hq
  show Z _ _ _ _ _ _ _ _ _ _ _ 0 0 _ _ _ [.int ty3.1] _ _
  obtain ⟨hy4, hF⟩ := zh_if hF
  cases hF
  exact z_ireturn d_Log_wasNear_16 rfl (zb_n hy4) ⟨rfl, rfl, rfl⟩
def E_Log_wasNear  (x1 : Int32) (x2 : Int32) (μ : zI) (ν : zJ) : Option (Int32 × zI × zJ) := e_Log_wasNear_0 x1 x2 μ ν
theorem c_Log_wasNear {l : Launch} {D : va_G} {dA : Nat → ClassId} {ad : Nat → Nat} {sh : List zSE} {μ : zI} {ν : zJ} {x1 : Int32} {x2 : Int32} (hr : zRo sh) {out : (Int32 × zI × zJ)} (hE : E_Log_wasNear x1 x2 μ ν = some out) : zC l D dA ad sh m_Log_wasNear 1 0 0 [.ref (ad 34), .int x1, .int x2] μ ν (zOi out) :=
  zC.of (by decide) (Nat.le_of_ble_eq_true rfl) (z_Log_wasNear_0 hr hE)
def e_Schedule_drop_12 (b : Nat)  (x1 : Int32) (μ : zI) (ν : zJ) : Option (zI × zJ) := some (μ, ν)
theorem z_Schedule_drop_12 {l : Launch} {D : va_G} {dA : Nat → ClassId} {ad : Nat → Nat} {sh : List zSE}  {b : Nat} (hs : zSt sh b)  {x1 : Int32} {μ : zI} {ν : zJ} {out : (zI × zJ)} (hF : e_Schedule_drop_12 b  x1 μ ν = some out) : Z l D dA ad sh m_Schedule_drop (zR 1 0 0) (zS ad) (zOv out) 0 0 0 0 [] 12 [(0, .ref (ad (b + 9))), (1, .int x1)] [] μ ν := by
  unfold e_Schedule_drop_12 at hF
  cases hF
  exact z_return d_Schedule_drop_12 rfl ⟨rfl, rfl, rfl⟩
def e_Schedule_drop_0 (b : Nat)  (x1 : Int32) (μ : zI) (ν : zJ) : Option (zI × zJ) := (if x1 < 0 then e_Schedule_drop_12 b x1 μ ν else Option.bind (E_Schedule_left b μ ν) fun ty2 => (if x1 < ty2.1 then zlet (α := Int32) (((ty2.2.1 (b + 9) 1) + x1) + 1) fun y4 => (if zcp (y4 * 4) (((ty2.2.1 (b + 9) 0) - y4) * 4) 96 = true then (if zcp ((y4 - 1) * 4) (((ty2.2.1 (b + 9) 0) - y4) * 4) 96 = true then zlet (zr ty2.2.1 (b + 10) (va_cpy (ty2.2.1 (b + 10)) (ty2.2.1 (b + 10)) (Int32.toNatClampNeg (y4 * 4)) (Int32.toNatClampNeg ((y4 - 1) * 4)) (Int32.toNatClampNeg (((ty2.2.1 (b + 9) 0) - y4) * 4)))) fun μy7 => zlet (zu μy7 (b + 9) 0 ((μy7 (b + 9) 0) - 1)) fun μy8 => some (μy8, ty2.2.2) else none) else none) else e_Schedule_drop_12 b x1 ty2.2.1 ty2.2.2))
theorem z_Schedule_drop_0 {l : Launch} {D : va_G} {dA : Nat → ClassId} {ad : Nat → Nat} {sh : List zSE}  {b : Nat} (hs : zSt sh b)  {x1 : Int32} {μ : zI} {ν : zJ} {out : (zI × zJ)} (hF : e_Schedule_drop_0 b  x1 μ ν = some out) : Z l D dA ad sh m_Schedule_drop (zR 1 0 0) (zS ad) (zOv out) 0 0 0 0 [] 0 [(0, .ref (ad (b + 9))), (1, .int x1)] [] μ ν := by
  unfold e_Schedule_drop_0 at hF
  refine z_iload_n d_Schedule_drop_0 1 rfl rfl ?_
  refine z_if_lt d_Schedule_drop_1 (tgt := 12) (by decide) (fun cy1 => ?_) (fun cy1 => ?_)
  · replace hF := zh_t cy1 hF
    exact z_Schedule_drop_12 hs  hF
  · replace hF := zh_f cy1 hF
    refine z_iload_n d_Schedule_drop_4 1 rfl rfl ?_
    refine z_aload_n d_Schedule_drop_5 0 rfl rfl ?_
    obtain ⟨ty2, hty2, hF⟩ := zh_bind hF
    refine z_callV d_Schedule_drop_6 (c_Schedule_left hs hty2) mv_Schedule_left l_Schedule_28 (fun _ _ h => h) (hs 9 _ rfl) rfl rfl ⟨Nat.le_of_ble_eq_true rfl, Nat.le_of_ble_eq_true rfl⟩ ⟨Nat.le_of_ble_eq_true rfl, Nat.le_of_ble_eq_true rfl⟩ rfl (Nat.le_of_ble_eq_true rfl) (fun r μ' ν' hq => ?_)
    obtain ⟨rfl, rfl, rfl⟩ := hq
    show Z _ _ _ _ _ _ _ _ _ _ _ 0 0 _ _ _ [.int ty2.1, .int x1] _ _
    refine z_icmp_lt d_Schedule_drop_9 (tgt := 13) (by decide) (fun cy3 => ?_) (fun cy3 => ?_)
    · replace hF := zh_t cy3 hF
      refine z_aload_n d_Schedule_drop_13 0 rfl rfl ?_
      refine z_get d_Schedule_drop_14 f_Schedule_19 (hs 9 _ rfl) rfl ?_
      refine z_iload_n d_Schedule_drop_17 1 rfl rfl ?_
      refine z_iadd d_Schedule_drop_18 ?_
      refine z_iconst d_Schedule_drop_19 (v := 1) (by decide) ?_
      refine z_iadd d_Schedule_drop_20 ?_
      obtain ⟨y4, hy4, hF⟩ := zh_let hF
      refine z_eqi hy4 ?_
      refine z_istore_n d_Schedule_drop_21 rfl (by decide) (L2 := [(2, .int y4), (0, .ref (ad (b + 9))), (1, .int x1)]) rfl ?_
      refine z_aload_n d_Schedule_drop_22 1 rfl rfl ?_
      refine z_getr d_Schedule_drop_23 (q := (b + 10)) f_Schedule_11 (hs 9 _ rfl) rfl ?_
      refine z_iload_n d_Schedule_drop_26 0 rfl rfl ?_
      refine z_iconst d_Schedule_drop_27 (v := 4) (by decide) ?_
      refine z_imul d_Schedule_drop_28 ?_
      refine z_aload_n d_Schedule_drop_29 1 rfl rfl ?_
      refine z_getr d_Schedule_drop_30 (q := (b + 10)) f_Schedule_11 (hs 9 _ rfl) rfl ?_
      refine z_iload_n d_Schedule_drop_33 0 rfl rfl ?_
      refine z_iconst d_Schedule_drop_34 (v := 1) (by decide) ?_
      refine z_isub d_Schedule_drop_35 ?_
      refine z_iconst d_Schedule_drop_36 (v := 4) (by decide) ?_
      refine z_imul d_Schedule_drop_37 ?_
      refine z_aload_n d_Schedule_drop_38 1 rfl rfl ?_
      refine z_get d_Schedule_drop_39 f_Schedule_15 (hs 9 _ rfl) rfl ?_
      refine z_iload_n d_Schedule_drop_42 0 rfl rfl ?_
      refine z_isub d_Schedule_drop_43 ?_
      refine z_iconst d_Schedule_drop_44 (v := 4) (by decide) ?_
      refine z_imul d_Schedule_drop_45 ?_
      obtain ⟨hy5, hF⟩ := zh_if hF
      obtain ⟨hy6, hF⟩ := zh_if hF
      refine z_copy d_Schedule_drop_46 l_Schedule_22 cp_ok (hs 10 _ rfl) (hs 10 _ rfl) (zcp_a hy5) (zcp_a hy6) (zcp_b hy5) (zcp_c hy5) (zcp_c hy6) ⟨Nat.le_of_ble_eq_true rfl, Nat.le_of_ble_eq_true rfl⟩ ?_
      obtain ⟨μy7, hy7, hF⟩ := zh_let hF
      refine z_eqm hy7 ?_
      refine z_aload_n d_Schedule_drop_49 1 rfl rfl ?_
      refine z_dup d_Schedule_drop_50 rfl ?_
      refine z_get d_Schedule_drop_51 f_Schedule_15 (hs 9 _ rfl) rfl ?_
      refine z_iconst d_Schedule_drop_54 (v := 1) (by decide) ?_
      refine z_isub d_Schedule_drop_55 ?_
      refine z_put d_Schedule_drop_56 f_Schedule_15 (hs 9 _ rfl) rfl (CL_fin _ _ (fun q hq => by cases hq; rfl)) rfl rfl ?_
      obtain ⟨μy8, hy8, hF⟩ := zh_let hF
      refine z_eqm hy8 ?_
      cases hF
      exact z_return d_Schedule_drop_59 rfl ⟨rfl, rfl, rfl⟩
    · replace hF := zh_f cy3 hF
      exact z_Schedule_drop_12 hs  hF
def E_Schedule_drop (b : Nat) (x1 : Int32) (μ : zI) (ν : zJ) : Option (zI × zJ) := e_Schedule_drop_0 b x1 μ ν
theorem c_Schedule_drop {l : Launch} {D : va_G} {dA : Nat → ClassId} {ad : Nat → Nat} {sh : List zSE} {μ : zI} {ν : zJ} {b : Nat} {x1 : Int32} (hs : zSt sh b) {out : (zI × zJ)} (hE : E_Schedule_drop b x1 μ ν = some out) : zC l D dA ad sh m_Schedule_drop 1 0 0 [.ref (ad (b + 9)), .int x1] μ ν (zOv out) :=
  zC.of (by decide) (Nat.le_of_ble_eq_true rfl) (z_Schedule_drop_0 hs hE)
def f_Station_advanceBy_2 (b : Nat)  : Nat → Int32 → Int32 → zI → zJ → Option (zI × zJ)
  | 0, _, _, _, _ => none
  | n + 1, x1, x2, μ, ν => (if x1 ≤ x2 then some (μ, ν) else Option.bind (E_Station_advance b μ ν) fun ty2 => (f_Station_advanceBy_2 b n) x1 (x2 + 1) ty2.1 ty2.2)
theorem z_Station_advanceBy_2 {l : Launch} {D : va_G} {dA : Nat → ClassId} {ad : Nat → Nat} {sh : List zSE}  {b : Nat} (hs : zSt sh b)  {out : (zI × zJ)} : ∀ (n : Nat) (x1 : Int32) (x2 : Int32) (μ : zI) (ν : zJ), f_Station_advanceBy_2 b  n x1 x2 μ ν = some out → Z l D dA ad sh m_Station_advanceBy (zR 5 0 0) (zS ad) (zOv out) 0 0 0 0 [] 2 [(0, .ref (ad b)), (1, .int x1), (2, .int x2)] [] μ ν := by
  intro n
  induction n with
  | zero => intro x1 x2 μ ν hF; cases hF
  | succ n ih =>
    intro x1 x2 μ ν hF
    dsimp only [f_Station_advanceBy_2] at hF
    refine z_iload_n d_Station_advanceBy_2 2 rfl rfl ?_
    refine z_iload_n d_Station_advanceBy_3 1 rfl rfl ?_
    refine z_icmp_ge d_Station_advanceBy_4 (tgt := 17) (by decide) (fun cy1 => ?_) (fun cy1 => ?_)
    · replace hF := zh_t cy1 hF
      cases hF
      exact z_return d_Station_advanceBy_17 rfl ⟨rfl, rfl, rfl⟩
    · replace hF := zh_f cy1 hF
      refine z_aload_n d_Station_advanceBy_7 0 rfl rfl ?_
      obtain ⟨ty2, hty2, hF⟩ := zh_bind hF
      refine z_callV d_Station_advanceBy_8 (c_Station_advance hs hty2) mv_Station_advance l_Station_122 (fun _ _ h => h) (hs 0 _ rfl) rfl rfl ⟨Nat.le_of_ble_eq_true rfl, Nat.le_of_ble_eq_true rfl⟩ ⟨Nat.le_of_ble_eq_true rfl, Nat.le_of_ble_eq_true rfl⟩ rfl (Nat.le_of_ble_eq_true rfl) (fun r μ' ν' hq => ?_)
      obtain ⟨rfl, rfl, rfl⟩ := hq
      show Z _ _ _ _ _ _ _ _ _ _ _ 0 0 _ _ _ [] _ _
      refine z_iinc d_Station_advanceBy_11 (k := 2) (v := (x2 + 1)) rfl rfl (by decide) (L2 := [(2, .int (x2 + 1)), (0, .ref (ad b)), (1, .int x1)]) rfl ?_
      refine z_goto d_Station_advanceBy_14 (tgt := 2) (by decide) ?_
      refine z_sub [1, 2, 0] (L' := [(0, .ref (ad b)), (1, .int x1), (2, .int (x2 + 1))]) rfl ?_
      exact ih _ _ _ _ hF
def e_Station_advanceBy_0 (b : Nat)  (x1 : Int32) (μ : zI) (ν : zJ) : Option (zI × zJ) := f_Station_advanceBy_2 b zFuel x1 0 μ ν
theorem z_Station_advanceBy_0 {l : Launch} {D : va_G} {dA : Nat → ClassId} {ad : Nat → Nat} {sh : List zSE}  {b : Nat} (hs : zSt sh b)  {x1 : Int32} {μ : zI} {ν : zJ} {out : (zI × zJ)} (hF : e_Station_advanceBy_0 b  x1 μ ν = some out) : Z l D dA ad sh m_Station_advanceBy (zR 5 0 0) (zS ad) (zOv out) 0 0 0 0 [] 0 [(0, .ref (ad b)), (1, .int x1)] [] μ ν := by
  unfold e_Station_advanceBy_0 at hF
  refine z_iconst d_Station_advanceBy_0 (v := 0) (by decide) ?_
  refine z_istore_n d_Station_advanceBy_1 rfl (by decide) (L2 := [(2, .int 0), (0, .ref (ad b)), (1, .int x1)]) rfl ?_
  refine z_sub [1, 2, 0] (L' := [(0, .ref (ad b)), (1, .int x1), (2, .int 0)]) rfl ?_
  exact z_Station_advanceBy_2 hs  zFuel _ _ _ _ hF
def E_Station_advanceBy (b : Nat) (x1 : Int32) (μ : zI) (ν : zJ) : Option (zI × zJ) := e_Station_advanceBy_0 b x1 μ ν
theorem c_Station_advanceBy {l : Launch} {D : va_G} {dA : Nat → ClassId} {ad : Nat → Nat} {sh : List zSE} {μ : zI} {ν : zJ} {b : Nat} {x1 : Int32} (hs : zSt sh b) {out : (zI × zJ)} (hE : E_Station_advanceBy b x1 μ ν = some out) : zC l D dA ad sh m_Station_advanceBy 5 0 0 [.ref (ad b), .int x1] μ ν (zOv out) :=
  zC.of (by decide) (Nat.le_of_ble_eq_true rfl) (z_Station_advanceBy_0 hs hE)
def e_Station_holds_52 (b : Nat)  (x1 : Int32) (s0 : Int32) (μ : zI) (ν : zJ) : Option (Int32 × zI × zJ) := (if zb s0 = true then some (s0, μ, ν) else none)
theorem z_Station_holds_52 {l : Launch} {D : va_G} {dA : Nat → ClassId} {ad : Nat → Nat} {sh : List zSE}  {b : Nat} (hs : zSt sh b)  {x1 : Int32} {s0 : Int32} {μ : zI} {ν : zJ} {out : (Int32 × zI × zJ)} (hF : e_Station_holds_52 b  x1 s0 μ ν = some out) : Z l D dA ad sh m_Station_holds (zR 1 0 0) (zS ad) (zOi out) 0 0 0 0 [] 52 [(0, .ref (ad b)), (1, .int x1)] [.int s0] μ ν := by
  unfold e_Station_holds_52 at hF
  obtain ⟨hy1, hF⟩ := zh_if hF
  cases hF
  exact z_ireturn d_Station_holds_52 rfl (zb_n hy1) ⟨rfl, rfl, rfl⟩
def e_Station_holds_76 (b : Nat)  (x1 : Int32) (s0 : Int32) (μ : zI) (ν : zJ) : Option (Int32 × zI × zJ) := (if zb s0 = true then some (s0, μ, ν) else none)
theorem z_Station_holds_76 {l : Launch} {D : va_G} {dA : Nat → ClassId} {ad : Nat → Nat} {sh : List zSE}  {b : Nat} (hs : zSt sh b)  {x1 : Int32} {s0 : Int32} {μ : zI} {ν : zJ} {out : (Int32 × zI × zJ)} (hF : e_Station_holds_76 b  x1 s0 μ ν = some out) : Z l D dA ad sh m_Station_holds (zR 1 0 0) (zS ad) (zOi out) 0 0 0 0 [] 76 [(0, .ref (ad b)), (1, .int x1)] [.int s0] μ ν := by
  unfold e_Station_holds_76 at hF
  obtain ⟨hy1, hF⟩ := zh_if hF
  cases hF
  exact z_ireturn d_Station_holds_76 rfl (zb_n hy1) ⟨rfl, rfl, rfl⟩
def e_Station_holds_0 (b : Nat)  (x1 : Int32) (μ : zI) (ν : zJ) : Option (Int32 × zI × zJ) := (if x1 = 0 then (if zb (μ (b + 13) 7) = true then some ((μ (b + 13) 7), μ, ν) else none) else (if x1 = 1 then (if (μ (b + 12) 1) = 2 then e_Station_holds_52 b x1 1 μ ν else e_Station_holds_52 b x1 0 μ ν) else Option.bind (E_Told_get b 0 μ ν) fun ty5 => (if (μ (b + 12) 0) = ty5.1 then e_Station_holds_76 b x1 1 ty5.2.1 ty5.2.2 else e_Station_holds_76 b x1 0 ty5.2.1 ty5.2.2)))
theorem z_Station_holds_0 {l : Launch} {D : va_G} {dA : Nat → ClassId} {ad : Nat → Nat} {sh : List zSE}  {b : Nat} (hs : zSt sh b)  {x1 : Int32} {μ : zI} {ν : zJ} {out : (Int32 × zI × zJ)} (hF : e_Station_holds_0 b  x1 μ ν = some out) : Z l D dA ad sh m_Station_holds (zR 1 0 0) (zS ad) (zOi out) 0 0 0 0 [] 0 [(0, .ref (ad b)), (1, .int x1)] [] μ ν := by
  unfold e_Station_holds_0 at hF
  refine z_iload_n d_Station_holds_0 1 rfl rfl ?_
  by_cases cy1 : x1 = 0
  · replace hF := zh_t cy1 hF
    refine z_lookup d_Station_holds_1 (tgt := 28) (off := 27) (by decide) (by rw [cy1]; decide) (by decide) ?_
    refine z_aload_n d_Station_holds_28 0 rfl rfl ?_
    refine z_getr d_Station_holds_29 (q := (b + 13)) f_Station_47 (hs 0 _ rfl) rfl ?_
    refine z_get d_Station_holds_32 f_Station_184 (hs 13 _ rfl) rfl ?_
    obtain ⟨hy3, hF⟩ := zh_if hF
    cases hF
    exact z_ireturn d_Station_holds_35 rfl (zb_n hy3) ⟨rfl, rfl, rfl⟩
  · replace hF := zh_f cy1 hF
    by_cases cy2 : x1 = 1
    · replace hF := zh_t cy2 hF
      refine z_lookup d_Station_holds_1 (tgt := 36) (off := 35) (by decide) (by rw [cy2]; decide) (by decide) ?_
      refine z_aload_n d_Station_holds_36 0 rfl rfl ?_
      refine z_getr d_Station_holds_37 (q := (b + 12)) f_Station_40 (hs 0 _ rfl) rfl ?_
      refine z_get d_Station_holds_40 f_Station_199 (hs 12 _ rfl) rfl ?_
      refine z_iconst d_Station_holds_43 (v := 2) (by decide) ?_
      refine z_icmp_ne d_Station_holds_44 (tgt := 51) (by decide) (fun cy4 => ?_) (fun cy4 => ?_)
      · replace hF := zh_f cy4 hF
        refine z_iconst d_Station_holds_51 (v := 0) (by decide) ?_
        exact z_Station_holds_52 hs  hF
      · replace hF := zh_t cy4 hF
        refine z_iconst d_Station_holds_47 (v := 1) (by decide) ?_
        refine z_goto d_Station_holds_48 (tgt := 52) (by decide) ?_
        exact z_Station_holds_52 hs  hF
    · replace hF := zh_f cy2 hF
      refine z_lookup d_Station_holds_1 (tgt := 53) (off := 52) (by decide) (by show Op.lookupswitch.offset [(0, 27), (1, 35)] 52 _ = _; rw [lv_osw (k := 0) (a := 0) cy1 (by decide), lv_osw (k := 1) (a := 1) cy2 (by decide)]; rfl) (by decide) ?_
      refine z_aload_n d_Station_holds_53 0 rfl rfl ?_
      refine z_getr d_Station_holds_54 (q := (b + 12)) f_Station_40 (hs 0 _ rfl) rfl ?_
      refine z_get d_Station_holds_57 f_Station_202 (hs 12 _ rfl) rfl ?_
      refine z_aload_n d_Station_holds_60 0 rfl rfl ?_
      refine z_getr d_Station_holds_61 (q := (b + 1)) f_Station_10 (hs 0 _ rfl) rfl ?_
      refine z_iconst d_Station_holds_64 (v := 0) (by decide) ?_
      obtain ⟨ty5, hty5, hF⟩ := zh_bind hF
      refine z_callV d_Station_holds_65 (c_Told_get hs hty5) mv_Told_get l_Station_80 (fun _ _ h => h) (hs 1 _ rfl) rfl rfl ⟨Nat.le_of_ble_eq_true rfl, Nat.le_of_ble_eq_true rfl⟩ ⟨Nat.le_of_ble_eq_true rfl, Nat.le_of_ble_eq_true rfl⟩ rfl (Nat.le_of_ble_eq_true rfl) (fun r μ' ν' hq => ?_)
      obtain ⟨rfl, rfl, rfl⟩ := hq
      show Z _ _ _ _ _ _ _ _ _ _ _ 0 0 _ _ _ [.int ty5.1, .int (μ (b + 12) 0)] _ _
      refine z_icmp_ne d_Station_holds_68 (tgt := 75) (by decide) (fun cy6 => ?_) (fun cy6 => ?_)
      · replace hF := zh_f cy6 hF
        refine z_iconst d_Station_holds_75 (v := 0) (by decide) ?_
        exact z_Station_holds_76 hs  hF
      · replace hF := zh_t cy6 hF
        refine z_iconst d_Station_holds_71 (v := 1) (by decide) ?_
        refine z_goto d_Station_holds_72 (tgt := 76) (by decide) ?_
        exact z_Station_holds_76 hs  hF
def E_Station_holds (b : Nat) (x1 : Int32) (μ : zI) (ν : zJ) : Option (Int32 × zI × zJ) := e_Station_holds_0 b x1 μ ν
theorem c_Station_holds {l : Launch} {D : va_G} {dA : Nat → ClassId} {ad : Nat → Nat} {sh : List zSE} {μ : zI} {ν : zJ} {b : Nat} {x1 : Int32} (hs : zSt sh b) {out : (Int32 × zI × zJ)} (hE : E_Station_holds b x1 μ ν = some out) : zC l D dA ad sh m_Station_holds 1 0 0 [.ref (ad b), .int x1] μ ν (zOi out) :=
  zC.of (by decide) (Nat.le_of_ble_eq_true rfl) (z_Station_holds_0 hs hE)
def e_Inverter_firstAlone_48 (b : Nat) (r15 : Int32 → Int32 → Int32 → Int32 → Int32 → Int32 → zI → zJ → Option (Int32 × zI × zJ)) (x1 : Int32) (x2 : Int32) (x3 : Int32) (x5 : Int32) (x6 : Int32) (x7 : Int32) (s0 : Int32) (μ : zI) (ν : zJ) : Option (Int32 × zI × zJ) := Option.bind (E_Told_get b 8 μ ν) fun ty1 => (if s0 < ty1.1 then r15 x1 x2 x3 x5 s0 (x7 + 1) ty1.2.1 ty1.2.2 else some (x7, ty1.2.1, ty1.2.2))
theorem z_Inverter_firstAlone_48 {l : Launch} {D : va_G} {dA : Nat → ClassId} {ad : Nat → Nat} {sh : List zSE}  {b : Nat} (hs : zSt sh b) {r15 : Int32 → Int32 → Int32 → Int32 → Int32 → Int32 → zI → zJ → Option (Int32 × zI × zJ)} {x1 : Int32} {x2 : Int32} {x3 : Int32} {x5 : Int32} {x6 : Int32} {x7 : Int32} {s0 : Int32} {μ : zI} {ν : zJ} {out : (Int32 × zI × zJ)} (hr15 : ∀ (x1 : Int32) (x2 : Int32) (x3 : Int32) (x5 : Int32) (x6 : Int32) (x7 : Int32) (μ : zI) (ν : zJ), r15 x1 x2 x3 x5 x6 x7 μ ν = some out → Z l D dA ad sh m_Inverter_firstAlone (zR 2 0 0) (zS ad) (zOi out) 0 0 0 0 [] 15 [(0, .ref (ad (b + 13))), (1, .int x1), (2, .int x2), (3, .int x3), (4, .ref (ad (b + 1))), (5, .int x5), (6, .int x6), (7, .int x7)] [] μ ν) (hF : e_Inverter_firstAlone_48 b r15 x1 x2 x3 x5 x6 x7 s0 μ ν = some out) : Z l D dA ad sh m_Inverter_firstAlone (zR 2 0 0) (zS ad) (zOi out) 0 0 0 0 [] 48 [(0, .ref (ad (b + 13))), (1, .int x1), (2, .int x2), (3, .int x3), (4, .ref (ad (b + 1))), (5, .int x5), (6, .int x6), (7, .int x7)] [.int s0] μ ν := by
  unfold e_Inverter_firstAlone_48 at hF
  refine z_istore d_Inverter_firstAlone_48 (by decide) (L2 := [(6, .int s0), (0, .ref (ad (b + 13))), (1, .int x1), (2, .int x2), (3, .int x3), (4, .ref (ad (b + 1))), (5, .int x5), (7, .int x7)]) rfl ?_
  refine z_iload d_Inverter_firstAlone_50 0 rfl ?_
  refine z_aload d_Inverter_firstAlone_52 5 rfl ?_
  refine z_bipush d_Inverter_firstAlone_54 (v := 8) (by decide) ?_
  obtain ⟨ty1, hty1, hF⟩ := zh_bind hF
  refine z_callV d_Inverter_firstAlone_56 (c_Told_get hs hty1) mv_Told_get l_Inverter_44 (fun _ _ h => h) (hs 1 _ rfl) rfl rfl ⟨Nat.le_of_ble_eq_true rfl, Nat.le_of_ble_eq_true rfl⟩ ⟨Nat.le_of_ble_eq_true rfl, Nat.le_of_ble_eq_true rfl⟩ rfl (Nat.le_of_ble_eq_true rfl) (fun r μ' ν' hq => ?_)
  obtain ⟨rfl, rfl, rfl⟩ := hq
  show Z _ _ _ _ _ _ _ _ _ _ _ 0 0 _ _ _ [.int ty1.1, .int s0] _ _
  refine z_icmp_lt d_Inverter_firstAlone_59 (tgt := 65) (by decide) (fun cy2 => ?_) (fun cy2 => ?_)
  · replace hF := zh_t cy2 hF
    refine z_iinc d_Inverter_firstAlone_65 (k := 7) (v := (x7 + 1)) rfl rfl (by decide) (L2 := [(7, .int (x7 + 1)), (6, .int s0), (0, .ref (ad (b + 13))), (1, .int x1), (2, .int x2), (3, .int x3), (4, .ref (ad (b + 1))), (5, .int x5)]) rfl ?_
    refine z_goto d_Inverter_firstAlone_68 (tgt := 15) (by decide) ?_
    refine z_sub [2, 3, 4, 5, 6, 7, 1, 0] (L' := [(0, .ref (ad (b + 13))), (1, .int x1), (2, .int x2), (3, .int x3), (4, .ref (ad (b + 1))), (5, .int x5), (6, .int s0), (7, .int (x7 + 1))]) rfl ?_
    exact hr15 _ _ _ _ _ _ _ _ hF
  · replace hF := zh_f cy2 hF
    refine z_iload d_Inverter_firstAlone_62 7 rfl ?_
    cases hF
    exact z_ireturn d_Inverter_firstAlone_64 rfl rfl ⟨rfl, rfl, rfl⟩
def f_Inverter_firstAlone_15 (b : Nat)  : Nat → Int32 → Int32 → Int32 → Int32 → Int32 → Int32 → zI → zJ → Option (Int32 × zI × zJ)
  | 0, _, _, _, _, _, _, _, _ => none
  | n + 1, x1, x2, x3, x5, x6, x7, μ, ν => (if x3 < x7 then some ((-2), μ, ν) else Option.bind (E_Inverter_pushed x5 x1 x2 μ ν) fun ty2 => zlet (α := Int32) ty2.1 fun y3 => Option.bind (E_Inverter_isFar b y3 ty2.2.1 ty2.2.2) fun ty4 => (if ty4.1 = 0 then e_Inverter_firstAlone_48 b (f_Inverter_firstAlone_15 b n) x1 x2 x3 y3 x6 x7 0 ty4.2.1 ty4.2.2 else e_Inverter_firstAlone_48 b (f_Inverter_firstAlone_15 b n) x1 x2 x3 y3 x6 x7 (x6 + 1) ty4.2.1 ty4.2.2))
theorem z_Inverter_firstAlone_15 {l : Launch} {D : va_G} {dA : Nat → ClassId} {ad : Nat → Nat} {sh : List zSE}  {b : Nat} (hs : zSt sh b)  {out : (Int32 × zI × zJ)} : ∀ (n : Nat) (x1 : Int32) (x2 : Int32) (x3 : Int32) (x5 : Int32) (x6 : Int32) (x7 : Int32) (μ : zI) (ν : zJ), f_Inverter_firstAlone_15 b  n x1 x2 x3 x5 x6 x7 μ ν = some out → Z l D dA ad sh m_Inverter_firstAlone (zR 2 0 0) (zS ad) (zOi out) 0 0 0 0 [] 15 [(0, .ref (ad (b + 13))), (1, .int x1), (2, .int x2), (3, .int x3), (4, .ref (ad (b + 1))), (5, .int x5), (6, .int x6), (7, .int x7)] [] μ ν := by
  intro n
  induction n with
  | zero => intro x1 x2 x3 x5 x6 x7 μ ν hF; cases hF
  | succ n ih =>
    intro x1 x2 x3 x5 x6 x7 μ ν hF
    dsimp only [f_Inverter_firstAlone_15] at hF
    refine z_iload d_Inverter_firstAlone_15 7 rfl ?_
    refine z_iload_n d_Inverter_firstAlone_17 3 rfl rfl ?_
    refine z_icmp_gt d_Inverter_firstAlone_18 (tgt := 71) (by decide) (fun cy1 => ?_) (fun cy1 => ?_)
    · replace hF := zh_t cy1 hF
      refine z_bipush d_Inverter_firstAlone_71 (v := (-2)) (by decide) ?_
      cases hF
      exact z_ireturn d_Inverter_firstAlone_73 rfl rfl ⟨rfl, rfl, rfl⟩
    · replace hF := zh_f cy1 hF
      refine z_iload d_Inverter_firstAlone_21 5 rfl ?_
      refine z_iload_n d_Inverter_firstAlone_23 1 rfl rfl ?_
      refine z_iload_n d_Inverter_firstAlone_24 2 rfl rfl ?_
      obtain ⟨ty2, hty2, hF⟩ := zh_bind hF
      refine z_callS d_Inverter_firstAlone_25 (c_Inverter_pushed  hty2) ms_Inverter_pushed l_Inverter_57 (fun _ _ h => h) rfl ⟨Nat.le_of_ble_eq_true rfl, Nat.le_of_ble_eq_true rfl⟩ ⟨Nat.le_of_ble_eq_true rfl, Nat.le_of_ble_eq_true rfl⟩ rfl (Nat.le_of_ble_eq_true rfl) (fun r μ' ν' hq => ?_)
      obtain ⟨rfl, rfl, rfl⟩ := hq
      show Z _ _ _ _ _ _ _ _ _ _ _ 0 0 _ _ _ [.int ty2.1] _ _
      obtain ⟨y3, hy3, hF⟩ := zh_let hF
      refine z_eqi hy3 ?_
      refine z_istore d_Inverter_firstAlone_28 (by decide) (L2 := [(5, .int y3), (0, .ref (ad (b + 13))), (1, .int x1), (2, .int x2), (3, .int x3), (4, .ref (ad (b + 1))), (6, .int x6), (7, .int x7)]) rfl ?_
      refine z_iload d_Inverter_firstAlone_30 0 rfl ?_
      refine z_aload d_Inverter_firstAlone_32 5 rfl ?_
      obtain ⟨ty4, hty4, hF⟩ := zh_bind hF
      refine z_callS d_Inverter_firstAlone_34 (c_Inverter_isFar hs hty4) ms_Inverter_isFar l_Inverter_61 (fun _ _ h => h) rfl ⟨Nat.le_of_ble_eq_true rfl, Nat.le_of_ble_eq_true rfl⟩ ⟨Nat.le_of_ble_eq_true rfl, Nat.le_of_ble_eq_true rfl⟩ rfl (Nat.le_of_ble_eq_true rfl) (fun r μ' ν' hq => ?_)
      obtain ⟨rfl, rfl, rfl⟩ := hq
      show Z _ _ _ _ _ _ _ _ _ _ _ 0 0 _ _ _ [.int ty4.1] _ _
      refine z_if_eq d_Inverter_firstAlone_37 (tgt := 47) (by decide) (fun cy5 => ?_) (fun cy5 => ?_)
      · replace hF := zh_t cy5 hF
        refine z_iconst d_Inverter_firstAlone_47 (v := 0) (by decide) ?_
        refine z_sub [1, 2, 3, 4, 5, 0, 6, 7] (L' := [(0, .ref (ad (b + 13))), (1, .int x1), (2, .int x2), (3, .int x3), (4, .ref (ad (b + 1))), (5, .int y3), (6, .int x6), (7, .int x7)]) rfl ?_
        exact z_Inverter_firstAlone_48 hs (fun a0 a1 a2 a3 a4 a5 a6 a7 => ih a0 a1 a2 a3 a4 a5 a6 a7) hF
      · replace hF := zh_f cy5 hF
        refine z_iload d_Inverter_firstAlone_40 6 rfl ?_
        refine z_iconst d_Inverter_firstAlone_42 (v := 1) (by decide) ?_
        refine z_iadd d_Inverter_firstAlone_43 ?_
        refine z_goto d_Inverter_firstAlone_44 (tgt := 48) (by decide) ?_
        refine z_sub [1, 2, 3, 4, 5, 0, 6, 7] (L' := [(0, .ref (ad (b + 13))), (1, .int x1), (2, .int x2), (3, .int x3), (4, .ref (ad (b + 1))), (5, .int y3), (6, .int x6), (7, .int x7)]) rfl ?_
        exact z_Inverter_firstAlone_48 hs (fun a0 a1 a2 a3 a4 a5 a6 a7 => ih a0 a1 a2 a3 a4 a5 a6 a7) hF
def e_Inverter_firstAlone_0 (b : Nat)  (x1 : Int32) (x2 : Int32) (x3 : Int32) (μ : zI) (ν : zJ) : Option (Int32 × zI × zJ) := zlet (α := Int32) (μ (b + 13) 3) fun y1 => zlet (α := Int32) (μ (b + 13) 5) fun y2 => f_Inverter_firstAlone_15 b zFuel x1 x2 x3 y1 y2 1 μ ν
theorem z_Inverter_firstAlone_0 {l : Launch} {D : va_G} {dA : Nat → ClassId} {ad : Nat → Nat} {sh : List zSE}  {b : Nat} (hs : zSt sh b)  {x1 : Int32} {x2 : Int32} {x3 : Int32} {μ : zI} {ν : zJ} {out : (Int32 × zI × zJ)} (hF : e_Inverter_firstAlone_0 b  x1 x2 x3 μ ν = some out) : Z l D dA ad sh m_Inverter_firstAlone (zR 2 0 0) (zS ad) (zOi out) 0 0 0 0 [] 0 [(0, .ref (ad (b + 13))), (1, .int x1), (2, .int x2), (3, .int x3), (4, .ref (ad (b + 1)))] [] μ ν := by
  unfold e_Inverter_firstAlone_0 at hF
  refine z_aload_n d_Inverter_firstAlone_0 0 rfl rfl ?_
  refine z_get d_Inverter_firstAlone_1 f_Inverter_23 (hs 13 _ rfl) rfl ?_
  obtain ⟨y1, hy1, hF⟩ := zh_let hF
  refine z_eqi hy1 ?_
  refine z_istore d_Inverter_firstAlone_4 (by decide) (L2 := [(5, .int y1), (0, .ref (ad (b + 13))), (1, .int x1), (2, .int x2), (3, .int x3), (4, .ref (ad (b + 1)))]) rfl ?_
  refine z_aload_n d_Inverter_firstAlone_6 1 rfl rfl ?_
  refine z_get d_Inverter_firstAlone_7 f_Inverter_29 (hs 13 _ rfl) rfl ?_
  obtain ⟨y2, hy2, hF⟩ := zh_let hF
  refine z_eqi hy2 ?_
  refine z_istore d_Inverter_firstAlone_10 (by decide) (L2 := [(6, .int y2), (5, .int y1), (0, .ref (ad (b + 13))), (1, .int x1), (2, .int x2), (3, .int x3), (4, .ref (ad (b + 1)))]) rfl ?_
  refine z_iconst d_Inverter_firstAlone_12 (v := 1) (by decide) ?_
  refine z_istore d_Inverter_firstAlone_13 (by decide) (L2 := [(7, .int 1), (6, .int y2), (5, .int y1), (0, .ref (ad (b + 13))), (1, .int x1), (2, .int x2), (3, .int x3), (4, .ref (ad (b + 1)))]) rfl ?_
  refine z_sub [3, 4, 5, 6, 7, 2, 1, 0] (L' := [(0, .ref (ad (b + 13))), (1, .int x1), (2, .int x2), (3, .int x3), (4, .ref (ad (b + 1))), (5, .int y1), (6, .int y2), (7, .int 1)]) rfl ?_
  exact z_Inverter_firstAlone_15 hs  zFuel _ _ _ _ _ _ _ _ hF
def E_Inverter_firstAlone (b : Nat) (x1 : Int32) (x2 : Int32) (x3 : Int32) (μ : zI) (ν : zJ) : Option (Int32 × zI × zJ) := e_Inverter_firstAlone_0 b x1 x2 x3 μ ν
theorem c_Inverter_firstAlone {l : Launch} {D : va_G} {dA : Nat → ClassId} {ad : Nat → Nat} {sh : List zSE} {μ : zI} {ν : zJ} {b : Nat} {x1 : Int32} {x2 : Int32} {x3 : Int32} (hs : zSt sh b) {out : (Int32 × zI × zJ)} (hE : E_Inverter_firstAlone b x1 x2 x3 μ ν = some out) : zC l D dA ad sh m_Inverter_firstAlone 2 0 0 [.ref (ad (b + 13)), .int x1, .int x2, .int x3, .ref (ad (b + 1))] μ ν (zOi out) :=
  zC.of (by decide) (Nat.le_of_ble_eq_true rfl) (z_Inverter_firstAlone_0 hs hE)
