def f_M_puts_38 (q : Nat) (r8 : Int32 → Int32 → zI → zJ → Option (zI × zJ)) : Nat → Int32 → Int32 → Int32 → zI → zJ → Option (zI × zJ)
  | 0, _, _, _, _, _ => none
  | n + 1, x1, x2, x3, μ, ν => (if 4 ≤ x3 then r8 x1 (x2 + (-1)) μ ν else (if zin (((47 + (4 * x2)) - 4) + x3) 146 = true then (if zin ((47 + (4 * x2)) + x3) 146 = true then zlet (zu μ (q + 7) (Int32.toNatClampNeg ((47 + (4 * x2)) + x3)) (μ (q + 7) (Int32.toNatClampNeg (((47 + (4 * x2)) - 4) + x3)))) fun μy4 => (f_M_puts_38 q r8 n) x1 x2 (x3 + 1) μy4 ν else none) else none))
theorem z_M_puts_38 {l : Launch} {D : va_G} {dA : Nat → ClassId} {ad : Nat → Nat} {sh : List zSE}  {q : Nat} (hm : zMo sh q) {r8 : Int32 → Int32 → zI → zJ → Option (zI × zJ)} {out : (zI × zJ)} (hr8 : ∀ (x1 : Int32) (x2 : Int32) (μ : zI) (ν : zJ), r8 x1 x2 μ ν = some out → Z l D dA ad sh m_M_puts (zR 0 0 0) (zS ad) (zOv out) 0 0 0 0 [] 8 [(0, .ref (ad q)), (1, .int x1), (2, .int x2)] [] μ ν) : ∀ (n : Nat) (x1 : Int32) (x2 : Int32) (x3 : Int32) (μ : zI) (ν : zJ), f_M_puts_38 q r8 n x1 x2 x3 μ ν = some out → Z l D dA ad sh m_M_puts (zR 0 0 0) (zS ad) (zOv out) 0 0 0 0 [] 38 [(0, .ref (ad q)), (1, .int x1), (2, .int x2), (3, .int x3)] [] μ ν := by
  intro n
  induction n with
  | zero => intro x1 x2 x3 μ ν hF; cases hF
  | succ n ih =>
    intro x1 x2 x3 μ ν hF
    dsimp only [f_M_puts_38] at hF
    refine z_iload_n d_M_puts_38 3 rfl rfl ?_
    refine z_iconst d_M_puts_39 (v := 4) (by decide) ?_
    refine z_icmp_ge d_M_puts_40 (tgt := 77) (by decide) (fun cy1 => ?_) (fun cy1 => ?_)
    · replace hF := zh_t cy1 hF
      refine z_iinc d_M_puts_77 (k := 2) (v := (x2 + (-1))) rfl rfl (by decide) (L2 := [(2, .int (x2 + (-1))), (0, .ref (ad q)), (1, .int x1), (3, .int x3)]) rfl ?_
      refine z_goto d_M_puts_80 (tgt := 8) (by decide) ?_
      refine z_sub [1, 2, 0] (L' := [(0, .ref (ad q)), (1, .int x1), (2, .int (x2 + (-1)))]) rfl ?_
      exact hr8 _ _ _ _ hF
    · replace hF := zh_f cy1 hF
      refine z_aload_n d_M_puts_43 0 rfl rfl ?_
      refine z_getr d_M_puts_44 (q := (q + 7)) f_M_33 (hm 0 _ rfl) rfl ?_
      refine z_bipush d_M_puts_47 (v := 47) (by decide) ?_
      refine z_iconst d_M_puts_49 (v := 4) (by decide) ?_
      refine z_iload_n d_M_puts_50 2 rfl rfl ?_
      refine z_imul d_M_puts_51 ?_
      refine z_iadd d_M_puts_52 ?_
      refine z_iload_n d_M_puts_53 3 rfl rfl ?_
      refine z_iadd d_M_puts_54 ?_
      refine z_aload_n d_M_puts_55 0 rfl rfl ?_
      refine z_getr d_M_puts_56 (q := (q + 7)) f_M_33 (hm 0 _ rfl) rfl ?_
      refine z_bipush d_M_puts_59 (v := 47) (by decide) ?_
      refine z_iconst d_M_puts_61 (v := 4) (by decide) ?_
      refine z_iload_n d_M_puts_62 2 rfl rfl ?_
      refine z_imul d_M_puts_63 ?_
      refine z_iadd d_M_puts_64 ?_
      refine z_iconst d_M_puts_65 (v := 4) (by decide) ?_
      refine z_isub d_M_puts_66 ?_
      refine z_iload_n d_M_puts_67 3 rfl rfl ?_
      refine z_iadd d_M_puts_68 ?_
      obtain ⟨hy2, hF⟩ := zh_if hF
      refine z_iald d_M_puts_69 (hm 7 _ rfl) (zin_vp hy2) ?_
      obtain ⟨hy3, hF⟩ := zh_if hF
      refine z_iast d_M_puts_70 (hm 7 _ rfl) (zin_vp hy3) ?_
      obtain ⟨μy4, hy4, hF⟩ := zh_let hF
      refine z_eqm hy4 ?_
      refine z_iinc d_M_puts_71 (k := 3) (v := (x3 + 1)) rfl rfl (by decide) (L2 := [(3, .int (x3 + 1)), (0, .ref (ad q)), (1, .int x1), (2, .int x2)]) rfl ?_
      refine z_goto d_M_puts_74 (tgt := 38) (by decide) ?_
      refine z_sub [1, 2, 3, 0] (L' := [(0, .ref (ad q)), (1, .int x1), (2, .int x2), (3, .int (x3 + 1))]) rfl ?_
      exact ih _ _ _ _ _ hF
def f_M_puts_85 (q : Nat)  : Nat → Int32 → Int32 → Int32 → zI → zJ → Option (zI × zJ)
  | 0, _, _, _, _, _ => none
  | n + 1, x1, x2, x3, μ, ν => (if 4 ≤ x3 then zlet (zu μ (q + 7) 46 ((μ (q + 7) 46) + 1)) fun μy2 => some (μy2, ν) else (if zin ((4 * x1) + x3) 96 = true then (if zin ((47 + (4 * x2)) + x3) 146 = true then zlet (zu μ (q + 7) (Int32.toNatClampNeg ((47 + (4 * x2)) + x3)) (μ (q + 6) (Int32.toNatClampNeg ((4 * x1) + x3)))) fun μy5 => (f_M_puts_85 q n) x1 x2 (x3 + 1) μy5 ν else none) else none))
theorem z_M_puts_85 {l : Launch} {D : va_G} {dA : Nat → ClassId} {ad : Nat → Nat} {sh : List zSE}  {q : Nat} (hm : zMo sh q)  {out : (zI × zJ)} : ∀ (n : Nat) (x1 : Int32) (x2 : Int32) (x3 : Int32) (μ : zI) (ν : zJ), f_M_puts_85 q  n x1 x2 x3 μ ν = some out → Z l D dA ad sh m_M_puts (zR 0 0 0) (zS ad) (zOv out) 0 0 0 0 [] 85 [(0, .ref (ad q)), (1, .int x1), (2, .int x2), (3, .int x3)] [] μ ν := by
  intro n
  induction n with
  | zero => intro x1 x2 x3 μ ν hF; cases hF
  | succ n ih =>
    intro x1 x2 x3 μ ν hF
    dsimp only [f_M_puts_85] at hF
    refine z_iload_n d_M_puts_85 3 rfl rfl ?_
    refine z_iconst d_M_puts_86 (v := 4) (by decide) ?_
    refine z_icmp_ge d_M_puts_87 (tgt := 119) (by decide) (fun cy1 => ?_) (fun cy1 => ?_)
    · replace hF := zh_t cy1 hF
      refine z_aload_n d_M_puts_119 0 rfl rfl ?_
      refine z_getr d_M_puts_120 (q := (q + 7)) f_M_33 (hm 0 _ rfl) rfl ?_
      refine z_bipush d_M_puts_123 (v := 46) (by decide) ?_
      refine z_dup2 d_M_puts_125 rfl rfl ?_
      refine z_iald d_M_puts_126 (hm 7 _ rfl) (zin_vp rfl) ?_
      show Z _ _ _ _ _ _ _ _ _ _ _ _ _ _ _ _ [.int (μ (q + 7) 46), .int 46, .ref (ad (q + 7))] _ _
      refine z_iconst d_M_puts_127 (v := 1) (by decide) ?_
      refine z_iadd d_M_puts_128 ?_
      refine z_iast d_M_puts_129 (hm 7 _ rfl) (zin_vp rfl) ?_
      obtain ⟨μy2, hy2, hF⟩ := zh_let hF
      refine z_eqm hy2 ?_
      cases hF
      exact z_return d_M_puts_130 rfl ⟨rfl, rfl, rfl⟩
    · replace hF := zh_f cy1 hF
      refine z_aload_n d_M_puts_90 0 rfl rfl ?_
      refine z_getr d_M_puts_91 (q := (q + 7)) f_M_33 (hm 0 _ rfl) rfl ?_
      refine z_bipush d_M_puts_94 (v := 47) (by decide) ?_
      refine z_iconst d_M_puts_96 (v := 4) (by decide) ?_
      refine z_iload_n d_M_puts_97 2 rfl rfl ?_
      refine z_imul d_M_puts_98 ?_
      refine z_iadd d_M_puts_99 ?_
      refine z_iload_n d_M_puts_100 3 rfl rfl ?_
      refine z_iadd d_M_puts_101 ?_
      refine z_aload_n d_M_puts_102 0 rfl rfl ?_
      refine z_getr d_M_puts_103 (q := (q + 6)) f_M_26 (hm 0 _ rfl) rfl ?_
      refine z_iconst d_M_puts_106 (v := 4) (by decide) ?_
      refine z_iload_n d_M_puts_107 1 rfl rfl ?_
      refine z_imul d_M_puts_108 ?_
      refine z_iload_n d_M_puts_109 3 rfl rfl ?_
      refine z_iadd d_M_puts_110 ?_
      obtain ⟨hy3, hF⟩ := zh_if hF
      refine z_iald d_M_puts_111 (hm 6 _ rfl) (zin_vp hy3) ?_
      obtain ⟨hy4, hF⟩ := zh_if hF
      refine z_iast d_M_puts_112 (hm 7 _ rfl) (zin_vp hy4) ?_
      obtain ⟨μy5, hy5, hF⟩ := zh_let hF
      refine z_eqm hy5 ?_
      refine z_iinc d_M_puts_113 (k := 3) (v := (x3 + 1)) rfl rfl (by decide) (L2 := [(3, .int (x3 + 1)), (0, .ref (ad q)), (1, .int x1), (2, .int x2)]) rfl ?_
      refine z_goto d_M_puts_116 (tgt := 85) (by decide) ?_
      refine z_sub [1, 2, 3, 0] (L' := [(0, .ref (ad q)), (1, .int x1), (2, .int x2), (3, .int (x3 + 1))]) rfl ?_
      exact ih _ _ _ _ _ hF
def e_M_puts_83 (q : Nat)  (x1 : Int32) (x2 : Int32) (μ : zI) (ν : zJ) : Option (zI × zJ) := f_M_puts_85 q zFuel x1 x2 0 μ ν
theorem z_M_puts_83 {l : Launch} {D : va_G} {dA : Nat → ClassId} {ad : Nat → Nat} {sh : List zSE}  {q : Nat} (hm : zMo sh q)  {x1 : Int32} {x2 : Int32} {μ : zI} {ν : zJ} {out : (zI × zJ)} (hF : e_M_puts_83 q  x1 x2 μ ν = some out) : Z l D dA ad sh m_M_puts (zR 0 0 0) (zS ad) (zOv out) 0 0 0 0 [] 83 [(0, .ref (ad q)), (1, .int x1), (2, .int x2)] [] μ ν := by
  unfold e_M_puts_83 at hF
  refine z_iconst d_M_puts_83 (v := 0) (by decide) ?_
  refine z_istore_n d_M_puts_84 rfl (by decide) (L2 := [(3, .int 0), (0, .ref (ad q)), (1, .int x1), (2, .int x2)]) rfl ?_
  refine z_sub [1, 2, 3, 0] (L' := [(0, .ref (ad q)), (1, .int x1), (2, .int x2), (3, .int 0)]) rfl ?_
  exact z_M_puts_85 hm  zFuel _ _ _ _ _ hF
def f_M_puts_8 (q : Nat)  : Nat → Int32 → Int32 → zI → zJ → Option (zI × zJ)
  | 0, _, _, _, _ => none
  | n + 1, x1, x2, μ, ν => (if x2 ≤ 0 then e_M_puts_83 q x1 x2 μ ν else (if zin ((47 + (4 * x2)) - 4) 146 = true then (if zin (4 * x1) 96 = true then (if (μ (q + 7) (Int32.toNatClampNeg ((47 + (4 * x2)) - 4))) ≤ (μ (q + 6) (Int32.toNatClampNeg (4 * x1))) then e_M_puts_83 q x1 x2 μ ν else f_M_puts_38 q (f_M_puts_8 q n) zFuel x1 x2 0 μ ν) else none) else none))
theorem z_M_puts_8 {l : Launch} {D : va_G} {dA : Nat → ClassId} {ad : Nat → Nat} {sh : List zSE}  {q : Nat} (hm : zMo sh q)  {out : (zI × zJ)} : ∀ (n : Nat) (x1 : Int32) (x2 : Int32) (μ : zI) (ν : zJ), f_M_puts_8 q  n x1 x2 μ ν = some out → Z l D dA ad sh m_M_puts (zR 0 0 0) (zS ad) (zOv out) 0 0 0 0 [] 8 [(0, .ref (ad q)), (1, .int x1), (2, .int x2)] [] μ ν := by
  intro n
  induction n with
  | zero => intro x1 x2 μ ν hF; cases hF
  | succ n ih =>
    intro x1 x2 μ ν hF
    dsimp only [f_M_puts_8] at hF
    refine z_iload_n d_M_puts_8 2 rfl rfl ?_
    refine z_if_le d_M_puts_9 (tgt := 83) (by decide) (fun cy1 => ?_) (fun cy1 => ?_)
    · replace hF := zh_t cy1 hF
      exact z_M_puts_83 hm  hF
    · replace hF := zh_f cy1 hF
      refine z_aload_n d_M_puts_12 0 rfl rfl ?_
      refine z_getr d_M_puts_13 (q := (q + 7)) f_M_33 (hm 0 _ rfl) rfl ?_
      refine z_bipush d_M_puts_16 (v := 47) (by decide) ?_
      refine z_iconst d_M_puts_18 (v := 4) (by decide) ?_
      refine z_iload_n d_M_puts_19 2 rfl rfl ?_
      refine z_imul d_M_puts_20 ?_
      refine z_iadd d_M_puts_21 ?_
      refine z_iconst d_M_puts_22 (v := 4) (by decide) ?_
      refine z_isub d_M_puts_23 ?_
      obtain ⟨hy2, hF⟩ := zh_if hF
      refine z_iald d_M_puts_24 (hm 7 _ rfl) (zin_vp hy2) ?_
      refine z_aload_n d_M_puts_25 0 rfl rfl ?_
      refine z_getr d_M_puts_26 (q := (q + 6)) f_M_26 (hm 0 _ rfl) rfl ?_
      refine z_iconst d_M_puts_29 (v := 4) (by decide) ?_
      refine z_iload_n d_M_puts_30 1 rfl rfl ?_
      refine z_imul d_M_puts_31 ?_
      obtain ⟨hy3, hF⟩ := zh_if hF
      refine z_iald d_M_puts_32 (hm 6 _ rfl) (zin_vp hy3) ?_
      refine z_icmp_le d_M_puts_33 (tgt := 83) (by decide) (fun cy4 => ?_) (fun cy4 => ?_)
      · replace hF := zh_t cy4 hF
        exact z_M_puts_83 hm  hF
      · replace hF := zh_f cy4 hF
        refine z_iconst d_M_puts_36 (v := 0) (by decide) ?_
        refine z_istore_n d_M_puts_37 rfl (by decide) (L2 := [(3, .int 0), (0, .ref (ad q)), (1, .int x1), (2, .int x2)]) rfl ?_
        refine z_sub [1, 2, 3, 0] (L' := [(0, .ref (ad q)), (1, .int x1), (2, .int x2), (3, .int 0)]) rfl ?_
        exact z_M_puts_38 hm (fun a0 a1 a2 a3 => ih a0 a1 a2 a3) zFuel _ _ _ _ _ hF
def e_M_puts_0 (q : Nat)  (x1 : Int32) (μ : zI) (ν : zJ) : Option (zI × zJ) := zlet (α := Int32) (μ (q + 7) 46) fun y1 => f_M_puts_8 q zFuel x1 y1 μ ν
theorem z_M_puts_0 {l : Launch} {D : va_G} {dA : Nat → ClassId} {ad : Nat → Nat} {sh : List zSE}  {q : Nat} (hm : zMo sh q)  {x1 : Int32} {μ : zI} {ν : zJ} {out : (zI × zJ)} (hF : e_M_puts_0 q  x1 μ ν = some out) : Z l D dA ad sh m_M_puts (zR 0 0 0) (zS ad) (zOv out) 0 0 0 0 [] 0 [(0, .ref (ad q)), (1, .int x1)] [] μ ν := by
  unfold e_M_puts_0 at hF
  refine z_aload_n d_M_puts_0 0 rfl rfl ?_
  refine z_getr d_M_puts_1 (q := (q + 7)) f_M_33 (hm 0 _ rfl) rfl ?_
  refine z_bipush d_M_puts_4 (v := 46) (by decide) ?_
  refine z_iald d_M_puts_6 (hm 7 _ rfl) (zin_vp rfl) ?_
  show Z _ _ _ _ _ _ _ _ _ _ _ _ _ _ _ _ [.int (μ (q + 7) 46)] _ _
  obtain ⟨y1, hy1, hF⟩ := zh_let hF
  refine z_eqi hy1 ?_
  refine z_istore_n d_M_puts_7 rfl (by decide) (L2 := [(2, .int y1), (0, .ref (ad q)), (1, .int x1)]) rfl ?_
  refine z_sub [1, 2, 0] (L' := [(0, .ref (ad q)), (1, .int x1), (2, .int y1)]) rfl ?_
  exact z_M_puts_8 hm  zFuel _ _ _ _ hF
def E_M_puts (q : Nat) (x1 : Int32) (μ : zI) (ν : zJ) : Option (zI × zJ) := e_M_puts_0 q x1 μ ν
theorem c_M_puts {l : Launch} {D : va_G} {dA : Nat → ClassId} {ad : Nat → Nat} {sh : List zSE} {μ : zI} {ν : zJ} {q : Nat} {x1 : Int32} (hm : zMo sh q) {out : (zI × zJ)} (hE : E_M_puts q x1 μ ν = some out) : zC l D dA ad sh m_M_puts 0 0 0 [.ref (ad q), .int x1] μ ν (zOv out) :=
  zC.of (by decide) (Nat.le_of_ble_eq_true rfl) (z_M_puts_0 hm hE)
def e_M_begins_30 (q : Nat) (r2 : Int32 → zI → zJ → Option (zI × zJ)) (x1 : Int32) (s1 : Int32) (s2 : Int32) (μ : zI) (ν : zJ) : Option (zI × zJ) := (if zin s1 146 = true then zlet (zu μ (q + 7) (Int32.toNatClampNeg s1) s2) fun μy2 => r2 (x1 + 1) μy2 ν else none)
theorem z_M_begins_30 {l : Launch} {D : va_G} {dA : Nat → ClassId} {ad : Nat → Nat} {sh : List zSE}  {q : Nat} (hm : zMo sh q) {r2 : Int32 → zI → zJ → Option (zI × zJ)} {x1 : Int32} {s1 : Int32} {s2 : Int32} {μ : zI} {ν : zJ} {out : (zI × zJ)} (hr2 : ∀ (x1 : Int32) (μ : zI) (ν : zJ), r2 x1 μ ν = some out → Z l D dA ad sh m_M_begins (zR 1 0 0) (zS ad) (zOv out) 0 0 0 0 [] 2 [(0, .ref (ad q)), (1, .int x1)] [] μ ν) (hF : e_M_begins_30 q r2 x1 s1 s2 μ ν = some out) : Z l D dA ad sh m_M_begins (zR 1 0 0) (zS ad) (zOv out) 0 0 0 0 [] 30 [(0, .ref (ad q)), (1, .int x1)] [.int s2, .int s1, .ref (ad (q + 7))] μ ν := by
  unfold e_M_begins_30 at hF
  obtain ⟨hy1, hF⟩ := zh_if hF
  refine z_iast d_M_begins_30 (hm 7 _ rfl) (zin_vp hy1) ?_
  obtain ⟨μy2, hy2, hF⟩ := zh_let hF
  refine z_eqm hy2 ?_
  refine z_iinc d_M_begins_31 (k := 1) (v := (x1 + 1)) rfl rfl (by decide) (L2 := [(1, .int (x1 + 1)), (0, .ref (ad q))]) rfl ?_
  refine z_goto d_M_begins_34 (tgt := 2) (by decide) ?_
  refine z_sub [1, 0] (L' := [(0, .ref (ad q)), (1, .int (x1 + 1))]) rfl ?_
  exact hr2 _ _ _ hF
def f_M_begins_192 (q : Nat)  : Nat → Int32 → zI → zJ → Option (zI × zJ)
  | 0, _, _, _ => none
  | n + 1, x1, μ, ν => (if 11 ≤ x1 then zlet (zu μ q 28 0) fun μy2 => some (μy2, ν) else (if zin x1 11 = true then zlet (zul ν (q + 9) (Int32.toNatClampNeg x1) 0) fun νy4 => (f_M_begins_192 q n) (x1 + 1) μ νy4 else none))
theorem z_M_begins_192 {l : Launch} {D : va_G} {dA : Nat → ClassId} {ad : Nat → Nat} {sh : List zSE}  {q : Nat} (hm : zMo sh q)  {out : (zI × zJ)} : ∀ (n : Nat) (x1 : Int32) (μ : zI) (ν : zJ), f_M_begins_192 q  n x1 μ ν = some out → Z l D dA ad sh m_M_begins (zR 1 0 0) (zS ad) (zOv out) 0 0 0 0 [] 192 [(0, .ref (ad q)), (1, .int x1)] [] μ ν := by
  intro n
  induction n with
  | zero => intro x1 μ ν hF; cases hF
  | succ n ih =>
    intro x1 μ ν hF
    dsimp only [f_M_begins_192] at hF
    refine z_iload_n d_M_begins_192 1 rfl rfl ?_
    refine z_bipush d_M_begins_193 (v := 11) (by decide) ?_
    refine z_icmp_ge d_M_begins_195 (tgt := 211) (by decide) (fun cy1 => ?_) (fun cy1 => ?_)
    · replace hF := zh_t cy1 hF
      refine z_aload_n d_M_begins_211 0 rfl rfl ?_
      refine z_iconst d_M_begins_212 (v := 0) (by decide) ?_
      refine z_put d_M_begins_213 f_M_175 (hm 0 _ rfl) rfl (CL_fin _ _ (fun q hq => by cases hq; rfl)) rfl rfl ?_
      obtain ⟨μy2, hy2, hF⟩ := zh_let hF
      refine z_eqm hy2 ?_
      cases hF
      exact z_return d_M_begins_216 rfl ⟨rfl, rfl, rfl⟩
    · replace hF := zh_f cy1 hF
      refine z_aload_n d_M_begins_198 0 rfl rfl ?_
      refine z_getr d_M_begins_199 (q := (q + 9)) f_M_39 (hm 0 _ rfl) rfl ?_
      refine z_iload_n d_M_begins_202 1 rfl rfl ?_
      refine z_lconst d_M_begins_203 (v := 0) (by decide) ?_
      obtain ⟨hy3, hF⟩ := zh_if hF
      refine z_last d_M_begins_204 (hm 9 _ rfl) (zin_vp hy3) ?_
      obtain ⟨νy4, hy4, hF⟩ := zh_let hF
      refine z_eqn hy4 ?_
      refine z_iinc d_M_begins_205 (k := 1) (v := (x1 + 1)) rfl rfl (by decide) (L2 := [(1, .int (x1 + 1)), (0, .ref (ad q))]) rfl ?_
      refine z_goto d_M_begins_208 (tgt := 192) (by decide) ?_
      refine z_sub [1, 0] (L' := [(0, .ref (ad q)), (1, .int (x1 + 1))]) rfl ?_
      exact ih _ _ _ hF
def f_M_begins_171 (q : Nat)  : Nat → Int32 → zI → zJ → Option (zI × zJ)
  | 0, _, _, _ => none
  | n + 1, x1, μ, ν => (if (μ q 12) ≤ x1 then f_M_begins_192 q zFuel 0 μ ν else Option.bind (E_M_puts q x1 μ ν) fun ty2 => (f_M_begins_171 q n) (x1 + 1) ty2.1 ty2.2)
theorem z_M_begins_171 {l : Launch} {D : va_G} {dA : Nat → ClassId} {ad : Nat → Nat} {sh : List zSE}  {q : Nat} (hm : zMo sh q)  {out : (zI × zJ)} : ∀ (n : Nat) (x1 : Int32) (μ : zI) (ν : zJ), f_M_begins_171 q  n x1 μ ν = some out → Z l D dA ad sh m_M_begins (zR 1 0 0) (zS ad) (zOv out) 0 0 0 0 [] 171 [(0, .ref (ad q)), (1, .int x1)] [] μ ν := by
  intro n
  induction n with
  | zero => intro x1 μ ν hF; cases hF
  | succ n ih =>
    intro x1 μ ν hF
    dsimp only [f_M_begins_171] at hF
    refine z_iload_n d_M_begins_171 1 rfl rfl ?_
    refine z_aload_n d_M_begins_172 0 rfl rfl ?_
    refine z_get d_M_begins_173 f_M_132 (hm 0 _ rfl) rfl ?_
    refine z_icmp_ge d_M_begins_176 (tgt := 190) (by decide) (fun cy1 => ?_) (fun cy1 => ?_)
    · replace hF := zh_t cy1 hF
      refine z_iconst d_M_begins_190 (v := 0) (by decide) ?_
      refine z_istore_n d_M_begins_191 rfl (by decide) (L2 := [(1, .int 0), (0, .ref (ad q))]) rfl ?_
      refine z_sub [1, 0] (L' := [(0, .ref (ad q)), (1, .int 0)]) rfl ?_
      exact z_M_begins_192 hm  zFuel _ _ _ hF
    · replace hF := zh_f cy1 hF
      refine z_aload_n d_M_begins_179 0 rfl rfl ?_
      refine z_iload_n d_M_begins_180 1 rfl rfl ?_
      obtain ⟨ty2, hty2, hF⟩ := zh_bind hF
      refine z_callV d_M_begins_181 (c_M_puts hm hty2) mv_M_puts l_M_172 (fun _ _ h => h) (hm 0 _ rfl) rfl rfl ⟨Nat.le_of_ble_eq_true rfl, Nat.le_of_ble_eq_true rfl⟩ ⟨Nat.le_of_ble_eq_true rfl, Nat.le_of_ble_eq_true rfl⟩ rfl (Nat.le_of_ble_eq_true rfl) (fun r μ' ν' hq => ?_)
      obtain ⟨rfl, rfl, rfl⟩ := hq
      show Z _ _ _ _ _ _ _ _ _ _ _ 0 0 _ _ _ [] _ _
      refine z_iinc d_M_begins_184 (k := 1) (v := (x1 + 1)) rfl rfl (by decide) (L2 := [(1, .int (x1 + 1)), (0, .ref (ad q))]) rfl ?_
      refine z_goto d_M_begins_187 (tgt := 171) (by decide) ?_
      refine z_sub [1, 0] (L' := [(0, .ref (ad q)), (1, .int (x1 + 1))]) rfl ?_
      exact ih _ _ _ hF
def f_M_begins_47 (q : Nat)  : Nat → Int32 → zI → zJ → Option (zI × zJ)
  | 0, _, _, _ => none
  | n + 1, x1, μ, ν => (if (μ q 9) ≤ x1 then zlet (zu μ (q + 7) 27 1) fun μy2 => zlet (zu μy2 (q + 7) 28 (μy2 (q + 2) 12)) fun μy3 => zlet (zu μy3 (q + 7) 33 (μy3 q 5)) fun μy4 => zlet (zu μy4 (q + 7) 36 1) fun μy5 => zlet (zu μy5 (q + 7) 37 1) fun μy6 => zlet (zu μy6 (q + 7) 38 50000) fun μy7 => zlet (zu μy7 (q + 7) 39 50000) fun μy8 => f_M_begins_171 q zFuel 0 μy8 ν else (if zin (6 + x1) 12 = true then (if zin x1 12 = true then zlet (zu μ (q + 4) (Int32.toNatClampNeg x1) (μ (q + 4) (Int32.toNatClampNeg (6 + x1)))) fun μy11 => (if zin (6 + x1) 12 = true then (if zin x1 12 = true then zlet (zu μy11 (q + 5) (Int32.toNatClampNeg x1) (μy11 (q + 5) (Int32.toNatClampNeg (6 + x1)))) fun μy14 => (if zin (19 + x1) 146 = true then zlet (zu μy14 (q + 7) (Int32.toNatClampNeg (19 + x1)) 100) fun μy16 => (f_M_begins_47 q n) (x1 + 1) μy16 ν else none) else none) else none) else none) else none))
theorem z_M_begins_47 {l : Launch} {D : va_G} {dA : Nat → ClassId} {ad : Nat → Nat} {sh : List zSE}  {q : Nat} (hm : zMo sh q)  {out : (zI × zJ)} : ∀ (n : Nat) (x1 : Int32) (μ : zI) (ν : zJ), f_M_begins_47 q  n x1 μ ν = some out → Z l D dA ad sh m_M_begins (zR 1 0 0) (zS ad) (zOv out) 0 0 0 0 [] 47 [(0, .ref (ad q)), (1, .int x1)] [] μ ν := by
  intro n
  induction n with
  | zero => intro x1 μ ν hF; cases hF
  | succ n ih =>
    intro x1 μ ν hF
    dsimp only [f_M_begins_47] at hF
    refine z_iload_n d_M_begins_47 1 rfl rfl ?_
    refine z_aload_n d_M_begins_48 0 rfl rfl ?_
    refine z_get d_M_begins_49 f_M_168 (hm 0 _ rfl) rfl ?_
    refine z_icmp_ge d_M_begins_52 (tgt := 102) (by decide) (fun cy1 => ?_) (fun cy1 => ?_)
    · replace hF := zh_t cy1 hF
      refine z_aload_n d_M_begins_102 0 rfl rfl ?_
      refine z_getr d_M_begins_103 (q := (q + 7)) f_M_33 (hm 0 _ rfl) rfl ?_
      refine z_bipush d_M_begins_106 (v := 27) (by decide) ?_
      refine z_iconst d_M_begins_108 (v := 1) (by decide) ?_
      refine z_iast d_M_begins_109 (hm 7 _ rfl) (zin_vp rfl) ?_
      obtain ⟨μy2, hy2, hF⟩ := zh_let hF
      refine z_eqm hy2 ?_
      refine z_aload_n d_M_begins_110 0 rfl rfl ?_
      refine z_getr d_M_begins_111 (q := (q + 7)) f_M_33 (hm 0 _ rfl) rfl ?_
      refine z_bipush d_M_begins_114 (v := 28) (by decide) ?_
      refine z_aload_n d_M_begins_116 0 rfl rfl ?_
      refine z_getr d_M_begins_117 (q := (q + 2)) f_M_13 (hm 0 _ rfl) rfl ?_
      refine z_bipush d_M_begins_120 (v := 12) (by decide) ?_
      refine z_iald d_M_begins_122 (hm 2 _ rfl) (zin_vp rfl) ?_
      show Z _ _ _ _ _ _ _ _ _ _ _ _ _ _ _ _ [.int (μy2 (q + 2) 12), .int 28, .ref (ad (q + 7))] _ _
      refine z_iast d_M_begins_123 (hm 7 _ rfl) (zin_vp rfl) ?_
      obtain ⟨μy3, hy3, hF⟩ := zh_let hF
      refine z_eqm hy3 ?_
      refine z_aload_n d_M_begins_124 0 rfl rfl ?_
      refine z_getr d_M_begins_125 (q := (q + 7)) f_M_33 (hm 0 _ rfl) rfl ?_
      refine z_bipush d_M_begins_128 (v := 33) (by decide) ?_
      refine z_aload_n d_M_begins_130 0 rfl rfl ?_
      refine z_get d_M_begins_131 f_M_138 (hm 0 _ rfl) rfl ?_
      refine z_iast d_M_begins_134 (hm 7 _ rfl) (zin_vp rfl) ?_
      obtain ⟨μy4, hy4, hF⟩ := zh_let hF
      refine z_eqm hy4 ?_
      refine z_aload_n d_M_begins_135 0 rfl rfl ?_
      refine z_getr d_M_begins_136 (q := (q + 7)) f_M_33 (hm 0 _ rfl) rfl ?_
      refine z_bipush d_M_begins_139 (v := 36) (by decide) ?_
      refine z_iconst d_M_begins_141 (v := 1) (by decide) ?_
      refine z_iast d_M_begins_142 (hm 7 _ rfl) (zin_vp rfl) ?_
      obtain ⟨μy5, hy5, hF⟩ := zh_let hF
      refine z_eqm hy5 ?_
      refine z_aload_n d_M_begins_143 0 rfl rfl ?_
      refine z_getr d_M_begins_144 (q := (q + 7)) f_M_33 (hm 0 _ rfl) rfl ?_
      refine z_bipush d_M_begins_147 (v := 37) (by decide) ?_
      refine z_iconst d_M_begins_149 (v := 1) (by decide) ?_
      refine z_iast d_M_begins_150 (hm 7 _ rfl) (zin_vp rfl) ?_
      obtain ⟨μy6, hy6, hF⟩ := zh_let hF
      refine z_eqm hy6 ?_
      refine z_aload_n d_M_begins_151 0 rfl rfl ?_
      refine z_getr d_M_begins_152 (q := (q + 7)) f_M_33 (hm 0 _ rfl) rfl ?_
      refine z_bipush d_M_begins_155 (v := 38) (by decide) ?_
      refine z_ldc d_M_begins_157 k_M_171 ?_
      refine z_iast d_M_begins_159 (hm 7 _ rfl) (zin_vp rfl) ?_
      obtain ⟨μy7, hy7, hF⟩ := zh_let hF
      refine z_eqm hy7 ?_
      refine z_aload_n d_M_begins_160 0 rfl rfl ?_
      refine z_getr d_M_begins_161 (q := (q + 7)) f_M_33 (hm 0 _ rfl) rfl ?_
      refine z_bipush d_M_begins_164 (v := 39) (by decide) ?_
      refine z_ldc d_M_begins_166 k_M_171 ?_
      refine z_iast d_M_begins_168 (hm 7 _ rfl) (zin_vp rfl) ?_
      obtain ⟨μy8, hy8, hF⟩ := zh_let hF
      refine z_eqm hy8 ?_
      refine z_iconst d_M_begins_169 (v := 0) (by decide) ?_
      refine z_istore_n d_M_begins_170 rfl (by decide) (L2 := [(1, .int 0), (0, .ref (ad q))]) rfl ?_
      refine z_sub [1, 0] (L' := [(0, .ref (ad q)), (1, .int 0)]) rfl ?_
      exact z_M_begins_171 hm  zFuel _ _ _ hF
    · replace hF := zh_f cy1 hF
      refine z_aload_n d_M_begins_55 0 rfl rfl ?_
      refine z_getr d_M_begins_56 (q := (q + 4)) f_M_20 (hm 0 _ rfl) rfl ?_
      refine z_iload_n d_M_begins_59 1 rfl rfl ?_
      refine z_aload_n d_M_begins_60 0 rfl rfl ?_
      refine z_getr d_M_begins_61 (q := (q + 4)) f_M_20 (hm 0 _ rfl) rfl ?_
      refine z_bipush d_M_begins_64 (v := 6) (by decide) ?_
      refine z_iload_n d_M_begins_66 1 rfl rfl ?_
      refine z_iadd d_M_begins_67 ?_
      obtain ⟨hy9, hF⟩ := zh_if hF
      refine z_iald d_M_begins_68 (hm 4 _ rfl) (zin_vp hy9) ?_
      obtain ⟨hy10, hF⟩ := zh_if hF
      refine z_iast d_M_begins_69 (hm 4 _ rfl) (zin_vp hy10) ?_
      obtain ⟨μy11, hy11, hF⟩ := zh_let hF
      refine z_eqm hy11 ?_
      refine z_aload_n d_M_begins_70 0 rfl rfl ?_
      refine z_getr d_M_begins_71 (q := (q + 5)) f_M_23 (hm 0 _ rfl) rfl ?_
      refine z_iload_n d_M_begins_74 1 rfl rfl ?_
      refine z_aload_n d_M_begins_75 0 rfl rfl ?_
      refine z_getr d_M_begins_76 (q := (q + 5)) f_M_23 (hm 0 _ rfl) rfl ?_
      refine z_bipush d_M_begins_79 (v := 6) (by decide) ?_
      refine z_iload_n d_M_begins_81 1 rfl rfl ?_
      refine z_iadd d_M_begins_82 ?_
      obtain ⟨hy12, hF⟩ := zh_if hF
      refine z_iald d_M_begins_83 (hm 5 _ rfl) (zin_vp hy12) ?_
      obtain ⟨hy13, hF⟩ := zh_if hF
      refine z_iast d_M_begins_84 (hm 5 _ rfl) (zin_vp hy13) ?_
      obtain ⟨μy14, hy14, hF⟩ := zh_let hF
      refine z_eqm hy14 ?_
      refine z_aload_n d_M_begins_85 0 rfl rfl ?_
      refine z_getr d_M_begins_86 (q := (q + 7)) f_M_33 (hm 0 _ rfl) rfl ?_
      refine z_bipush d_M_begins_89 (v := 19) (by decide) ?_
      refine z_iload_n d_M_begins_91 1 rfl rfl ?_
      refine z_iadd d_M_begins_92 ?_
      refine z_bipush d_M_begins_93 (v := 100) (by decide) ?_
      obtain ⟨hy15, hF⟩ := zh_if hF
      refine z_iast d_M_begins_95 (hm 7 _ rfl) (zin_vp hy15) ?_
      obtain ⟨μy16, hy16, hF⟩ := zh_let hF
      refine z_eqm hy16 ?_
      refine z_iinc d_M_begins_96 (k := 1) (v := (x1 + 1)) rfl rfl (by decide) (L2 := [(1, .int (x1 + 1)), (0, .ref (ad q))]) rfl ?_
      refine z_goto d_M_begins_99 (tgt := 47) (by decide) ?_
      refine z_sub [1, 0] (L' := [(0, .ref (ad q)), (1, .int (x1 + 1))]) rfl ?_
      exact ih _ _ _ hF
def f_M_begins_2 (q : Nat)  : Nat → Int32 → zI → zJ → Option (zI × zJ)
  | 0, _, _, _ => none
  | n + 1, x1, μ, ν => (if 146 ≤ x1 then zlet (zu μ q 9 (μ q 10)) fun μy2 => f_M_begins_47 q zFuel 0 μy2 ν else (if 19 ≤ x1 then e_M_begins_30 q (f_M_begins_2 q n) x1 x1 0 μ ν else (if zin x1 19 = true then e_M_begins_30 q (f_M_begins_2 q n) x1 x1 (μ (q + 2) (Int32.toNatClampNeg x1)) μ ν else none)))
theorem z_M_begins_2 {l : Launch} {D : va_G} {dA : Nat → ClassId} {ad : Nat → Nat} {sh : List zSE}  {q : Nat} (hm : zMo sh q)  {out : (zI × zJ)} : ∀ (n : Nat) (x1 : Int32) (μ : zI) (ν : zJ), f_M_begins_2 q  n x1 μ ν = some out → Z l D dA ad sh m_M_begins (zR 1 0 0) (zS ad) (zOv out) 0 0 0 0 [] 2 [(0, .ref (ad q)), (1, .int x1)] [] μ ν := by
  intro n
  induction n with
  | zero => intro x1 μ ν hF; cases hF
  | succ n ih =>
    intro x1 μ ν hF
    dsimp only [f_M_begins_2] at hF
    refine z_iload_n d_M_begins_2 1 rfl rfl ?_
    refine z_sipush d_M_begins_3 (v := 146) (by decide) ?_
    refine z_icmp_ge d_M_begins_6 (tgt := 37) (by decide) (fun cy1 => ?_) (fun cy1 => ?_)
    · replace hF := zh_t cy1 hF
      refine z_aload_n d_M_begins_37 0 rfl rfl ?_
      refine z_aload_n d_M_begins_38 0 rfl rfl ?_
      refine z_get d_M_begins_39 f_M_129 (hm 0 _ rfl) rfl ?_
      refine z_put d_M_begins_42 f_M_168 (hm 0 _ rfl) rfl (CL_fin _ _ (fun q hq => by cases hq; rfl)) rfl rfl ?_
      obtain ⟨μy2, hy2, hF⟩ := zh_let hF
      refine z_eqm hy2 ?_
      refine z_iconst d_M_begins_45 (v := 0) (by decide) ?_
      refine z_istore_n d_M_begins_46 rfl (by decide) (L2 := [(1, .int 0), (0, .ref (ad q))]) rfl ?_
      refine z_sub [1, 0] (L' := [(0, .ref (ad q)), (1, .int 0)]) rfl ?_
      exact z_M_begins_47 hm  zFuel _ _ _ hF
    · replace hF := zh_f cy1 hF
      refine z_aload_n d_M_begins_9 0 rfl rfl ?_
      refine z_getr d_M_begins_10 (q := (q + 7)) f_M_33 (hm 0 _ rfl) rfl ?_
      refine z_iload_n d_M_begins_13 1 rfl rfl ?_
      refine z_iload_n d_M_begins_14 1 rfl rfl ?_
      refine z_bipush d_M_begins_15 (v := 19) (by decide) ?_
      refine z_icmp_ge d_M_begins_17 (tgt := 29) (by decide) (fun cy3 => ?_) (fun cy3 => ?_)
      · replace hF := zh_t cy3 hF
        refine z_iconst d_M_begins_29 (v := 0) (by decide) ?_
        exact z_M_begins_30 hm (fun a0 a1 a2 => ih a0 a1 a2) hF
      · replace hF := zh_f cy3 hF
        refine z_aload_n d_M_begins_20 0 rfl rfl ?_
        refine z_getr d_M_begins_21 (q := (q + 2)) f_M_13 (hm 0 _ rfl) rfl ?_
        refine z_iload_n d_M_begins_24 1 rfl rfl ?_
        obtain ⟨hy4, hF⟩ := zh_if hF
        refine z_iald d_M_begins_25 (hm 2 _ rfl) (zin_vp hy4) ?_
        refine z_goto d_M_begins_26 (tgt := 30) (by decide) ?_
        exact z_M_begins_30 hm (fun a0 a1 a2 => ih a0 a1 a2) hF
def e_M_begins_0 (q : Nat)   (μ : zI) (ν : zJ) : Option (zI × zJ) := f_M_begins_2 q zFuel 0 μ ν
theorem z_M_begins_0 {l : Launch} {D : va_G} {dA : Nat → ClassId} {ad : Nat → Nat} {sh : List zSE}  {q : Nat} (hm : zMo sh q)   {μ : zI} {ν : zJ} {out : (zI × zJ)} (hF : e_M_begins_0 q   μ ν = some out) : Z l D dA ad sh m_M_begins (zR 1 0 0) (zS ad) (zOv out) 0 0 0 0 [] 0 [(0, .ref (ad q))] [] μ ν := by
  unfold e_M_begins_0 at hF
  refine z_iconst d_M_begins_0 (v := 0) (by decide) ?_
  refine z_istore_n d_M_begins_1 rfl (by decide) (L2 := [(1, .int 0), (0, .ref (ad q))]) rfl ?_
  refine z_sub [1, 0] (L' := [(0, .ref (ad q)), (1, .int 0)]) rfl ?_
  exact z_M_begins_2 hm  zFuel _ _ _ hF
def E_M_begins (q : Nat)  (μ : zI) (ν : zJ) : Option (zI × zJ) := e_M_begins_0 q μ ν
theorem c_M_begins {l : Launch} {D : va_G} {dA : Nat → ClassId} {ad : Nat → Nat} {sh : List zSE} {μ : zI} {ν : zJ} {q : Nat} (hm : zMo sh q) {out : (zI × zJ)} (hE : E_M_begins q μ ν = some out) : zC l D dA ad sh m_M_begins 1 0 0 [.ref (ad q)] μ ν (zOv out) :=
  zC.of (by decide) (Nat.le_of_ble_eq_true rfl) (z_M_begins_0 hm hE)
def e_M_thrown_0 (q : Nat)   (μ : zI) (ν : zJ) : Option (Int32 × zI × zJ) := some ((μ q 0), μ, ν)
theorem z_M_thrown_0 {l : Launch} {D : va_G} {dA : Nat → ClassId} {ad : Nat → Nat} {sh : List zSE}  {q : Nat} (hm : zMo sh q)   {μ : zI} {ν : zJ} {out : (Int32 × zI × zJ)} (hF : e_M_thrown_0 q   μ ν = some out) : Z l D dA ad sh m_M_thrown (zR 0 0 0) (zS ad) (zOi out) 0 0 0 0 [] 0 [(0, .ref (ad q))] [] μ ν := by
  unfold e_M_thrown_0 at hF
  refine z_aload_n d_M_thrown_0 0 rfl rfl ?_
  refine z_get d_M_thrown_1 f_M_55 (hm 0 _ rfl) rfl ?_
  cases hF
  exact z_ireturn d_M_thrown_4 rfl rfl ⟨rfl, rfl, rfl⟩
def E_M_thrown (q : Nat)  (μ : zI) (ν : zJ) : Option (Int32 × zI × zJ) := e_M_thrown_0 q μ ν
theorem c_M_thrown {l : Launch} {D : va_G} {dA : Nat → ClassId} {ad : Nat → Nat} {sh : List zSE} {μ : zI} {ν : zJ} {q : Nat} (hm : zMo sh q) {out : (Int32 × zI × zJ)} (hE : E_M_thrown q μ ν = some out) : zC l D dA ad sh m_M_thrown 0 0 0 [.ref (ad q)] μ ν (zOi out) :=
  zC.of (by decide) (Nat.le_of_ble_eq_true rfl) (z_M_thrown_0 hm hE)
def e_M_feed_73 (q : Nat) (r20 : Int32 → Int32 → Int32 → Int32 → Int32 → Int32 → zI → zJ → Option (Int32 × zI × zJ)) (x1 : Int32) (x2 : Int32) (x3 : Int32) (x4 : Int32) (x5 : Int32) (x6 : Int32) (s0 : Int32) (μ : zI) (ν : zJ) : Option (Int32 × zI × zJ) := (if zin ((μ q 2) + x6) 900 = true then zlet (zu μ (q + 1) (Int32.toNatClampNeg ((μ q 2) + x6)) ((s0 >>> ((24 - (8 * (x6 - x6 / 4 * 4))) &&& 31)) &&& 255)) fun μy2 => r20 x1 x2 x3 x4 x5 (x6 + 1) μy2 ν else none)
theorem z_M_feed_73 {l : Launch} {D : va_G} {dA : Nat → ClassId} {ad : Nat → Nat} {sh : List zSE}  {q : Nat} (hm : zMo sh q) {r20 : Int32 → Int32 → Int32 → Int32 → Int32 → Int32 → zI → zJ → Option (Int32 × zI × zJ)} {x1 : Int32} {x2 : Int32} {x3 : Int32} {x4 : Int32} {x5 : Int32} {x6 : Int32} {s0 : Int32} {μ : zI} {ν : zJ} {out : (Int32 × zI × zJ)} (hr20 : ∀ (x1 : Int32) (x2 : Int32) (x3 : Int32) (x4 : Int32) (x5 : Int32) (x6 : Int32) (μ : zI) (ν : zJ), r20 x1 x2 x3 x4 x5 x6 μ ν = some out → Z l D dA ad sh m_M_feed (zR 0 0 0) (zS ad) (zOi out) 0 0 0 0 [] 20 [(0, .ref (ad q)), (1, .int x1), (2, .int x2), (3, .int x3), (4, .int x4), (5, .int x5), (6, .int x6)] [] μ ν) (hF : e_M_feed_73 q r20 x1 x2 x3 x4 x5 x6 s0 μ ν = some out) : Z l D dA ad sh m_M_feed (zR 0 0 0) (zS ad) (zOi out) 0 0 0 0 [] 73 [(0, .ref (ad q)), (1, .int x1), (2, .int x2), (3, .int x3), (4, .int x4), (5, .int x5), (6, .int x6)] [.int s0] μ ν := by
  unfold e_M_feed_73 at hF
  refine z_istore d_M_feed_73 (by decide) (L2 := [(7, .int s0), (0, .ref (ad q)), (1, .int x1), (2, .int x2), (3, .int x3), (4, .int x4), (5, .int x5), (6, .int x6)]) rfl ?_
  refine z_aload_n d_M_feed_75 1 rfl rfl ?_
  refine z_getr d_M_feed_76 (q := (q + 1)) f_M_7 (hm 0 _ rfl) rfl ?_
  refine z_aload_n d_M_feed_79 1 rfl rfl ?_
  refine z_get d_M_feed_80 f_M_58 (hm 0 _ rfl) rfl ?_
  refine z_iload d_M_feed_83 7 rfl ?_
  refine z_iadd d_M_feed_85 ?_
  refine z_iload d_M_feed_86 0 rfl ?_
  refine z_bipush d_M_feed_88 (v := 24) (by decide) ?_
  refine z_bipush d_M_feed_90 (v := 8) (by decide) ?_
  refine z_iload d_M_feed_92 7 rfl ?_
  refine z_iconst d_M_feed_94 (v := 4) (by decide) ?_
  refine z_irem d_M_feed_95 (by decide) ?_
  refine z_imul d_M_feed_96 ?_
  refine z_isub d_M_feed_97 ?_
  refine z_ishr d_M_feed_98 ?_
  refine z_sipush d_M_feed_99 (v := 255) (by decide) ?_
  refine z_iand d_M_feed_102 ?_
  obtain ⟨hy1, hF⟩ := zh_if hF
  refine z_iast d_M_feed_103 (hm 1 _ rfl) (zin_vp hy1) ?_
  obtain ⟨μy2, hy2, hF⟩ := zh_let hF
  refine z_eqm hy2 ?_
  refine z_iinc d_M_feed_104 (k := 7) (v := (x6 + 1)) rfl rfl (by decide) (L2 := [(6, .int (x6 + 1)), (7, .int s0), (0, .ref (ad q)), (1, .int x1), (2, .int x2), (3, .int x3), (4, .int x4), (5, .int x5)]) rfl ?_
  refine z_goto d_M_feed_107 (tgt := 20) (by decide) ?_
  refine z_sub [2, 3, 4, 5, 6, 7, 0] (L' := [(0, .ref (ad q)), (1, .int x1), (2, .int x2), (3, .int x3), (4, .int x4), (5, .int x5), (6, .int (x6 + 1))]) rfl ?_
  exact hr20 _ _ _ _ _ _ _ _ hF
def f_M_feed_20 (q : Nat)  : Nat → Int32 → Int32 → Int32 → Int32 → Int32 → Int32 → zI → zJ → Option (Int32 × zI × zJ)
  | 0, _, _, _, _, _, _, _, _ => none
  | n + 1, x1, x2, x3, x4, x5, x6, μ, ν => (if 20 ≤ x6 then zlet (zu μ q 2 ((μ q 2) + 20)) fun μy2 => some ((μy2 q 2), μy2, ν) else (if 4 ≤ x6 then (if 8 ≤ x6 then (if 12 ≤ x6 then (if 16 ≤ x6 then e_M_feed_73 q (f_M_feed_20 q n) x1 x2 x3 x4 x5 x6 x5 μ ν else e_M_feed_73 q (f_M_feed_20 q n) x1 x2 x3 x4 x5 x6 x4 μ ν) else e_M_feed_73 q (f_M_feed_20 q n) x1 x2 x3 x4 x5 x6 x3 μ ν) else e_M_feed_73 q (f_M_feed_20 q n) x1 x2 x3 x4 x5 x6 x2 μ ν) else e_M_feed_73 q (f_M_feed_20 q n) x1 x2 x3 x4 x5 x6 x1 μ ν))
theorem z_M_feed_20 {l : Launch} {D : va_G} {dA : Nat → ClassId} {ad : Nat → Nat} {sh : List zSE}  {q : Nat} (hm : zMo sh q)  {out : (Int32 × zI × zJ)} : ∀ (n : Nat) (x1 : Int32) (x2 : Int32) (x3 : Int32) (x4 : Int32) (x5 : Int32) (x6 : Int32) (μ : zI) (ν : zJ), f_M_feed_20 q  n x1 x2 x3 x4 x5 x6 μ ν = some out → Z l D dA ad sh m_M_feed (zR 0 0 0) (zS ad) (zOi out) 0 0 0 0 [] 20 [(0, .ref (ad q)), (1, .int x1), (2, .int x2), (3, .int x3), (4, .int x4), (5, .int x5), (6, .int x6)] [] μ ν := by
  intro n
  induction n with
  | zero => intro x1 x2 x3 x4 x5 x6 μ ν hF; cases hF
  | succ n ih =>
    intro x1 x2 x3 x4 x5 x6 μ ν hF
    dsimp only [f_M_feed_20] at hF
    refine z_iload d_M_feed_20 6 rfl ?_
    refine z_bipush d_M_feed_22 (v := 20) (by decide) ?_
    refine z_icmp_ge d_M_feed_24 (tgt := 110) (by decide) (fun cy1 => ?_) (fun cy1 => ?_)
    · replace hF := zh_t cy1 hF
      refine z_aload_n d_M_feed_110 0 rfl rfl ?_
      refine z_dup d_M_feed_111 rfl ?_
      refine z_get d_M_feed_112 f_M_58 (hm 0 _ rfl) rfl ?_
      refine z_bipush d_M_feed_115 (v := 20) (by decide) ?_
      refine z_iadd d_M_feed_117 ?_
      refine z_put d_M_feed_118 f_M_58 (hm 0 _ rfl) rfl (CL_fin _ _ (fun q hq => by cases hq; rfl)) rfl rfl ?_
      obtain ⟨μy2, hy2, hF⟩ := zh_let hF
      refine z_eqm hy2 ?_
      refine z_aload_n d_M_feed_121 0 rfl rfl ?_
      refine z_get d_M_feed_122 f_M_58 (hm 0 _ rfl) rfl ?_
      cases hF
      exact z_ireturn d_M_feed_125 rfl rfl ⟨rfl, rfl, rfl⟩
    · replace hF := zh_f cy1 hF
      refine z_iload d_M_feed_27 6 rfl ?_
      refine z_iconst d_M_feed_29 (v := 4) (by decide) ?_
      refine z_icmp_ge d_M_feed_30 (tgt := 37) (by decide) (fun cy3 => ?_) (fun cy3 => ?_)
      · replace hF := zh_t cy3 hF
        refine z_iload d_M_feed_37 6 rfl ?_
        refine z_bipush d_M_feed_39 (v := 8) (by decide) ?_
        refine z_icmp_ge d_M_feed_41 (tgt := 48) (by decide) (fun cy4 => ?_) (fun cy4 => ?_)
        · replace hF := zh_t cy4 hF
          refine z_iload d_M_feed_48 6 rfl ?_
          refine z_bipush d_M_feed_50 (v := 12) (by decide) ?_
          refine z_icmp_ge d_M_feed_52 (tgt := 59) (by decide) (fun cy5 => ?_) (fun cy5 => ?_)
          · replace hF := zh_t cy5 hF
            refine z_iload d_M_feed_59 6 rfl ?_
            refine z_bipush d_M_feed_61 (v := 16) (by decide) ?_
            refine z_icmp_ge d_M_feed_63 (tgt := 71) (by decide) (fun cy6 => ?_) (fun cy6 => ?_)
            · replace hF := zh_t cy6 hF
              refine z_iload d_M_feed_71 5 rfl ?_
              exact z_M_feed_73 hm (fun a0 a1 a2 a3 a4 a5 a6 a7 => ih a0 a1 a2 a3 a4 a5 a6 a7) hF
            · replace hF := zh_f cy6 hF
              refine z_iload d_M_feed_66 4 rfl ?_
              refine z_goto d_M_feed_68 (tgt := 73) (by decide) ?_
              exact z_M_feed_73 hm (fun a0 a1 a2 a3 a4 a5 a6 a7 => ih a0 a1 a2 a3 a4 a5 a6 a7) hF
          · replace hF := zh_f cy5 hF
            refine z_iload_n d_M_feed_55 3 rfl rfl ?_
            refine z_goto d_M_feed_56 (tgt := 73) (by decide) ?_
            exact z_M_feed_73 hm (fun a0 a1 a2 a3 a4 a5 a6 a7 => ih a0 a1 a2 a3 a4 a5 a6 a7) hF
        · replace hF := zh_f cy4 hF
          refine z_iload_n d_M_feed_44 2 rfl rfl ?_
          refine z_goto d_M_feed_45 (tgt := 73) (by decide) ?_
          exact z_M_feed_73 hm (fun a0 a1 a2 a3 a4 a5 a6 a7 => ih a0 a1 a2 a3 a4 a5 a6 a7) hF
      · replace hF := zh_f cy3 hF
        refine z_iload_n d_M_feed_33 1 rfl rfl ?_
        refine z_goto d_M_feed_34 (tgt := 73) (by decide) ?_
        exact z_M_feed_73 hm (fun a0 a1 a2 a3 a4 a5 a6 a7 => ih a0 a1 a2 a3 a4 a5 a6 a7) hF
def e_M_feed_0 (q : Nat)  (x1 : Int32) (x2 : Int32) (x3 : Int32) (x4 : Int32) (x5 : Int32) (μ : zI) (ν : zJ) : Option (Int32 × zI × zJ) := zlet (zu μ q 0 0) fun μy1 => (if (μy1 q 2) ≤ 880 then f_M_feed_20 q zFuel x1 x2 x3 x4 x5 0 μy1 ν else some ((-1), μy1, ν))
theorem z_M_feed_0 {l : Launch} {D : va_G} {dA : Nat → ClassId} {ad : Nat → Nat} {sh : List zSE}  {q : Nat} (hm : zMo sh q)  {x1 : Int32} {x2 : Int32} {x3 : Int32} {x4 : Int32} {x5 : Int32} {μ : zI} {ν : zJ} {out : (Int32 × zI × zJ)} (hF : e_M_feed_0 q  x1 x2 x3 x4 x5 μ ν = some out) : Z l D dA ad sh m_M_feed (zR 0 0 0) (zS ad) (zOi out) 0 0 0 0 [] 0 [(0, .ref (ad q)), (1, .int x1), (2, .int x2), (3, .int x3), (4, .int x4), (5, .int x5)] [] μ ν := by
  unfold e_M_feed_0 at hF
  refine z_aload_n d_M_feed_0 0 rfl rfl ?_
  refine z_iconst d_M_feed_1 (v := 0) (by decide) ?_
  refine z_put d_M_feed_2 f_M_55 (hm 0 _ rfl) rfl (CL_fin _ _ (fun q hq => by cases hq; rfl)) rfl rfl ?_
  obtain ⟨μy1, hy1, hF⟩ := zh_let hF
  refine z_eqm hy1 ?_
  refine z_aload_n d_M_feed_5 0 rfl rfl ?_
  refine z_get d_M_feed_6 f_M_58 (hm 0 _ rfl) rfl ?_
  refine z_sipush d_M_feed_9 (v := 880) (by decide) ?_
  refine z_icmp_le d_M_feed_12 (tgt := 17) (by decide) (fun cy2 => ?_) (fun cy2 => ?_)
  · replace hF := zh_t cy2 hF
    refine z_iconst d_M_feed_17 (v := 0) (by decide) ?_
    refine z_istore d_M_feed_18 (by decide) (L2 := [(6, .int 0), (0, .ref (ad q)), (1, .int x1), (2, .int x2), (3, .int x3), (4, .int x4), (5, .int x5)]) rfl ?_
    refine z_sub [1, 2, 3, 4, 5, 6, 0] (L' := [(0, .ref (ad q)), (1, .int x1), (2, .int x2), (3, .int x3), (4, .int x4), (5, .int x5), (6, .int 0)]) rfl ?_
    exact z_M_feed_20 hm  zFuel _ _ _ _ _ _ _ _ hF
  · replace hF := zh_f cy2 hF
    refine z_iconst d_M_feed_15 (v := (-1)) (by decide) ?_
    cases hF
    exact z_ireturn d_M_feed_16 rfl rfl ⟨rfl, rfl, rfl⟩
def E_M_feed (q : Nat) (x1 : Int32) (x2 : Int32) (x3 : Int32) (x4 : Int32) (x5 : Int32) (μ : zI) (ν : zJ) : Option (Int32 × zI × zJ) := e_M_feed_0 q x1 x2 x3 x4 x5 μ ν
theorem c_M_feed {l : Launch} {D : va_G} {dA : Nat → ClassId} {ad : Nat → Nat} {sh : List zSE} {μ : zI} {ν : zJ} {q : Nat} {x1 : Int32} {x2 : Int32} {x3 : Int32} {x4 : Int32} {x5 : Int32} (hm : zMo sh q) {out : (Int32 × zI × zJ)} (hE : E_M_feed q x1 x2 x3 x4 x5 μ ν = some out) : zC l D dA ad sh m_M_feed 0 0 0 [.ref (ad q), .int x1, .int x2, .int x3, .int x4, .int x5] μ ν (zOi out) :=
  zC.of (by decide) (Nat.le_of_ble_eq_true rfl) (z_M_feed_0 hm hE)
def e_M_here_24 (q : Nat)  (s0 : Int32) (μ : zI) (ν : zJ) : Option (Int32 × zI × zJ) := some (s0, μ, ν)
theorem z_M_here_24 {l : Launch} {D : va_G} {dA : Nat → ClassId} {ad : Nat → Nat} {sh : List zSE}  {q : Nat} (hm : zMo sh q)  {s0 : Int32} {μ : zI} {ν : zJ} {out : (Int32 × zI × zJ)} (hF : e_M_here_24 q  s0 μ ν = some out) : Z l D dA ad sh m_M_here (zR 0 0 0) (zS ad) (zOi out) 0 0 0 0 [] 24 [(0, .ref (ad q))] [.int s0] μ ν := by
  unfold e_M_here_24 at hF
  cases hF
  exact z_ireturn d_M_here_24 rfl rfl ⟨rfl, rfl, rfl⟩
def e_M_here_0 (q : Nat)   (μ : zI) (ν : zJ) : Option (Int32 × zI × zJ) := (if (μ q 14) ≤ (μ q 15) then e_M_here_24 q (-1) μ ν else (if zin (μ q 15) 900 = true then e_M_here_24 q (μ (q + 1) (Int32.toNatClampNeg (μ q 15))) μ ν else none))
theorem z_M_here_0 {l : Launch} {D : va_G} {dA : Nat → ClassId} {ad : Nat → Nat} {sh : List zSE}  {q : Nat} (hm : zMo sh q)   {μ : zI} {ν : zJ} {out : (Int32 × zI × zJ)} (hF : e_M_here_0 q   μ ν = some out) : Z l D dA ad sh m_M_here (zR 0 0 0) (zS ad) (zOi out) 0 0 0 0 [] 0 [(0, .ref (ad q))] [] μ ν := by
  unfold e_M_here_0 at hF
  refine z_aload_n d_M_here_0 0 rfl rfl ?_
  refine z_get d_M_here_1 f_M_61 (hm 0 _ rfl) rfl ?_
  refine z_aload_n d_M_here_4 0 rfl rfl ?_
  refine z_get d_M_here_5 f_M_64 (hm 0 _ rfl) rfl ?_
  refine z_icmp_ge d_M_here_8 (tgt := 23) (by decide) (fun cy1 => ?_) (fun cy1 => ?_)
  · replace hF := zh_t cy1 hF
    refine z_iconst d_M_here_23 (v := (-1)) (by decide) ?_
    exact z_M_here_24 hm  hF
  · replace hF := zh_f cy1 hF
    refine z_aload_n d_M_here_11 0 rfl rfl ?_
    refine z_getr d_M_here_12 (q := (q + 1)) f_M_7 (hm 0 _ rfl) rfl ?_
    refine z_aload_n d_M_here_15 0 rfl rfl ?_
    refine z_get d_M_here_16 f_M_61 (hm 0 _ rfl) rfl ?_
    obtain ⟨hy2, hF⟩ := zh_if hF
    refine z_iald d_M_here_19 (hm 1 _ rfl) (zin_vp hy2) ?_
    refine z_goto d_M_here_20 (tgt := 24) (by decide) ?_
    exact z_M_here_24 hm  hF
def E_M_here (q : Nat)  (μ : zI) (ν : zJ) : Option (Int32 × zI × zJ) := e_M_here_0 q μ ν
theorem c_M_here {l : Launch} {D : va_G} {dA : Nat → ClassId} {ad : Nat → Nat} {sh : List zSE} {μ : zI} {ν : zJ} {q : Nat} (hm : zMo sh q) {out : (Int32 × zI × zJ)} (hE : E_M_here q μ ν = some out) : zC l D dA ad sh m_M_here 0 0 0 [.ref (ad q)] μ ν (zOi out) :=
  zC.of (by decide) (Nat.le_of_ble_eq_true rfl) (z_M_here_0 hm hE)
def e_M_isSmall_17   (x0 : Int32) (s0 : Int32) (μ : zI) (ν : zJ) : Option (Int32 × zI × zJ) := (if zb s0 = true then some (s0, μ, ν) else none)
theorem z_M_isSmall_17 {l : Launch} {D : va_G} {dA : Nat → ClassId} {ad : Nat → Nat} {sh : List zSE}    {x0 : Int32} {s0 : Int32} {μ : zI} {ν : zJ} {out : (Int32 × zI × zJ)} (hF : e_M_isSmall_17   x0 s0 μ ν = some out) : Z l D dA ad sh m_M_isSmall (zR 0 0 0) (zS ad) (zOi out) 0 0 0 0 [] 17 [(0, .int x0)] [.int s0] μ ν := by
  unfold e_M_isSmall_17 at hF
  obtain ⟨hy1, hF⟩ := zh_if hF
  cases hF
  exact z_ireturn d_M_isSmall_17 rfl (zb_n hy1) ⟨rfl, rfl, rfl⟩
def e_M_isSmall_16   (x0 : Int32) (μ : zI) (ν : zJ) : Option (Int32 × zI × zJ) := e_M_isSmall_17 x0 0 μ ν
theorem z_M_isSmall_16 {l : Launch} {D : va_G} {dA : Nat → ClassId} {ad : Nat → Nat} {sh : List zSE}    {x0 : Int32} {μ : zI} {ν : zJ} {out : (Int32 × zI × zJ)} (hF : e_M_isSmall_16   x0 μ ν = some out) : Z l D dA ad sh m_M_isSmall (zR 0 0 0) (zS ad) (zOi out) 0 0 0 0 [] 16 [(0, .int x0)] [] μ ν := by
  unfold e_M_isSmall_16 at hF
  refine z_iconst d_M_isSmall_16 (v := 0) (by decide) ?_
  exact z_M_isSmall_17   hF
def e_M_isSmall_0   (x0 : Int32) (μ : zI) (ν : zJ) : Option (Int32 × zI × zJ) := (if x0 < 97 then e_M_isSmall_16 x0 μ ν else (if 122 < x0 then e_M_isSmall_16 x0 μ ν else e_M_isSmall_17 x0 1 μ ν))
theorem z_M_isSmall_0 {l : Launch} {D : va_G} {dA : Nat → ClassId} {ad : Nat → Nat} {sh : List zSE}    {x0 : Int32} {μ : zI} {ν : zJ} {out : (Int32 × zI × zJ)} (hF : e_M_isSmall_0   x0 μ ν = some out) : Z l D dA ad sh m_M_isSmall (zR 0 0 0) (zS ad) (zOi out) 0 0 0 0 [] 0 [(0, .int x0)] [] μ ν := by
  unfold e_M_isSmall_0 at hF
  refine z_iload_n d_M_isSmall_0 0 rfl rfl ?_
  refine z_bipush d_M_isSmall_1 (v := 97) (by decide) ?_
  refine z_icmp_lt d_M_isSmall_3 (tgt := 16) (by decide) (fun cy1 => ?_) (fun cy1 => ?_)
  · replace hF := zh_t cy1 hF
    exact z_M_isSmall_16   hF
  · replace hF := zh_f cy1 hF
    refine z_iload_n d_M_isSmall_6 0 rfl rfl ?_
    refine z_bipush d_M_isSmall_7 (v := 122) (by decide) ?_
    refine z_icmp_gt d_M_isSmall_9 (tgt := 16) (by decide) (fun cy2 => ?_) (fun cy2 => ?_)
    · replace hF := zh_t cy2 hF
      exact z_M_isSmall_16   hF
    · replace hF := zh_f cy2 hF
      refine z_iconst d_M_isSmall_12 (v := 1) (by decide) ?_
      refine z_goto d_M_isSmall_13 (tgt := 17) (by decide) ?_
      exact z_M_isSmall_17   hF
def E_M_isSmall  (x0 : Int32) (μ : zI) (ν : zJ) : Option (Int32 × zI × zJ) := e_M_isSmall_0 x0 μ ν
theorem c_M_isSmall {l : Launch} {D : va_G} {dA : Nat → ClassId} {ad : Nat → Nat} {sh : List zSE} {μ : zI} {ν : zJ} {x0 : Int32}  {out : (Int32 × zI × zJ)} (hE : E_M_isSmall x0 μ ν = some out) : zC l D dA ad sh m_M_isSmall 0 0 0 [.int x0] μ ν (zOi out) :=
  zC.of (by decide) (Nat.le_of_ble_eq_true rfl) (z_M_isSmall_0  hE)
def e_M_isDigit_17   (x0 : Int32) (s0 : Int32) (μ : zI) (ν : zJ) : Option (Int32 × zI × zJ) := (if zb s0 = true then some (s0, μ, ν) else none)
theorem z_M_isDigit_17 {l : Launch} {D : va_G} {dA : Nat → ClassId} {ad : Nat → Nat} {sh : List zSE}    {x0 : Int32} {s0 : Int32} {μ : zI} {ν : zJ} {out : (Int32 × zI × zJ)} (hF : e_M_isDigit_17   x0 s0 μ ν = some out) : Z l D dA ad sh m_M_isDigit (zR 0 0 0) (zS ad) (zOi out) 0 0 0 0 [] 17 [(0, .int x0)] [.int s0] μ ν := by
  unfold e_M_isDigit_17 at hF
  obtain ⟨hy1, hF⟩ := zh_if hF
  cases hF
  exact z_ireturn d_M_isDigit_17 rfl (zb_n hy1) ⟨rfl, rfl, rfl⟩
def e_M_isDigit_16   (x0 : Int32) (μ : zI) (ν : zJ) : Option (Int32 × zI × zJ) := e_M_isDigit_17 x0 0 μ ν
theorem z_M_isDigit_16 {l : Launch} {D : va_G} {dA : Nat → ClassId} {ad : Nat → Nat} {sh : List zSE}    {x0 : Int32} {μ : zI} {ν : zJ} {out : (Int32 × zI × zJ)} (hF : e_M_isDigit_16   x0 μ ν = some out) : Z l D dA ad sh m_M_isDigit (zR 0 0 0) (zS ad) (zOi out) 0 0 0 0 [] 16 [(0, .int x0)] [] μ ν := by
  unfold e_M_isDigit_16 at hF
  refine z_iconst d_M_isDigit_16 (v := 0) (by decide) ?_
  exact z_M_isDigit_17   hF
def e_M_isDigit_0   (x0 : Int32) (μ : zI) (ν : zJ) : Option (Int32 × zI × zJ) := (if x0 < 48 then e_M_isDigit_16 x0 μ ν else (if 57 < x0 then e_M_isDigit_16 x0 μ ν else e_M_isDigit_17 x0 1 μ ν))
theorem z_M_isDigit_0 {l : Launch} {D : va_G} {dA : Nat → ClassId} {ad : Nat → Nat} {sh : List zSE}    {x0 : Int32} {μ : zI} {ν : zJ} {out : (Int32 × zI × zJ)} (hF : e_M_isDigit_0   x0 μ ν = some out) : Z l D dA ad sh m_M_isDigit (zR 0 0 0) (zS ad) (zOi out) 0 0 0 0 [] 0 [(0, .int x0)] [] μ ν := by
  unfold e_M_isDigit_0 at hF
  refine z_iload_n d_M_isDigit_0 0 rfl rfl ?_
  refine z_bipush d_M_isDigit_1 (v := 48) (by decide) ?_
  refine z_icmp_lt d_M_isDigit_3 (tgt := 16) (by decide) (fun cy1 => ?_) (fun cy1 => ?_)
  · replace hF := zh_t cy1 hF
    exact z_M_isDigit_16   hF
  · replace hF := zh_f cy1 hF
    refine z_iload_n d_M_isDigit_6 0 rfl rfl ?_
    refine z_bipush d_M_isDigit_7 (v := 57) (by decide) ?_
    refine z_icmp_gt d_M_isDigit_9 (tgt := 16) (by decide) (fun cy2 => ?_) (fun cy2 => ?_)
    · replace hF := zh_t cy2 hF
      exact z_M_isDigit_16   hF
    · replace hF := zh_f cy2 hF
      refine z_iconst d_M_isDigit_12 (v := 1) (by decide) ?_
      refine z_goto d_M_isDigit_13 (tgt := 17) (by decide) ?_
      exact z_M_isDigit_17   hF
def E_M_isDigit  (x0 : Int32) (μ : zI) (ν : zJ) : Option (Int32 × zI × zJ) := e_M_isDigit_0 x0 μ ν
theorem c_M_isDigit {l : Launch} {D : va_G} {dA : Nat → ClassId} {ad : Nat → Nat} {sh : List zSE} {μ : zI} {ν : zJ} {x0 : Int32}  {out : (Int32 × zI × zJ)} (hE : E_M_isDigit x0 μ ν = some out) : zC l D dA ad sh m_M_isDigit 0 0 0 [.int x0] μ ν (zOi out) :=
  zC.of (by decide) (Nat.le_of_ble_eq_true rfl) (z_M_isDigit_0  hE)
def e_M_wrong_0 (q : Nat)  (x1 : Int32) (μ : zI) (ν : zJ) : Option (zI × zJ) := (if (μ q 19) = 0 then zlet (zu μ q 19 x1) fun μy2 => zlet (zu μy2 q 20 (μy2 q 16)) fun μy3 => some (μy3, ν) else some (μ, ν))
theorem z_M_wrong_0 {l : Launch} {D : va_G} {dA : Nat → ClassId} {ad : Nat → Nat} {sh : List zSE}  {q : Nat} (hm : zMo sh q)  {x1 : Int32} {μ : zI} {ν : zJ} {out : (zI × zJ)} (hF : e_M_wrong_0 q  x1 μ ν = some out) : Z l D dA ad sh m_M_wrong (zR 0 0 0) (zS ad) (zOv out) 0 0 0 0 [] 0 [(0, .ref (ad q)), (1, .int x1)] [] μ ν := by
  unfold e_M_wrong_0 at hF
  refine z_aload_n d_M_wrong_0 0 rfl rfl ?_
  refine z_get d_M_wrong_1 f_M_102 (hm 0 _ rfl) rfl ?_
  refine z_if_eq d_M_wrong_4 (tgt := 8) (by decide) (fun cy1 => ?_) (fun cy1 => ?_)
  · replace hF := zh_t cy1 hF
    refine z_aload_n d_M_wrong_8 0 rfl rfl ?_
    refine z_iload_n d_M_wrong_9 1 rfl rfl ?_
    refine z_put d_M_wrong_10 f_M_102 (hm 0 _ rfl) rfl (CL_fin _ _ (fun q hq => by cases hq; rfl)) rfl rfl ?_
    obtain ⟨μy2, hy2, hF⟩ := zh_let hF
    refine z_eqm hy2 ?_
    refine z_aload_n d_M_wrong_13 0 rfl rfl ?_
    refine z_aload_n d_M_wrong_14 0 rfl rfl ?_
    refine z_get d_M_wrong_15 f_M_71 (hm 0 _ rfl) rfl ?_
    refine z_put d_M_wrong_18 f_M_105 (hm 0 _ rfl) rfl (CL_fin _ _ (fun q hq => by cases hq; rfl)) rfl rfl ?_
    obtain ⟨μy3, hy3, hF⟩ := zh_let hF
    refine z_eqm hy3 ?_
    cases hF
    exact z_return d_M_wrong_21 rfl ⟨rfl, rfl, rfl⟩
  · replace hF := zh_f cy1 hF
    cases hF
    exact z_return d_M_wrong_7 rfl ⟨rfl, rfl, rfl⟩
def E_M_wrong (q : Nat) (x1 : Int32) (μ : zI) (ν : zJ) : Option (zI × zJ) := e_M_wrong_0 q x1 μ ν
theorem c_M_wrong {l : Launch} {D : va_G} {dA : Nat → ClassId} {ad : Nat → Nat} {sh : List zSE} {μ : zI} {ν : zJ} {q : Nat} {x1 : Int32} (hm : zMo sh q) {out : (zI × zJ)} (hE : E_M_wrong q x1 μ ν = some out) : zC l D dA ad sh m_M_wrong 0 0 0 [.ref (ad q), .int x1] μ ν (zOv out) :=
  zC.of (by decide) (Nat.le_of_ble_eq_true rfl) (z_M_wrong_0 hm hE)
def e_M_leastOf_0   (x0 : Int32) (μ : zI) (ν : zJ) : Option (Int32 × zI × zJ) := (if x0 = 0 then some (1000, μ, ν) else (if x0 = 1 then some (0, μ, ν) else (if x0 = 2 then some (1100, μ, ν) else (if x0 = 3 then some (1100, μ, ν) else (if x0 = 4 then some (0, μ, ν) else (if x0 = 5 then some (1, μ, ν) else (if x0 = 6 then some (0, μ, ν) else (if x0 = 7 then some (1, μ, ν) else (if x0 = 8 then some (1, μ, ν) else (if x0 = 9 then some (0, μ, ν) else (if x0 = 10 then some (1, μ, ν) else (if x0 = 11 then some (1, μ, ν) else (if x0 = 12 then some (1, μ, ν) else (if x0 = 13 then some (1, μ, ν) else (if x0 = 14 then some (10, μ, ν) else (if x0 = 15 then some (0, μ, ν) else (if x0 = 16 then some (0, μ, ν) else (if x0 = 17 then some (0, μ, ν) else (if x0 = 18 then some (1, μ, ν) else some (0, μ, ν))))))))))))))))))))
theorem z_M_leastOf_0 {l : Launch} {D : va_G} {dA : Nat → ClassId} {ad : Nat → Nat} {sh : List zSE}    {x0 : Int32} {μ : zI} {ν : zJ} {out : (Int32 × zI × zJ)} (hF : e_M_leastOf_0   x0 μ ν = some out) : Z l D dA ad sh m_M_leastOf (zR 0 0 0) (zS ad) (zOi out) 0 0 0 0 [] 0 [(0, .int x0)] [] μ ν := by
  unfold e_M_leastOf_0 at hF
  refine z_iload_n d_M_leastOf_0 0 rfl rfl ?_
  by_cases cy1 : x0 = 0
  · replace hF := zh_t cy1 hF
    refine z_tabIn d_M_leastOf_1 (tgt := 92) 0 cy1 (by decide) (by decide) (off := 91) (by decide) (by decide) ?_
    refine z_sipush d_M_leastOf_92 (v := 1000) (by decide) ?_
    cases hF
    exact z_ireturn d_M_leastOf_95 rfl rfl ⟨rfl, rfl, rfl⟩
  · replace hF := zh_f cy1 hF
    by_cases cy2 : x0 = 1
    · replace hF := zh_t cy2 hF
      refine z_tabIn d_M_leastOf_1 (tgt := 105) 1 cy2 (by decide) (by decide) (off := 104) (by decide) (by decide) ?_
      refine z_iconst d_M_leastOf_105 (v := 0) (by decide) ?_
      cases hF
      exact z_ireturn d_M_leastOf_106 rfl rfl ⟨rfl, rfl, rfl⟩
    · replace hF := zh_f cy2 hF
      by_cases cy3 : x0 = 2
      · replace hF := zh_t cy3 hF
        refine z_tabIn d_M_leastOf_1 (tgt := 96) 2 cy3 (by decide) (by decide) (off := 95) (by decide) (by decide) ?_
        refine z_sipush d_M_leastOf_96 (v := 1100) (by decide) ?_
        cases hF
        exact z_ireturn d_M_leastOf_99 rfl rfl ⟨rfl, rfl, rfl⟩
      · replace hF := zh_f cy3 hF
        by_cases cy4 : x0 = 3
        · replace hF := zh_t cy4 hF
          refine z_tabIn d_M_leastOf_1 (tgt := 96) 3 cy4 (by decide) (by decide) (off := 95) (by decide) (by decide) ?_
          refine z_sipush d_M_leastOf_96 (v := 1100) (by decide) ?_
          cases hF
          exact z_ireturn d_M_leastOf_99 rfl rfl ⟨rfl, rfl, rfl⟩
        · replace hF := zh_f cy4 hF
          by_cases cy5 : x0 = 4
          · replace hF := zh_t cy5 hF
            refine z_tabIn d_M_leastOf_1 (tgt := 105) 4 cy5 (by decide) (by decide) (off := 104) (by decide) (by decide) ?_
            refine z_iconst d_M_leastOf_105 (v := 0) (by decide) ?_
            cases hF
            exact z_ireturn d_M_leastOf_106 rfl rfl ⟨rfl, rfl, rfl⟩
          · replace hF := zh_f cy5 hF
            by_cases cy6 : x0 = 5
            · replace hF := zh_t cy6 hF
              refine z_tabIn d_M_leastOf_1 (tgt := 100) 5 cy6 (by decide) (by decide) (off := 99) (by decide) (by decide) ?_
              refine z_iconst d_M_leastOf_100 (v := 1) (by decide) ?_
              cases hF
              exact z_ireturn d_M_leastOf_101 rfl rfl ⟨rfl, rfl, rfl⟩
            · replace hF := zh_f cy6 hF
              by_cases cy7 : x0 = 6
              · replace hF := zh_t cy7 hF
                refine z_tabIn d_M_leastOf_1 (tgt := 105) 6 cy7 (by decide) (by decide) (off := 104) (by decide) (by decide) ?_
                refine z_iconst d_M_leastOf_105 (v := 0) (by decide) ?_
                cases hF
                exact z_ireturn d_M_leastOf_106 rfl rfl ⟨rfl, rfl, rfl⟩
              · replace hF := zh_f cy7 hF
                by_cases cy8 : x0 = 7
                · replace hF := zh_t cy8 hF
                  refine z_tabIn d_M_leastOf_1 (tgt := 100) 7 cy8 (by decide) (by decide) (off := 99) (by decide) (by decide) ?_
                  refine z_iconst d_M_leastOf_100 (v := 1) (by decide) ?_
                  cases hF
                  exact z_ireturn d_M_leastOf_101 rfl rfl ⟨rfl, rfl, rfl⟩
                · replace hF := zh_f cy8 hF
                  by_cases cy9 : x0 = 8
                  · replace hF := zh_t cy9 hF
                    refine z_tabIn d_M_leastOf_1 (tgt := 100) 8 cy9 (by decide) (by decide) (off := 99) (by decide) (by decide) ?_
                    refine z_iconst d_M_leastOf_100 (v := 1) (by decide) ?_
                    cases hF
                    exact z_ireturn d_M_leastOf_101 rfl rfl ⟨rfl, rfl, rfl⟩
                  · replace hF := zh_f cy9 hF
                    by_cases cy10 : x0 = 9
                    · replace hF := zh_t cy10 hF
                      refine z_tabIn d_M_leastOf_1 (tgt := 105) 9 cy10 (by decide) (by decide) (off := 104) (by decide) (by decide) ?_
                      refine z_iconst d_M_leastOf_105 (v := 0) (by decide) ?_
                      cases hF
                      exact z_ireturn d_M_leastOf_106 rfl rfl ⟨rfl, rfl, rfl⟩
                    · replace hF := zh_f cy10 hF
                      by_cases cy11 : x0 = 10
                      · replace hF := zh_t cy11 hF
                        refine z_tabIn d_M_leastOf_1 (tgt := 100) 10 cy11 (by decide) (by decide) (off := 99) (by decide) (by decide) ?_
                        refine z_iconst d_M_leastOf_100 (v := 1) (by decide) ?_
                        cases hF
                        exact z_ireturn d_M_leastOf_101 rfl rfl ⟨rfl, rfl, rfl⟩
                      · replace hF := zh_f cy11 hF
                        by_cases cy12 : x0 = 11
                        · replace hF := zh_t cy12 hF
                          refine z_tabIn d_M_leastOf_1 (tgt := 100) 11 cy12 (by decide) (by decide) (off := 99) (by decide) (by decide) ?_
                          refine z_iconst d_M_leastOf_100 (v := 1) (by decide) ?_
                          cases hF
                          exact z_ireturn d_M_leastOf_101 rfl rfl ⟨rfl, rfl, rfl⟩
                        · replace hF := zh_f cy12 hF
                          by_cases cy13 : x0 = 12
                          · replace hF := zh_t cy13 hF
                            refine z_tabIn d_M_leastOf_1 (tgt := 100) 12 cy13 (by decide) (by decide) (off := 99) (by decide) (by decide) ?_
                            refine z_iconst d_M_leastOf_100 (v := 1) (by decide) ?_
                            cases hF
                            exact z_ireturn d_M_leastOf_101 rfl rfl ⟨rfl, rfl, rfl⟩
                          · replace hF := zh_f cy13 hF
                            by_cases cy14 : x0 = 13
                            · replace hF := zh_t cy14 hF
                              refine z_tabIn d_M_leastOf_1 (tgt := 100) 13 cy14 (by decide) (by decide) (off := 99) (by decide) (by decide) ?_
                              refine z_iconst d_M_leastOf_100 (v := 1) (by decide) ?_
                              cases hF
                              exact z_ireturn d_M_leastOf_101 rfl rfl ⟨rfl, rfl, rfl⟩
                            · replace hF := zh_f cy14 hF
                              by_cases cy15 : x0 = 14
                              · replace hF := zh_t cy15 hF
                                refine z_tabIn d_M_leastOf_1 (tgt := 102) 14 cy15 (by decide) (by decide) (off := 101) (by decide) (by decide) ?_
                                refine z_bipush d_M_leastOf_102 (v := 10) (by decide) ?_
                                cases hF
                                exact z_ireturn d_M_leastOf_104 rfl rfl ⟨rfl, rfl, rfl⟩
                              · replace hF := zh_f cy15 hF
                                by_cases cy16 : x0 = 15
                                · replace hF := zh_t cy16 hF
                                  refine z_tabIn d_M_leastOf_1 (tgt := 105) 15 cy16 (by decide) (by decide) (off := 104) (by decide) (by decide) ?_
                                  refine z_iconst d_M_leastOf_105 (v := 0) (by decide) ?_
                                  cases hF
                                  exact z_ireturn d_M_leastOf_106 rfl rfl ⟨rfl, rfl, rfl⟩
                                · replace hF := zh_f cy16 hF
                                  by_cases cy17 : x0 = 16
                                  · replace hF := zh_t cy17 hF
                                    refine z_tabIn d_M_leastOf_1 (tgt := 105) 16 cy17 (by decide) (by decide) (off := 104) (by decide) (by decide) ?_
                                    refine z_iconst d_M_leastOf_105 (v := 0) (by decide) ?_
                                    cases hF
                                    exact z_ireturn d_M_leastOf_106 rfl rfl ⟨rfl, rfl, rfl⟩
                                  · replace hF := zh_f cy17 hF
                                    by_cases cy18 : x0 = 17
                                    · replace hF := zh_t cy18 hF
                                      refine z_tabIn d_M_leastOf_1 (tgt := 105) 17 cy18 (by decide) (by decide) (off := 104) (by decide) (by decide) ?_
                                      refine z_iconst d_M_leastOf_105 (v := 0) (by decide) ?_
                                      cases hF
                                      exact z_ireturn d_M_leastOf_106 rfl rfl ⟨rfl, rfl, rfl⟩
                                    · replace hF := zh_f cy18 hF
                                      by_cases cy19 : x0 = 18
                                      · replace hF := zh_t cy19 hF
                                        refine z_tabIn d_M_leastOf_1 (tgt := 100) 18 cy19 (by decide) (by decide) (off := 99) (by decide) (by decide) ?_
                                        refine z_iconst d_M_leastOf_100 (v := 1) (by decide) ?_
                                        cases hF
                                        exact z_ireturn d_M_leastOf_101 rfl rfl ⟨rfl, rfl, rfl⟩
                                      · replace hF := zh_f cy19 hF
                                        refine z_tabOut d_M_leastOf_1 (tgt := 105) [0, 1, 2, 3, 4, 5, 6, 7, 8, 9, 10, 11, 12, 13, 14, 15, 16, 17, 18] (List.forall_mem_cons.mpr ⟨cy1, List.forall_mem_cons.mpr ⟨cy2, List.forall_mem_cons.mpr ⟨cy3, List.forall_mem_cons.mpr ⟨cy4, List.forall_mem_cons.mpr ⟨cy5, List.forall_mem_cons.mpr ⟨cy6, List.forall_mem_cons.mpr ⟨cy7, List.forall_mem_cons.mpr ⟨cy8, List.forall_mem_cons.mpr ⟨cy9, List.forall_mem_cons.mpr ⟨cy10, List.forall_mem_cons.mpr ⟨cy11, List.forall_mem_cons.mpr ⟨cy12, List.forall_mem_cons.mpr ⟨cy13, List.forall_mem_cons.mpr ⟨cy14, List.forall_mem_cons.mpr ⟨cy15, List.forall_mem_cons.mpr ⟨cy16, List.forall_mem_cons.mpr ⟨cy17, List.forall_mem_cons.mpr ⟨cy18, List.forall_mem_cons.mpr ⟨cy19, fun _ h => absurd h List.not_mem_nil⟩⟩⟩⟩⟩⟩⟩⟩⟩⟩⟩⟩⟩⟩⟩⟩⟩⟩⟩) (by decide) (by decide) ?_
                                        refine z_iconst d_M_leastOf_105 (v := 0) (by decide) ?_
                                        cases hF
                                        exact z_ireturn d_M_leastOf_106 rfl rfl ⟨rfl, rfl, rfl⟩
def E_M_leastOf  (x0 : Int32) (μ : zI) (ν : zJ) : Option (Int32 × zI × zJ) := e_M_leastOf_0 x0 μ ν
theorem c_M_leastOf {l : Launch} {D : va_G} {dA : Nat → ClassId} {ad : Nat → Nat} {sh : List zSE} {μ : zI} {ν : zJ} {x0 : Int32}  {out : (Int32 × zI × zJ)} (hE : E_M_leastOf x0 μ ν = some out) : zC l D dA ad sh m_M_leastOf 0 0 0 [.int x0] μ ν (zOi out) :=
  zC.of (by decide) (Nat.le_of_ble_eq_true rfl) (z_M_leastOf_0  hE)
def e_M_mostOf_0   (x0 : Int32) (μ : zI) (ν : zJ) : Option (Int32 × zI × zJ) := (if x0 = 0 then some (99999, μ, ν) else (if x0 = 1 then some (999, μ, ν) else (if x0 = 2 then some (2000, μ, ν) else (if x0 = 3 then some (0, μ, ν) else (if x0 = 4 then some (100, μ, ν) else (if x0 = 5 then some (200, μ, ν) else (if x0 = 6 then some (99999, μ, ν) else (if x0 = 7 then some (5000, μ, ν) else (if x0 = 8 then some (20, μ, ν) else (if x0 = 9 then some (1000, μ, ν) else (if x0 = 10 then some (99, μ, ν) else (if x0 = 11 then some (99999, μ, ν) else (if x0 = 12 then some (64, μ, ν) else (if x0 = 13 then some (9, μ, ν) else (if x0 = 14 then some (200, μ, ν) else (if x0 = 15 then some (500, μ, ν) else (if x0 = 16 then some (100, μ, ν) else (if x0 = 17 then some (2, μ, ν) else (if x0 = 18 then some (99, μ, ν) else some (0, μ, ν))))))))))))))))))))
theorem z_M_mostOf_0 {l : Launch} {D : va_G} {dA : Nat → ClassId} {ad : Nat → Nat} {sh : List zSE}    {x0 : Int32} {μ : zI} {ν : zJ} {out : (Int32 × zI × zJ)} (hF : e_M_mostOf_0   x0 μ ν = some out) : Z l D dA ad sh m_M_mostOf (zR 0 0 0) (zS ad) (zOi out) 0 0 0 0 [] 0 [(0, .int x0)] [] μ ν := by
  unfold e_M_mostOf_0 at hF
  refine z_iload_n d_M_mostOf_0 0 rfl rfl ?_
  by_cases cy1 : x0 = 0
  · replace hF := zh_t cy1 hF
    refine z_tabIn d_M_mostOf_1 (tgt := 92) 0 cy1 (by decide) (by decide) (off := 91) (by decide) (by decide) ?_
    refine z_ldc d_M_mostOf_92 k_M_90 ?_
    cases hF
    exact z_ireturn d_M_mostOf_94 rfl rfl ⟨rfl, rfl, rfl⟩
  · replace hF := zh_f cy1 hF
    by_cases cy2 : x0 = 1
    · replace hF := zh_t cy2 hF
      refine z_tabIn d_M_mostOf_1 (tgt := 95) 1 cy2 (by decide) (by decide) (off := 94) (by decide) (by decide) ?_
      refine z_sipush d_M_mostOf_95 (v := 999) (by decide) ?_
      cases hF
      exact z_ireturn d_M_mostOf_98 rfl rfl ⟨rfl, rfl, rfl⟩
    · replace hF := zh_f cy2 hF
      by_cases cy3 : x0 = 2
      · replace hF := zh_t cy3 hF
        refine z_tabIn d_M_mostOf_1 (tgt := 99) 2 cy3 (by decide) (by decide) (off := 98) (by decide) (by decide) ?_
        refine z_sipush d_M_mostOf_99 (v := 2000) (by decide) ?_
        cases hF
        exact z_ireturn d_M_mostOf_102 rfl rfl ⟨rfl, rfl, rfl⟩
      · replace hF := zh_f cy3 hF
        by_cases cy4 : x0 = 3
        · replace hF := zh_t cy4 hF
          refine z_tabIn d_M_mostOf_1 (tgt := 136) 3 cy4 (by decide) (by decide) (off := 135) (by decide) (by decide) ?_
          refine z_iconst d_M_mostOf_136 (v := 0) (by decide) ?_
          cases hF
          exact z_ireturn d_M_mostOf_137 rfl rfl ⟨rfl, rfl, rfl⟩
        · replace hF := zh_f cy4 hF
          by_cases cy5 : x0 = 4
          · replace hF := zh_t cy5 hF
            refine z_tabIn d_M_mostOf_1 (tgt := 103) 4 cy5 (by decide) (by decide) (off := 102) (by decide) (by decide) ?_
            refine z_bipush d_M_mostOf_103 (v := 100) (by decide) ?_
            cases hF
            exact z_ireturn d_M_mostOf_105 rfl rfl ⟨rfl, rfl, rfl⟩
          · replace hF := zh_f cy5 hF
            by_cases cy6 : x0 = 5
            · replace hF := zh_t cy6 hF
              refine z_tabIn d_M_mostOf_1 (tgt := 106) 5 cy6 (by decide) (by decide) (off := 105) (by decide) (by decide) ?_
              refine z_sipush d_M_mostOf_106 (v := 200) (by decide) ?_
              cases hF
              exact z_ireturn d_M_mostOf_109 rfl rfl ⟨rfl, rfl, rfl⟩
            · replace hF := zh_f cy6 hF
              by_cases cy7 : x0 = 6
              · replace hF := zh_t cy7 hF
                refine z_tabIn d_M_mostOf_1 (tgt := 92) 6 cy7 (by decide) (by decide) (off := 91) (by decide) (by decide) ?_
                refine z_ldc d_M_mostOf_92 k_M_90 ?_
                cases hF
                exact z_ireturn d_M_mostOf_94 rfl rfl ⟨rfl, rfl, rfl⟩
              · replace hF := zh_f cy7 hF
                by_cases cy8 : x0 = 7
                · replace hF := zh_t cy8 hF
                  refine z_tabIn d_M_mostOf_1 (tgt := 110) 7 cy8 (by decide) (by decide) (off := 109) (by decide) (by decide) ?_
                  refine z_sipush d_M_mostOf_110 (v := 5000) (by decide) ?_
                  cases hF
                  exact z_ireturn d_M_mostOf_113 rfl rfl ⟨rfl, rfl, rfl⟩
                · replace hF := zh_f cy8 hF
                  by_cases cy9 : x0 = 8
                  · replace hF := zh_t cy9 hF
                    refine z_tabIn d_M_mostOf_1 (tgt := 114) 8 cy9 (by decide) (by decide) (off := 113) (by decide) (by decide) ?_
                    refine z_bipush d_M_mostOf_114 (v := 20) (by decide) ?_
                    cases hF
                    exact z_ireturn d_M_mostOf_116 rfl rfl ⟨rfl, rfl, rfl⟩
                  · replace hF := zh_f cy9 hF
                    by_cases cy10 : x0 = 9
                    · replace hF := zh_t cy10 hF
                      refine z_tabIn d_M_mostOf_1 (tgt := 117) 9 cy10 (by decide) (by decide) (off := 116) (by decide) (by decide) ?_
                      refine z_sipush d_M_mostOf_117 (v := 1000) (by decide) ?_
                      cases hF
                      exact z_ireturn d_M_mostOf_120 rfl rfl ⟨rfl, rfl, rfl⟩
                    · replace hF := zh_f cy10 hF
                      by_cases cy11 : x0 = 10
                      · replace hF := zh_t cy11 hF
                        refine z_tabIn d_M_mostOf_1 (tgt := 121) 10 cy11 (by decide) (by decide) (off := 120) (by decide) (by decide) ?_
                        refine z_bipush d_M_mostOf_121 (v := 99) (by decide) ?_
                        cases hF
                        exact z_ireturn d_M_mostOf_123 rfl rfl ⟨rfl, rfl, rfl⟩
                      · replace hF := zh_f cy11 hF
                        by_cases cy12 : x0 = 11
                        · replace hF := zh_t cy12 hF
                          refine z_tabIn d_M_mostOf_1 (tgt := 92) 11 cy12 (by decide) (by decide) (off := 91) (by decide) (by decide) ?_
                          refine z_ldc d_M_mostOf_92 k_M_90 ?_
                          cases hF
                          exact z_ireturn d_M_mostOf_94 rfl rfl ⟨rfl, rfl, rfl⟩
                        · replace hF := zh_f cy12 hF
                          by_cases cy13 : x0 = 12
                          · replace hF := zh_t cy13 hF
                            refine z_tabIn d_M_mostOf_1 (tgt := 124) 12 cy13 (by decide) (by decide) (off := 123) (by decide) (by decide) ?_
                            refine z_bipush d_M_mostOf_124 (v := 64) (by decide) ?_
                            cases hF
                            exact z_ireturn d_M_mostOf_126 rfl rfl ⟨rfl, rfl, rfl⟩
                          · replace hF := zh_f cy13 hF
                            by_cases cy14 : x0 = 13
                            · replace hF := zh_t cy14 hF
                              refine z_tabIn d_M_mostOf_1 (tgt := 127) 13 cy14 (by decide) (by decide) (off := 126) (by decide) (by decide) ?_
                              refine z_bipush d_M_mostOf_127 (v := 9) (by decide) ?_
                              cases hF
                              exact z_ireturn d_M_mostOf_129 rfl rfl ⟨rfl, rfl, rfl⟩
                            · replace hF := zh_f cy14 hF
                              by_cases cy15 : x0 = 14
                              · replace hF := zh_t cy15 hF
                                refine z_tabIn d_M_mostOf_1 (tgt := 106) 14 cy15 (by decide) (by decide) (off := 105) (by decide) (by decide) ?_
                                refine z_sipush d_M_mostOf_106 (v := 200) (by decide) ?_
                                cases hF
                                exact z_ireturn d_M_mostOf_109 rfl rfl ⟨rfl, rfl, rfl⟩
                              · replace hF := zh_f cy15 hF
                                by_cases cy16 : x0 = 15
                                · replace hF := zh_t cy16 hF
                                  refine z_tabIn d_M_mostOf_1 (tgt := 130) 15 cy16 (by decide) (by decide) (off := 129) (by decide) (by decide) ?_
                                  refine z_sipush d_M_mostOf_130 (v := 500) (by decide) ?_
                                  cases hF
                                  exact z_ireturn d_M_mostOf_133 rfl rfl ⟨rfl, rfl, rfl⟩
                                · replace hF := zh_f cy16 hF
                                  by_cases cy17 : x0 = 16
                                  · replace hF := zh_t cy17 hF
                                    refine z_tabIn d_M_mostOf_1 (tgt := 103) 16 cy17 (by decide) (by decide) (off := 102) (by decide) (by decide) ?_
                                    refine z_bipush d_M_mostOf_103 (v := 100) (by decide) ?_
                                    cases hF
                                    exact z_ireturn d_M_mostOf_105 rfl rfl ⟨rfl, rfl, rfl⟩
                                  · replace hF := zh_f cy17 hF
                                    by_cases cy18 : x0 = 17
                                    · replace hF := zh_t cy18 hF
                                      refine z_tabIn d_M_mostOf_1 (tgt := 134) 17 cy18 (by decide) (by decide) (off := 133) (by decide) (by decide) ?_
                                      refine z_iconst d_M_mostOf_134 (v := 2) (by decide) ?_
                                      cases hF
                                      exact z_ireturn d_M_mostOf_135 rfl rfl ⟨rfl, rfl, rfl⟩
                                    · replace hF := zh_f cy18 hF
                                      by_cases cy19 : x0 = 18
                                      · replace hF := zh_t cy19 hF
                                        refine z_tabIn d_M_mostOf_1 (tgt := 121) 18 cy19 (by decide) (by decide) (off := 120) (by decide) (by decide) ?_
                                        refine z_bipush d_M_mostOf_121 (v := 99) (by decide) ?_
                                        cases hF
                                        exact z_ireturn d_M_mostOf_123 rfl rfl ⟨rfl, rfl, rfl⟩
                                      · replace hF := zh_f cy19 hF
                                        refine z_tabOut d_M_mostOf_1 (tgt := 136) [0, 1, 2, 3, 4, 5, 6, 7, 8, 9, 10, 11, 12, 13, 14, 15, 16, 17, 18] (List.forall_mem_cons.mpr ⟨cy1, List.forall_mem_cons.mpr ⟨cy2, List.forall_mem_cons.mpr ⟨cy3, List.forall_mem_cons.mpr ⟨cy4, List.forall_mem_cons.mpr ⟨cy5, List.forall_mem_cons.mpr ⟨cy6, List.forall_mem_cons.mpr ⟨cy7, List.forall_mem_cons.mpr ⟨cy8, List.forall_mem_cons.mpr ⟨cy9, List.forall_mem_cons.mpr ⟨cy10, List.forall_mem_cons.mpr ⟨cy11, List.forall_mem_cons.mpr ⟨cy12, List.forall_mem_cons.mpr ⟨cy13, List.forall_mem_cons.mpr ⟨cy14, List.forall_mem_cons.mpr ⟨cy15, List.forall_mem_cons.mpr ⟨cy16, List.forall_mem_cons.mpr ⟨cy17, List.forall_mem_cons.mpr ⟨cy18, List.forall_mem_cons.mpr ⟨cy19, fun _ h => absurd h List.not_mem_nil⟩⟩⟩⟩⟩⟩⟩⟩⟩⟩⟩⟩⟩⟩⟩⟩⟩⟩⟩) (by decide) (by decide) ?_
                                        refine z_iconst d_M_mostOf_136 (v := 0) (by decide) ?_
                                        cases hF
                                        exact z_ireturn d_M_mostOf_137 rfl rfl ⟨rfl, rfl, rfl⟩
def E_M_mostOf  (x0 : Int32) (μ : zI) (ν : zJ) : Option (Int32 × zI × zJ) := e_M_mostOf_0 x0 μ ν
theorem c_M_mostOf {l : Launch} {D : va_G} {dA : Nat → ClassId} {ad : Nat → Nat} {sh : List zSE} {μ : zI} {ν : zJ} {x0 : Int32}  {out : (Int32 × zI × zJ)} (hE : E_M_mostOf x0 μ ν = some out) : zC l D dA ad sh m_M_mostOf 0 0 0 [.int x0] μ ν (zOi out) :=
  zC.of (by decide) (Nat.le_of_ble_eq_true rfl) (z_M_mostOf_0  hE)
def e_M_fault_29 (q : Nat)  (x1 : Int32) (s0 : Int32) (μ : zI) (ν : zJ) : Option (Int32 × zI × zJ) := some (s0, μ, ν)
theorem z_M_fault_29 {l : Launch} {D : va_G} {dA : Nat → ClassId} {ad : Nat → Nat} {sh : List zSE}  {q : Nat} (hm : zMo sh q)  {x1 : Int32} {s0 : Int32} {μ : zI} {ν : zJ} {out : (Int32 × zI × zJ)} (hF : e_M_fault_29 q  x1 s0 μ ν = some out) : Z l D dA ad sh m_M_fault (zR 0 0 0) (zS ad) (zOi out) 0 0 0 0 [] 29 [(0, .ref (ad q)), (1, .int x1)] [.int s0] μ ν := by
  unfold e_M_fault_29 at hF
  cases hF
  exact z_ireturn d_M_fault_29 rfl rfl ⟨rfl, rfl, rfl⟩
def e_M_fault_0 (q : Nat)  (x1 : Int32) (μ : zI) (ν : zJ) : Option (Int32 × zI × zJ) := zlet (zu μ q 0 0) fun μy1 => (if x1 = 0 then e_M_fault_29 q x1 (μy1 q 21) μy1 ν else (if x1 = 1 then e_M_fault_29 q x1 (μy1 q 22) μy1 ν else e_M_fault_29 q x1 (-1) μy1 ν))
theorem z_M_fault_0 {l : Launch} {D : va_G} {dA : Nat → ClassId} {ad : Nat → Nat} {sh : List zSE}  {q : Nat} (hm : zMo sh q)  {x1 : Int32} {μ : zI} {ν : zJ} {out : (Int32 × zI × zJ)} (hF : e_M_fault_0 q  x1 μ ν = some out) : Z l D dA ad sh m_M_fault (zR 0 0 0) (zS ad) (zOi out) 0 0 0 0 [] 0 [(0, .ref (ad q)), (1, .int x1)] [] μ ν := by
  unfold e_M_fault_0 at hF
  refine z_aload_n d_M_fault_0 0 rfl rfl ?_
  refine z_iconst d_M_fault_1 (v := 0) (by decide) ?_
  refine z_put d_M_fault_2 f_M_55 (hm 0 _ rfl) rfl (CL_fin _ _ (fun q hq => by cases hq; rfl)) rfl rfl ?_
  obtain ⟨μy1, hy1, hF⟩ := zh_let hF
  refine z_eqm hy1 ?_
  refine z_iload_n d_M_fault_5 1 rfl rfl ?_
  refine z_if_ne d_M_fault_6 (tgt := 16) (by decide) (fun cy2 => ?_) (fun cy2 => ?_)
  · replace hF := zh_f cy2 hF
    refine z_iload_n d_M_fault_16 1 rfl rfl ?_
    refine z_iconst d_M_fault_17 (v := 1) (by decide) ?_
    refine z_icmp_ne d_M_fault_18 (tgt := 28) (by decide) (fun cy3 => ?_) (fun cy3 => ?_)
    · replace hF := zh_f cy3 hF
      refine z_iconst d_M_fault_28 (v := (-1)) (by decide) ?_
      exact z_M_fault_29 hm  hF
    · replace hF := zh_t cy3 hF
      refine z_aload_n d_M_fault_21 0 rfl rfl ?_
      refine z_get d_M_fault_22 f_M_29 (hm 0 _ rfl) rfl ?_
      refine z_goto d_M_fault_25 (tgt := 29) (by decide) ?_
      exact z_M_fault_29 hm  hF
  · replace hF := zh_t cy2 hF
    refine z_aload_n d_M_fault_9 0 rfl rfl ?_
    refine z_get d_M_fault_10 f_M_165 (hm 0 _ rfl) rfl ?_
    refine z_goto d_M_fault_13 (tgt := 29) (by decide) ?_
    exact z_M_fault_29 hm  hF
def E_M_fault (q : Nat) (x1 : Int32) (μ : zI) (ν : zJ) : Option (Int32 × zI × zJ) := e_M_fault_0 q x1 μ ν
theorem c_M_fault {l : Launch} {D : va_G} {dA : Nat → ClassId} {ad : Nat → Nat} {sh : List zSE} {μ : zI} {ν : zJ} {q : Nat} {x1 : Int32} (hm : zMo sh q) {out : (Int32 × zI × zJ)} (hE : E_M_fault q x1 μ ν = some out) : zC l D dA ad sh m_M_fault 0 0 0 [.ref (ad q), .int x1] μ ν (zOi out) :=
  zC.of (by decide) (Nat.le_of_ble_eq_true rfl) (z_M_fault_0 hm hE)
def f_M_removes_15 (q : Nat)  : Nat → Int32 → Int32 → zI → zJ → Option (zI × zJ)
  | 0, _, _, _, _ => none
  | n + 1, x1, x2, μ, ν => (if (4 * (μ (q + 7) 46)) ≤ x2 then some (μ, ν) else (if zin ((47 + x2) + 4) 146 = true then (if zin (47 + x2) 146 = true then zlet (zu μ (q + 7) (Int32.toNatClampNeg (47 + x2)) (μ (q + 7) (Int32.toNatClampNeg ((47 + x2) + 4)))) fun μy4 => (f_M_removes_15 q n) x1 (x2 + 1) μy4 ν else none) else none))
theorem z_M_removes_15 {l : Launch} {D : va_G} {dA : Nat → ClassId} {ad : Nat → Nat} {sh : List zSE}  {q : Nat} (hm : zMo sh q)  {out : (zI × zJ)} : ∀ (n : Nat) (x1 : Int32) (x2 : Int32) (μ : zI) (ν : zJ), f_M_removes_15 q  n x1 x2 μ ν = some out → Z l D dA ad sh m_M_removes (zR 0 0 0) (zS ad) (zOv out) 0 0 0 0 [] 15 [(0, .ref (ad q)), (1, .int x1), (2, .int x2)] [] μ ν := by
  intro n
  induction n with
  | zero => intro x1 x2 μ ν hF; cases hF
  | succ n ih =>
    intro x1 x2 μ ν hF
    dsimp only [f_M_removes_15] at hF
    refine z_iload_n d_M_removes_15 2 rfl rfl ?_
    refine z_iconst d_M_removes_16 (v := 4) (by decide) ?_
    refine z_aload_n d_M_removes_17 0 rfl rfl ?_
    refine z_getr d_M_removes_18 (q := (q + 7)) f_M_33 (hm 0 _ rfl) rfl ?_
    refine z_bipush d_M_removes_21 (v := 46) (by decide) ?_
    refine z_iald d_M_removes_23 (hm 7 _ rfl) (zin_vp rfl) ?_
    show Z _ _ _ _ _ _ _ _ _ _ _ _ _ _ _ _ [.int (μ (q + 7) 46), .int 4, .int x2] _ _
    refine z_imul d_M_removes_24 ?_
    refine z_icmp_ge d_M_removes_25 (tgt := 54) (by decide) (fun cy1 => ?_) (fun cy1 => ?_)
    · replace hF := zh_t cy1 hF
      cases hF
      exact z_return d_M_removes_54 rfl ⟨rfl, rfl, rfl⟩
    · replace hF := zh_f cy1 hF
      refine z_aload_n d_M_removes_28 0 rfl rfl ?_
      refine z_getr d_M_removes_29 (q := (q + 7)) f_M_33 (hm 0 _ rfl) rfl ?_
      refine z_bipush d_M_removes_32 (v := 47) (by decide) ?_
      refine z_iload_n d_M_removes_34 2 rfl rfl ?_
      refine z_iadd d_M_removes_35 ?_
      refine z_aload_n d_M_removes_36 0 rfl rfl ?_
      refine z_getr d_M_removes_37 (q := (q + 7)) f_M_33 (hm 0 _ rfl) rfl ?_
      refine z_bipush d_M_removes_40 (v := 47) (by decide) ?_
      refine z_iload_n d_M_removes_42 2 rfl rfl ?_
      refine z_iadd d_M_removes_43 ?_
      refine z_iconst d_M_removes_44 (v := 4) (by decide) ?_
      refine z_iadd d_M_removes_45 ?_
      obtain ⟨hy2, hF⟩ := zh_if hF
      refine z_iald d_M_removes_46 (hm 7 _ rfl) (zin_vp hy2) ?_
      obtain ⟨hy3, hF⟩ := zh_if hF
      refine z_iast d_M_removes_47 (hm 7 _ rfl) (zin_vp hy3) ?_
      obtain ⟨μy4, hy4, hF⟩ := zh_let hF
      refine z_eqm hy4 ?_
      refine z_iinc d_M_removes_48 (k := 2) (v := (x2 + 1)) rfl rfl (by decide) (L2 := [(2, .int (x2 + 1)), (0, .ref (ad q)), (1, .int x1)]) rfl ?_
      refine z_goto d_M_removes_51 (tgt := 15) (by decide) ?_
      refine z_sub [1, 2, 0] (L' := [(0, .ref (ad q)), (1, .int x1), (2, .int (x2 + 1))]) rfl ?_
      exact ih _ _ _ _ hF
def e_M_removes_0 (q : Nat)  (x1 : Int32) (μ : zI) (ν : zJ) : Option (zI × zJ) := zlet (zu μ (q + 7) 46 ((μ (q + 7) 46) - 1)) fun μy1 => zlet (α := Int32) (4 * x1) fun y2 => f_M_removes_15 q zFuel x1 y2 μy1 ν
theorem z_M_removes_0 {l : Launch} {D : va_G} {dA : Nat → ClassId} {ad : Nat → Nat} {sh : List zSE}  {q : Nat} (hm : zMo sh q)  {x1 : Int32} {μ : zI} {ν : zJ} {out : (zI × zJ)} (hF : e_M_removes_0 q  x1 μ ν = some out) : Z l D dA ad sh m_M_removes (zR 0 0 0) (zS ad) (zOv out) 0 0 0 0 [] 0 [(0, .ref (ad q)), (1, .int x1)] [] μ ν := by
  unfold e_M_removes_0 at hF
  refine z_aload_n d_M_removes_0 0 rfl rfl ?_
  refine z_getr d_M_removes_1 (q := (q + 7)) f_M_33 (hm 0 _ rfl) rfl ?_
  refine z_bipush d_M_removes_4 (v := 46) (by decide) ?_
  refine z_dup2 d_M_removes_6 rfl rfl ?_
  refine z_iald d_M_removes_7 (hm 7 _ rfl) (zin_vp rfl) ?_
  show Z _ _ _ _ _ _ _ _ _ _ _ _ _ _ _ _ [.int (μ (q + 7) 46), .int 46, .ref (ad (q + 7))] _ _
  refine z_iconst d_M_removes_8 (v := 1) (by decide) ?_
  refine z_isub d_M_removes_9 ?_
  refine z_iast d_M_removes_10 (hm 7 _ rfl) (zin_vp rfl) ?_
  obtain ⟨μy1, hy1, hF⟩ := zh_let hF
  refine z_eqm hy1 ?_
  refine z_iconst d_M_removes_11 (v := 4) (by decide) ?_
  refine z_iload_n d_M_removes_12 1 rfl rfl ?_
  refine z_imul d_M_removes_13 ?_
  obtain ⟨y2, hy2, hF⟩ := zh_let hF
  refine z_eqi hy2 ?_
  refine z_istore_n d_M_removes_14 rfl (by decide) (L2 := [(2, .int y2), (0, .ref (ad q)), (1, .int x1)]) rfl ?_
  refine z_sub [1, 2, 0] (L' := [(0, .ref (ad q)), (1, .int x1), (2, .int y2)]) rfl ?_
  exact z_M_removes_15 hm  zFuel _ _ _ _ hF
def E_M_removes (q : Nat) (x1 : Int32) (μ : zI) (ν : zJ) : Option (zI × zJ) := e_M_removes_0 q x1 μ ν
theorem c_M_removes {l : Launch} {D : va_G} {dA : Nat → ClassId} {ad : Nat → Nat} {sh : List zSE} {μ : zI} {ν : zJ} {q : Nat} {x1 : Int32} (hm : zMo sh q) {out : (zI × zJ)} (hE : E_M_removes q x1 μ ν = some out) : zC l D dA ad sh m_M_removes 0 0 0 [.ref (ad q), .int x1] μ ν (zOv out) :=
  zC.of (by decide) (Nat.le_of_ble_eq_true rfl) (z_M_removes_0 hm hE)
def f_M_goesAside_29 (q : Nat)  : Nat → Int32 → zI → zJ → Option (zI × zJ)
  | 0, _, _, _ => none
  | n + 1, x1, μ, ν => (if 11 ≤ x1 then zlet (zu μ q 29 1) fun μy2 => some (μy2, ν) else (if zin x1 11 = true then (if zin x1 11 = true then zlet (zul ν (q + 10) (Int32.toNatClampNeg x1) (ν (q + 9) (Int32.toNatClampNeg x1))) fun νy5 => (f_M_goesAside_29 q n) (x1 + 1) μ νy5 else none) else none))
theorem z_M_goesAside_29 {l : Launch} {D : va_G} {dA : Nat → ClassId} {ad : Nat → Nat} {sh : List zSE}  {q : Nat} (hm : zMo sh q)  {out : (zI × zJ)} : ∀ (n : Nat) (x1 : Int32) (μ : zI) (ν : zJ), f_M_goesAside_29 q  n x1 μ ν = some out → Z l D dA ad sh m_M_goesAside (zR 0 0 0) (zS ad) (zOv out) 0 0 0 0 [] 29 [(0, .ref (ad q)), (1, .int x1)] [] μ ν := by
  intro n
  induction n with
  | zero => intro x1 μ ν hF; cases hF
  | succ n ih =>
    intro x1 μ ν hF
    dsimp only [f_M_goesAside_29] at hF
    refine z_iload_n d_M_goesAside_29 1 rfl rfl ?_
    refine z_bipush d_M_goesAside_30 (v := 11) (by decide) ?_
    refine z_icmp_ge d_M_goesAside_32 (tgt := 53) (by decide) (fun cy1 => ?_) (fun cy1 => ?_)
    · replace hF := zh_t cy1 hF
      refine z_aload_n d_M_goesAside_53 0 rfl rfl ?_
      refine z_iconst d_M_goesAside_54 (v := 1) (by decide) ?_
      refine z_put d_M_goesAside_55 f_M_178 (hm 0 _ rfl) rfl (CL_fin _ _ (fun q hq => by cases hq; rfl)) (by decide) (by decide) ?_
      obtain ⟨μy2, hy2, hF⟩ := zh_let hF
      refine z_eqm hy2 ?_
      cases hF
      exact z_return d_M_goesAside_58 rfl ⟨rfl, rfl, rfl⟩
    · replace hF := zh_f cy1 hF
      refine z_aload_n d_M_goesAside_35 0 rfl rfl ?_
      refine z_getr d_M_goesAside_36 (q := (q + 10)) f_M_43 (hm 0 _ rfl) rfl ?_
      refine z_iload_n d_M_goesAside_39 1 rfl rfl ?_
      refine z_aload_n d_M_goesAside_40 0 rfl rfl ?_
      refine z_getr d_M_goesAside_41 (q := (q + 9)) f_M_39 (hm 0 _ rfl) rfl ?_
      refine z_iload_n d_M_goesAside_44 1 rfl rfl ?_
      obtain ⟨hy3, hF⟩ := zh_if hF
      refine z_lald d_M_goesAside_45 (hm 9 _ rfl) (zin_vp hy3) ?_
      obtain ⟨hy4, hF⟩ := zh_if hF
      refine z_last d_M_goesAside_46 (hm 10 _ rfl) (zin_vp hy4) ?_
      obtain ⟨νy5, hy5, hF⟩ := zh_let hF
      refine z_eqn hy5 ?_
      refine z_iinc d_M_goesAside_47 (k := 1) (v := (x1 + 1)) rfl rfl (by decide) (L2 := [(1, .int (x1 + 1)), (0, .ref (ad q))]) rfl ?_
      refine z_goto d_M_goesAside_50 (tgt := 29) (by decide) ?_
      refine z_sub [1, 0] (L' := [(0, .ref (ad q)), (1, .int (x1 + 1))]) rfl ?_
      exact ih _ _ _ hF
def f_M_goesAside_2 (q : Nat)  : Nat → Int32 → zI → zJ → Option (zI × zJ)
  | 0, _, _, _ => none
  | n + 1, x1, μ, ν => (if 146 ≤ x1 then f_M_goesAside_29 q zFuel 0 μ ν else (if zin x1 146 = true then (if zin x1 146 = true then zlet (zu μ (q + 8) (Int32.toNatClampNeg x1) (μ (q + 7) (Int32.toNatClampNeg x1))) fun μy4 => (f_M_goesAside_2 q n) (x1 + 1) μy4 ν else none) else none))
theorem z_M_goesAside_2 {l : Launch} {D : va_G} {dA : Nat → ClassId} {ad : Nat → Nat} {sh : List zSE}  {q : Nat} (hm : zMo sh q)  {out : (zI × zJ)} : ∀ (n : Nat) (x1 : Int32) (μ : zI) (ν : zJ), f_M_goesAside_2 q  n x1 μ ν = some out → Z l D dA ad sh m_M_goesAside (zR 0 0 0) (zS ad) (zOv out) 0 0 0 0 [] 2 [(0, .ref (ad q)), (1, .int x1)] [] μ ν := by
  intro n
  induction n with
  | zero => intro x1 μ ν hF; cases hF
  | succ n ih =>
    intro x1 μ ν hF
    dsimp only [f_M_goesAside_2] at hF
    refine z_iload_n d_M_goesAside_2 1 rfl rfl ?_
    refine z_sipush d_M_goesAside_3 (v := 146) (by decide) ?_
    refine z_icmp_ge d_M_goesAside_6 (tgt := 27) (by decide) (fun cy1 => ?_) (fun cy1 => ?_)
    · replace hF := zh_t cy1 hF
      refine z_iconst d_M_goesAside_27 (v := 0) (by decide) ?_
      refine z_istore_n d_M_goesAside_28 rfl (by decide) (L2 := [(1, .int 0), (0, .ref (ad q))]) rfl ?_
      refine z_sub [1, 0] (L' := [(0, .ref (ad q)), (1, .int 0)]) rfl ?_
      exact z_M_goesAside_29 hm  zFuel _ _ _ hF
    · replace hF := zh_f cy1 hF
      refine z_aload_n d_M_goesAside_9 0 rfl rfl ?_
      refine z_getr d_M_goesAside_10 (q := (q + 8)) f_M_36 (hm 0 _ rfl) rfl ?_
      refine z_iload_n d_M_goesAside_13 1 rfl rfl ?_
      refine z_aload_n d_M_goesAside_14 0 rfl rfl ?_
      refine z_getr d_M_goesAside_15 (q := (q + 7)) f_M_33 (hm 0 _ rfl) rfl ?_
      refine z_iload_n d_M_goesAside_18 1 rfl rfl ?_
      obtain ⟨hy2, hF⟩ := zh_if hF
      refine z_iald d_M_goesAside_19 (hm 7 _ rfl) (zin_vp hy2) ?_
      obtain ⟨hy3, hF⟩ := zh_if hF
      refine z_iast d_M_goesAside_20 (hm 8 _ rfl) (zin_vp hy3) ?_
      obtain ⟨μy4, hy4, hF⟩ := zh_let hF
      refine z_eqm hy4 ?_
      refine z_iinc d_M_goesAside_21 (k := 1) (v := (x1 + 1)) rfl rfl (by decide) (L2 := [(1, .int (x1 + 1)), (0, .ref (ad q))]) rfl ?_
      refine z_goto d_M_goesAside_24 (tgt := 2) (by decide) ?_
      refine z_sub [1, 0] (L' := [(0, .ref (ad q)), (1, .int (x1 + 1))]) rfl ?_
      exact ih _ _ _ hF
def e_M_goesAside_0 (q : Nat)   (μ : zI) (ν : zJ) : Option (zI × zJ) := f_M_goesAside_2 q zFuel 0 μ ν
theorem z_M_goesAside_0 {l : Launch} {D : va_G} {dA : Nat → ClassId} {ad : Nat → Nat} {sh : List zSE}  {q : Nat} (hm : zMo sh q)   {μ : zI} {ν : zJ} {out : (zI × zJ)} (hF : e_M_goesAside_0 q   μ ν = some out) : Z l D dA ad sh m_M_goesAside (zR 0 0 0) (zS ad) (zOv out) 0 0 0 0 [] 0 [(0, .ref (ad q))] [] μ ν := by
  unfold e_M_goesAside_0 at hF
  refine z_iconst d_M_goesAside_0 (v := 0) (by decide) ?_
  refine z_istore_n d_M_goesAside_1 rfl (by decide) (L2 := [(1, .int 0), (0, .ref (ad q))]) rfl ?_
  refine z_sub [1, 0] (L' := [(0, .ref (ad q)), (1, .int 0)]) rfl ?_
  exact z_M_goesAside_2 hm  zFuel _ _ _ hF
def E_M_goesAside (q : Nat)  (μ : zI) (ν : zJ) : Option (zI × zJ) := e_M_goesAside_0 q μ ν
theorem c_M_goesAside {l : Launch} {D : va_G} {dA : Nat → ClassId} {ad : Nat → Nat} {sh : List zSE} {μ : zI} {ν : zJ} {q : Nat} (hm : zMo sh q) {out : (zI × zJ)} (hE : E_M_goesAside q μ ν = some out) : zC l D dA ad sh m_M_goesAside 0 0 0 [.ref (ad q)] μ ν (zOv out) :=
  zC.of (by decide) (Nat.le_of_ble_eq_true rfl) (z_M_goesAside_0 hm hE)
def f_M_comesBack_29 (q : Nat)  : Nat → Int32 → zI → zJ → Option (zI × zJ)
  | 0, _, _, _ => none
  | n + 1, x1, μ, ν => (if 11 ≤ x1 then zlet (zu μ q 29 0) fun μy2 => some (μy2, ν) else (if zin x1 11 = true then (if zin x1 11 = true then zlet (zul ν (q + 9) (Int32.toNatClampNeg x1) (ν (q + 10) (Int32.toNatClampNeg x1))) fun νy5 => (f_M_comesBack_29 q n) (x1 + 1) μ νy5 else none) else none))
theorem z_M_comesBack_29 {l : Launch} {D : va_G} {dA : Nat → ClassId} {ad : Nat → Nat} {sh : List zSE}  {q : Nat} (hm : zMo sh q)  {out : (zI × zJ)} : ∀ (n : Nat) (x1 : Int32) (μ : zI) (ν : zJ), f_M_comesBack_29 q  n x1 μ ν = some out → Z l D dA ad sh m_M_comesBack (zR 0 0 0) (zS ad) (zOv out) 0 0 0 0 [] 29 [(0, .ref (ad q)), (1, .int x1)] [] μ ν := by
  intro n
  induction n with
  | zero => intro x1 μ ν hF; cases hF
  | succ n ih =>
    intro x1 μ ν hF
    dsimp only [f_M_comesBack_29] at hF
    refine z_iload_n d_M_comesBack_29 1 rfl rfl ?_
    refine z_bipush d_M_comesBack_30 (v := 11) (by decide) ?_
    refine z_icmp_ge d_M_comesBack_32 (tgt := 53) (by decide) (fun cy1 => ?_) (fun cy1 => ?_)
    · replace hF := zh_t cy1 hF
      refine z_aload_n d_M_comesBack_53 0 rfl rfl ?_
      refine z_iconst d_M_comesBack_54 (v := 0) (by decide) ?_
      refine z_put d_M_comesBack_55 f_M_178 (hm 0 _ rfl) rfl (CL_fin _ _ (fun q hq => by cases hq; rfl)) (by decide) (by decide) ?_
      obtain ⟨μy2, hy2, hF⟩ := zh_let hF
      refine z_eqm hy2 ?_
      cases hF
      exact z_return d_M_comesBack_58 rfl ⟨rfl, rfl, rfl⟩
    · replace hF := zh_f cy1 hF
      refine z_aload_n d_M_comesBack_35 0 rfl rfl ?_
      refine z_getr d_M_comesBack_36 (q := (q + 9)) f_M_39 (hm 0 _ rfl) rfl ?_
      refine z_iload_n d_M_comesBack_39 1 rfl rfl ?_
      refine z_aload_n d_M_comesBack_40 0 rfl rfl ?_
      refine z_getr d_M_comesBack_41 (q := (q + 10)) f_M_43 (hm 0 _ rfl) rfl ?_
      refine z_iload_n d_M_comesBack_44 1 rfl rfl ?_
      obtain ⟨hy3, hF⟩ := zh_if hF
      refine z_lald d_M_comesBack_45 (hm 10 _ rfl) (zin_vp hy3) ?_
      obtain ⟨hy4, hF⟩ := zh_if hF
      refine z_last d_M_comesBack_46 (hm 9 _ rfl) (zin_vp hy4) ?_
      obtain ⟨νy5, hy5, hF⟩ := zh_let hF
      refine z_eqn hy5 ?_
      refine z_iinc d_M_comesBack_47 (k := 1) (v := (x1 + 1)) rfl rfl (by decide) (L2 := [(1, .int (x1 + 1)), (0, .ref (ad q))]) rfl ?_
      refine z_goto d_M_comesBack_50 (tgt := 29) (by decide) ?_
      refine z_sub [1, 0] (L' := [(0, .ref (ad q)), (1, .int (x1 + 1))]) rfl ?_
      exact ih _ _ _ hF
def f_M_comesBack_2 (q : Nat)  : Nat → Int32 → zI → zJ → Option (zI × zJ)
  | 0, _, _, _ => none
  | n + 1, x1, μ, ν => (if 146 ≤ x1 then f_M_comesBack_29 q zFuel 0 μ ν else (if zin x1 146 = true then (if zin x1 146 = true then zlet (zu μ (q + 7) (Int32.toNatClampNeg x1) (μ (q + 8) (Int32.toNatClampNeg x1))) fun μy4 => (f_M_comesBack_2 q n) (x1 + 1) μy4 ν else none) else none))
theorem z_M_comesBack_2 {l : Launch} {D : va_G} {dA : Nat → ClassId} {ad : Nat → Nat} {sh : List zSE}  {q : Nat} (hm : zMo sh q)  {out : (zI × zJ)} : ∀ (n : Nat) (x1 : Int32) (μ : zI) (ν : zJ), f_M_comesBack_2 q  n x1 μ ν = some out → Z l D dA ad sh m_M_comesBack (zR 0 0 0) (zS ad) (zOv out) 0 0 0 0 [] 2 [(0, .ref (ad q)), (1, .int x1)] [] μ ν := by
  intro n
  induction n with
  | zero => intro x1 μ ν hF; cases hF
  | succ n ih =>
    intro x1 μ ν hF
    dsimp only [f_M_comesBack_2] at hF
    refine z_iload_n d_M_comesBack_2 1 rfl rfl ?_
    refine z_sipush d_M_comesBack_3 (v := 146) (by decide) ?_
    refine z_icmp_ge d_M_comesBack_6 (tgt := 27) (by decide) (fun cy1 => ?_) (fun cy1 => ?_)
    · replace hF := zh_t cy1 hF
      refine z_iconst d_M_comesBack_27 (v := 0) (by decide) ?_
      refine z_istore_n d_M_comesBack_28 rfl (by decide) (L2 := [(1, .int 0), (0, .ref (ad q))]) rfl ?_
      refine z_sub [1, 0] (L' := [(0, .ref (ad q)), (1, .int 0)]) rfl ?_
      exact z_M_comesBack_29 hm  zFuel _ _ _ hF
    · replace hF := zh_f cy1 hF
      refine z_aload_n d_M_comesBack_9 0 rfl rfl ?_
      refine z_getr d_M_comesBack_10 (q := (q + 7)) f_M_33 (hm 0 _ rfl) rfl ?_
      refine z_iload_n d_M_comesBack_13 1 rfl rfl ?_
      refine z_aload_n d_M_comesBack_14 0 rfl rfl ?_
      refine z_getr d_M_comesBack_15 (q := (q + 8)) f_M_36 (hm 0 _ rfl) rfl ?_
      refine z_iload_n d_M_comesBack_18 1 rfl rfl ?_
      obtain ⟨hy2, hF⟩ := zh_if hF
      refine z_iald d_M_comesBack_19 (hm 8 _ rfl) (zin_vp hy2) ?_
      obtain ⟨hy3, hF⟩ := zh_if hF
      refine z_iast d_M_comesBack_20 (hm 7 _ rfl) (zin_vp hy3) ?_
      obtain ⟨μy4, hy4, hF⟩ := zh_let hF
      refine z_eqm hy4 ?_
      refine z_iinc d_M_comesBack_21 (k := 1) (v := (x1 + 1)) rfl rfl (by decide) (L2 := [(1, .int (x1 + 1)), (0, .ref (ad q))]) rfl ?_
      refine z_goto d_M_comesBack_24 (tgt := 2) (by decide) ?_
      refine z_sub [1, 0] (L' := [(0, .ref (ad q)), (1, .int (x1 + 1))]) rfl ?_
      exact ih _ _ _ hF
def e_M_comesBack_0 (q : Nat)   (μ : zI) (ν : zJ) : Option (zI × zJ) := f_M_comesBack_2 q zFuel 0 μ ν
theorem z_M_comesBack_0 {l : Launch} {D : va_G} {dA : Nat → ClassId} {ad : Nat → Nat} {sh : List zSE}  {q : Nat} (hm : zMo sh q)   {μ : zI} {ν : zJ} {out : (zI × zJ)} (hF : e_M_comesBack_0 q   μ ν = some out) : Z l D dA ad sh m_M_comesBack (zR 0 0 0) (zS ad) (zOv out) 0 0 0 0 [] 0 [(0, .ref (ad q))] [] μ ν := by
  unfold e_M_comesBack_0 at hF
  refine z_iconst d_M_comesBack_0 (v := 0) (by decide) ?_
  refine z_istore_n d_M_comesBack_1 rfl (by decide) (L2 := [(1, .int 0), (0, .ref (ad q))]) rfl ?_
  refine z_sub [1, 0] (L' := [(0, .ref (ad q)), (1, .int 0)]) rfl ?_
  exact z_M_comesBack_2 hm  zFuel _ _ _ hF
def E_M_comesBack (q : Nat)  (μ : zI) (ν : zJ) : Option (zI × zJ) := e_M_comesBack_0 q μ ν
theorem c_M_comesBack {l : Launch} {D : va_G} {dA : Nat → ClassId} {ad : Nat → Nat} {sh : List zSE} {μ : zI} {ν : zJ} {q : Nat} (hm : zMo sh q) {out : (zI × zJ)} (hE : E_M_comesBack q μ ν = some out) : zC l D dA ad sh m_M_comesBack 0 0 0 [.ref (ad q)] μ ν (zOv out) :=
  zC.of (by decide) (Nat.le_of_ble_eq_true rfl) (z_M_comesBack_0 hm hE)
def e_M_litOf_0 (q : Nat)  (x1 : Int32) (μ : zI) (ν : zJ) : Option (Int32 × zI × zJ) := (if zin x1 12 = true then (if zin (19 + x1) 146 = true then some ((((μ (q + 4) (Int32.toNatClampNeg x1)) * (μ (q + 7) (Int32.toNatClampNeg (19 + x1)))) / 100), μ, ν) else none) else none)
theorem z_M_litOf_0 {l : Launch} {D : va_G} {dA : Nat → ClassId} {ad : Nat → Nat} {sh : List zSE}  {q : Nat} (hm : zMo sh q)  {x1 : Int32} {μ : zI} {ν : zJ} {out : (Int32 × zI × zJ)} (hF : e_M_litOf_0 q  x1 μ ν = some out) : Z l D dA ad sh m_M_litOf (zR 0 0 0) (zS ad) (zOi out) 0 0 0 0 [] 0 [(0, .ref (ad q)), (1, .int x1)] [] μ ν := by
  unfold e_M_litOf_0 at hF
  refine z_aload_n d_M_litOf_0 0 rfl rfl ?_
  refine z_getr d_M_litOf_1 (q := (q + 4)) f_M_20 (hm 0 _ rfl) rfl ?_
  refine z_iload_n d_M_litOf_4 1 rfl rfl ?_
  obtain ⟨hy1, hF⟩ := zh_if hF
  refine z_iald d_M_litOf_5 (hm 4 _ rfl) (zin_vp hy1) ?_
  refine z_aload_n d_M_litOf_6 0 rfl rfl ?_
  refine z_getr d_M_litOf_7 (q := (q + 7)) f_M_33 (hm 0 _ rfl) rfl ?_
  refine z_bipush d_M_litOf_10 (v := 19) (by decide) ?_
  refine z_iload_n d_M_litOf_12 1 rfl rfl ?_
  refine z_iadd d_M_litOf_13 ?_
  obtain ⟨hy2, hF⟩ := zh_if hF
  refine z_iald d_M_litOf_14 (hm 7 _ rfl) (zin_vp hy2) ?_
  refine z_imul d_M_litOf_15 ?_
  refine z_bipush d_M_litOf_16 (v := 100) (by decide) ?_
  refine z_idiv d_M_litOf_18 (by decide) ?_
  cases hF
  exact z_ireturn d_M_litOf_19 rfl rfl ⟨rfl, rfl, rfl⟩
def E_M_litOf (q : Nat) (x1 : Int32) (μ : zI) (ν : zJ) : Option (Int32 × zI × zJ) := e_M_litOf_0 q x1 μ ν
theorem c_M_litOf {l : Launch} {D : va_G} {dA : Nat → ClassId} {ad : Nat → Nat} {sh : List zSE} {μ : zI} {ν : zJ} {q : Nat} {x1 : Int32} (hm : zMo sh q) {out : (Int32 × zI × zJ)} (hE : E_M_litOf q x1 μ ν = some out) : zC l D dA ad sh m_M_litOf 0 0 0 [.ref (ad q), .int x1] μ ν (zOi out) :=
  zC.of (by decide) (Nat.le_of_ble_eq_true rfl) (z_M_litOf_0 hm hE)
def e_M_voltsAt_50 (q : Nat) (r4 : Int32 → Int32 → Int32 → zI → zJ → Option (Int32 × zI × zJ)) (x1 : Int32) (x2 : Int32) (x3 : Int32) (x4 : Int32) (μ : zI) (ν : zJ) : Option (Int32 × zI × zJ) := r4 x1 x2 (x3 + 1) μ ν
theorem z_M_voltsAt_50 {l : Launch} {D : va_G} {dA : Nat → ClassId} {ad : Nat → Nat} {sh : List zSE}  {q : Nat} (hm : zMo sh q) {r4 : Int32 → Int32 → Int32 → zI → zJ → Option (Int32 × zI × zJ)} {x1 : Int32} {x2 : Int32} {x3 : Int32} {x4 : Int32} {μ : zI} {ν : zJ} {out : (Int32 × zI × zJ)} (hr4 : ∀ (x1 : Int32) (x2 : Int32) (x3 : Int32) (μ : zI) (ν : zJ), r4 x1 x2 x3 μ ν = some out → Z l D dA ad sh m_M_voltsAt (zR 1 0 0) (zS ad) (zOi out) 0 0 0 0 [] 4 [(0, .ref (ad q)), (1, .int x1), (2, .int x2), (3, .int x3)] [] μ ν) (hF : e_M_voltsAt_50 q r4 x1 x2 x3 x4 μ ν = some out) : Z l D dA ad sh m_M_voltsAt (zR 1 0 0) (zS ad) (zOi out) 0 0 0 0 [] 50 [(0, .ref (ad q)), (1, .int x1), (2, .int x2), (3, .int x3), (4, .int x4)] [] μ ν := by
  unfold e_M_voltsAt_50 at hF
  refine z_iinc d_M_voltsAt_50 (k := 3) (v := (x3 + 1)) rfl rfl (by decide) (L2 := [(3, .int (x3 + 1)), (0, .ref (ad q)), (1, .int x1), (2, .int x2), (4, .int x4)]) rfl ?_
  refine z_goto d_M_voltsAt_53 (tgt := 4) (by decide) ?_
  refine z_sub [1, 2, 3, 0] (L' := [(0, .ref (ad q)), (1, .int x1), (2, .int x2), (3, .int (x3 + 1))]) rfl ?_
  exact hr4 _ _ _ _ _ hF
def f_M_voltsAt_4 (q : Nat)  : Nat → Int32 → Int32 → Int32 → zI → zJ → Option (Int32 × zI × zJ)
  | 0, _, _, _, _, _ => none
  | n + 1, x1, x2, x3, μ, ν => (if (μ q 9) ≤ x3 then some (x2, μ, ν) else Option.bind (E_M_litOf q x3 μ ν) fun ty2 => zlet (α := Int32) ty2.1 fun y3 => (if y3 ≤ x1 then e_M_voltsAt_50 q (f_M_voltsAt_4 q n) x1 x2 x3 y3 ty2.2.1 ty2.2.2 else (if zin x3 12 = true then (if (y3 * y3) = 0 then none else zlet (α := Int32) (x2 + (((ty2.2.1 (q + 5) (Int32.toNatClampNeg x3)) * ((y3 * y3) - (x1 * x1))) / (y3 * y3))) fun y7 => e_M_voltsAt_50 q (f_M_voltsAt_4 q n) x1 y7 x3 y3 ty2.2.1 ty2.2.2) else none)))
theorem z_M_voltsAt_4 {l : Launch} {D : va_G} {dA : Nat → ClassId} {ad : Nat → Nat} {sh : List zSE}  {q : Nat} (hm : zMo sh q)  {out : (Int32 × zI × zJ)} : ∀ (n : Nat) (x1 : Int32) (x2 : Int32) (x3 : Int32) (μ : zI) (ν : zJ), f_M_voltsAt_4 q  n x1 x2 x3 μ ν = some out → Z l D dA ad sh m_M_voltsAt (zR 1 0 0) (zS ad) (zOi out) 0 0 0 0 [] 4 [(0, .ref (ad q)), (1, .int x1), (2, .int x2), (3, .int x3)] [] μ ν := by
  intro n
  induction n with
  | zero => intro x1 x2 x3 μ ν hF; cases hF
  | succ n ih =>
    intro x1 x2 x3 μ ν hF
    dsimp only [f_M_voltsAt_4] at hF
    refine z_iload_n d_M_voltsAt_4 3 rfl rfl ?_
    refine z_aload_n d_M_voltsAt_5 0 rfl rfl ?_
    refine z_get d_M_voltsAt_6 f_M_168 (hm 0 _ rfl) rfl ?_
    refine z_icmp_ge d_M_voltsAt_9 (tgt := 56) (by decide) (fun cy1 => ?_) (fun cy1 => ?_)
    · replace hF := zh_t cy1 hF
      refine z_iload_n d_M_voltsAt_56 2 rfl rfl ?_
      cases hF
      exact z_ireturn d_M_voltsAt_57 rfl rfl ⟨rfl, rfl, rfl⟩
    · replace hF := zh_f cy1 hF
      refine z_aload_n d_M_voltsAt_12 0 rfl rfl ?_
      refine z_iload_n d_M_voltsAt_13 3 rfl rfl ?_
      obtain ⟨ty2, hty2, hF⟩ := zh_bind hF
      refine z_callV d_M_voltsAt_14 (c_M_litOf hm hty2) mv_M_litOf l_M_182 (fun _ _ h => h) (hm 0 _ rfl) rfl rfl ⟨Nat.le_of_ble_eq_true rfl, Nat.le_of_ble_eq_true rfl⟩ ⟨Nat.le_of_ble_eq_true rfl, Nat.le_of_ble_eq_true rfl⟩ rfl (Nat.le_of_ble_eq_true rfl) (fun r μ' ν' hq => ?_)
      obtain ⟨rfl, rfl, rfl⟩ := hq
      show Z _ _ _ _ _ _ _ _ _ _ _ 0 0 _ _ _ [.int ty2.1] _ _
      obtain ⟨y3, hy3, hF⟩ := zh_let hF
      refine z_eqi hy3 ?_
      refine z_istore d_M_voltsAt_17 (by decide) (L2 := [(4, .int y3), (0, .ref (ad q)), (1, .int x1), (2, .int x2), (3, .int x3)]) rfl ?_
      refine z_iload_n d_M_voltsAt_19 2 rfl rfl ?_
      refine z_iload d_M_voltsAt_20 0 rfl ?_
      refine z_icmp_ge d_M_voltsAt_22 (tgt := 50) (by decide) (fun cy4 => ?_) (fun cy4 => ?_)
      · replace hF := zh_t cy4 hF
        refine z_sub [1, 2, 3, 4, 0] (L' := [(0, .ref (ad q)), (1, .int x1), (2, .int x2), (3, .int x3), (4, .int y3)]) rfl ?_
        exact z_M_voltsAt_50 hm (fun a0 a1 a2 a3 a4 => ih a0 a1 a2 a3 a4) hF
      · replace hF := zh_f cy4 hF
        refine z_iload_n d_M_voltsAt_25 3 rfl rfl ?_
        refine z_aload_n d_M_voltsAt_26 1 rfl rfl ?_
        refine z_getr d_M_voltsAt_27 (q := (q + 5)) f_M_23 (hm 0 _ rfl) rfl ?_
        refine z_iload_n d_M_voltsAt_30 4 rfl rfl ?_
        obtain ⟨hy5, hF⟩ := zh_if hF
        refine z_iald d_M_voltsAt_31 (hm 5 _ rfl) (zin_vp hy5) ?_
        refine z_iload d_M_voltsAt_32 0 rfl ?_
        refine z_iload d_M_voltsAt_34 0 rfl ?_
        refine z_imul d_M_voltsAt_36 ?_
        refine z_iload_n d_M_voltsAt_37 2 rfl rfl ?_
        refine z_iload_n d_M_voltsAt_38 2 rfl rfl ?_
        refine z_imul d_M_voltsAt_39 ?_
        refine z_isub d_M_voltsAt_40 ?_
        refine z_imul d_M_voltsAt_41 ?_
        refine z_iload d_M_voltsAt_42 0 rfl ?_
        refine z_iload d_M_voltsAt_44 0 rfl ?_
        refine z_imul d_M_voltsAt_46 ?_
        obtain ⟨hy6, hF⟩ := zh_ne hF
        refine z_idiv d_M_voltsAt_47 hy6 ?_
        refine z_iadd d_M_voltsAt_48 ?_
        obtain ⟨y7, hy7, hF⟩ := zh_let hF
        refine z_eqi hy7 ?_
        refine z_istore_n d_M_voltsAt_49 rfl (by decide) (L2 := [(2, .int y7), (4, .int y3), (0, .ref (ad q)), (1, .int x1), (3, .int x3)]) rfl ?_
        refine z_sub [2, 3, 0, 4, 1] (L' := [(0, .ref (ad q)), (1, .int x1), (2, .int y7), (3, .int x3), (4, .int y3)]) rfl ?_
        exact z_M_voltsAt_50 hm (fun a0 a1 a2 a3 a4 => ih a0 a1 a2 a3 a4) hF
def e_M_voltsAt_0 (q : Nat)  (x1 : Int32) (μ : zI) (ν : zJ) : Option (Int32 × zI × zJ) := f_M_voltsAt_4 q zFuel x1 0 0 μ ν
theorem z_M_voltsAt_0 {l : Launch} {D : va_G} {dA : Nat → ClassId} {ad : Nat → Nat} {sh : List zSE}  {q : Nat} (hm : zMo sh q)  {x1 : Int32} {μ : zI} {ν : zJ} {out : (Int32 × zI × zJ)} (hF : e_M_voltsAt_0 q  x1 μ ν = some out) : Z l D dA ad sh m_M_voltsAt (zR 1 0 0) (zS ad) (zOi out) 0 0 0 0 [] 0 [(0, .ref (ad q)), (1, .int x1)] [] μ ν := by
  unfold e_M_voltsAt_0 at hF
  refine z_iconst d_M_voltsAt_0 (v := 0) (by decide) ?_
  refine z_istore_n d_M_voltsAt_1 rfl (by decide) (L2 := [(2, .int 0), (0, .ref (ad q)), (1, .int x1)]) rfl ?_
  refine z_iconst d_M_voltsAt_2 (v := 0) (by decide) ?_
  refine z_istore_n d_M_voltsAt_3 rfl (by decide) (L2 := [(3, .int 0), (2, .int 0), (0, .ref (ad q)), (1, .int x1)]) rfl ?_
  refine z_sub [2, 3, 1, 0] (L' := [(0, .ref (ad q)), (1, .int x1), (2, .int 0), (3, .int 0)]) rfl ?_
  exact z_M_voltsAt_4 hm  zFuel _ _ _ _ _ hF
def E_M_voltsAt (q : Nat) (x1 : Int32) (μ : zI) (ν : zJ) : Option (Int32 × zI × zJ) := e_M_voltsAt_0 q x1 μ ν
theorem c_M_voltsAt {l : Launch} {D : va_G} {dA : Nat → ClassId} {ad : Nat → Nat} {sh : List zSE} {μ : zI} {ν : zJ} {q : Nat} {x1 : Int32} (hm : zMo sh q) {out : (Int32 × zI × zJ)} (hE : E_M_voltsAt q x1 μ ν = some out) : zC l D dA ad sh m_M_voltsAt 1 0 0 [.ref (ad q), .int x1] μ ν (zOi out) :=
  zC.of (by decide) (Nat.le_of_ble_eq_true rfl) (z_M_voltsAt_0 hm hE)
def e_M_powerAt_0 (q : Nat)  (x1 : Int32) (μ : zI) (ν : zJ) : Option (Int32 × zI × zJ) := Option.bind (E_M_voltsAt q x1 μ ν) fun ty1 => some (((x1 * ty1.1) / 10), ty1.2.1, ty1.2.2)
theorem z_M_powerAt_0 {l : Launch} {D : va_G} {dA : Nat → ClassId} {ad : Nat → Nat} {sh : List zSE}  {q : Nat} (hm : zMo sh q)  {x1 : Int32} {μ : zI} {ν : zJ} {out : (Int32 × zI × zJ)} (hF : e_M_powerAt_0 q  x1 μ ν = some out) : Z l D dA ad sh m_M_powerAt (zR 2 0 0) (zS ad) (zOi out) 0 0 0 0 [] 0 [(0, .ref (ad q)), (1, .int x1)] [] μ ν := by
  unfold e_M_powerAt_0 at hF
  refine z_iload_n d_M_powerAt_0 1 rfl rfl ?_
  refine z_aload_n d_M_powerAt_1 0 rfl rfl ?_
  refine z_iload_n d_M_powerAt_2 1 rfl rfl ?_
  obtain ⟨ty1, hty1, hF⟩ := zh_bind hF
  refine z_callV d_M_powerAt_3 (c_M_voltsAt hm hty1) mv_M_voltsAt l_M_185 (fun _ _ h => h) (hm 0 _ rfl) rfl rfl ⟨Nat.le_of_ble_eq_true rfl, Nat.le_of_ble_eq_true rfl⟩ ⟨Nat.le_of_ble_eq_true rfl, Nat.le_of_ble_eq_true rfl⟩ rfl (Nat.le_of_ble_eq_true rfl) (fun r μ' ν' hq => ?_)
  obtain ⟨rfl, rfl, rfl⟩ := hq
  show Z _ _ _ _ _ _ _ _ _ _ _ 0 0 _ _ _ [.int ty1.1, .int x1] _ _
  refine z_imul d_M_powerAt_6 ?_
  refine z_bipush d_M_powerAt_7 (v := 10) (by decide) ?_
  refine z_idiv d_M_powerAt_9 (by decide) ?_
  cases hF
  exact z_ireturn d_M_powerAt_10 rfl rfl ⟨rfl, rfl, rfl⟩
def E_M_powerAt (q : Nat) (x1 : Int32) (μ : zI) (ν : zJ) : Option (Int32 × zI × zJ) := e_M_powerAt_0 q x1 μ ν
theorem c_M_powerAt {l : Launch} {D : va_G} {dA : Nat → ClassId} {ad : Nat → Nat} {sh : List zSE} {μ : zI} {ν : zJ} {q : Nat} {x1 : Int32} (hm : zMo sh q) {out : (Int32 × zI × zJ)} (hE : E_M_powerAt q x1 μ ν = some out) : zC l D dA ad sh m_M_powerAt 2 0 0 [.ref (ad q), .int x1] μ ν (zOi out) :=
  zC.of (by decide) (Nat.le_of_ble_eq_true rfl) (z_M_powerAt_0 hm hE)
def e_M_finds_79 (q : Nat) (r33 : Int32 → zI → zJ → Option (zI × zJ)) (x1 : Int32) (x2 : Int32) (μ : zI) (ν : zJ) : Option (zI × zJ) := r33 (x1 + 1) μ ν
theorem z_M_finds_79 {l : Launch} {D : va_G} {dA : Nat → ClassId} {ad : Nat → Nat} {sh : List zSE}  {q : Nat} (hm : zMo sh q) {r33 : Int32 → zI → zJ → Option (zI × zJ)} {x1 : Int32} {x2 : Int32} {μ : zI} {ν : zJ} {out : (zI × zJ)} (hr33 : ∀ (x1 : Int32) (μ : zI) (ν : zJ), r33 x1 μ ν = some out → Z l D dA ad sh m_M_finds (zR 3 0 0) (zS ad) (zOv out) 0 0 0 0 [] 33 [(0, .ref (ad q)), (1, .int x1)] [] μ ν) (hF : e_M_finds_79 q r33 x1 x2 μ ν = some out) : Z l D dA ad sh m_M_finds (zR 3 0 0) (zS ad) (zOv out) 0 0 0 0 [] 79 [(0, .ref (ad q)), (1, .int x1), (2, .int x2)] [] μ ν := by
  unfold e_M_finds_79 at hF
  refine z_iinc d_M_finds_79 (k := 1) (v := (x1 + 1)) rfl rfl (by decide) (L2 := [(1, .int (x1 + 1)), (0, .ref (ad q)), (2, .int x2)]) rfl ?_
  refine z_goto d_M_finds_82 (tgt := 33) (by decide) ?_
  refine z_sub [1, 0] (L' := [(0, .ref (ad q)), (1, .int (x1 + 1))]) rfl ?_
  exact hr33 _ _ _ hF
def f_M_finds_33 (q : Nat)  : Nat → Int32 → zI → zJ → Option (zI × zJ)
  | 0, _, _, _ => none
  | n + 1, x1, μ, ν => (if 1000 ≤ x1 then zlet (zu μ (q + 7) 145 1) fun μy2 => some (μy2, ν) else Option.bind (E_M_powerAt q x1 μ ν) fun ty3 => zlet (α := Int32) ty3.1 fun y4 => (if (ty3.2.1 (q + 7) 144) < y4 then zlet (zu ty3.2.1 (q + 7) 144 y4) fun μy6 => zlet (zu μy6 (q + 7) 143 x1) fun μy7 => e_M_finds_79 q (f_M_finds_33 q n) x1 y4 μy7 ty3.2.2 else e_M_finds_79 q (f_M_finds_33 q n) x1 y4 ty3.2.1 ty3.2.2))
theorem z_M_finds_33 {l : Launch} {D : va_G} {dA : Nat → ClassId} {ad : Nat → Nat} {sh : List zSE}  {q : Nat} (hm : zMo sh q)  {out : (zI × zJ)} : ∀ (n : Nat) (x1 : Int32) (μ : zI) (ν : zJ), f_M_finds_33 q  n x1 μ ν = some out → Z l D dA ad sh m_M_finds (zR 3 0 0) (zS ad) (zOv out) 0 0 0 0 [] 33 [(0, .ref (ad q)), (1, .int x1)] [] μ ν := by
  intro n
  induction n with
  | zero => intro x1 μ ν hF; cases hF
  | succ n ih =>
    intro x1 μ ν hF
    dsimp only [f_M_finds_33] at hF
    refine z_iload_n d_M_finds_33 1 rfl rfl ?_
    refine z_sipush d_M_finds_34 (v := 1000) (by decide) ?_
    refine z_icmp_ge d_M_finds_37 (tgt := 85) (by decide) (fun cy1 => ?_) (fun cy1 => ?_)
    · replace hF := zh_t cy1 hF
      refine z_aload_n d_M_finds_85 0 rfl rfl ?_
      refine z_getr d_M_finds_86 (q := (q + 7)) f_M_33 (hm 0 _ rfl) rfl ?_
      refine z_sipush d_M_finds_89 (v := 145) (by decide) ?_
      refine z_iconst d_M_finds_92 (v := 1) (by decide) ?_
      refine z_iast d_M_finds_93 (hm 7 _ rfl) (zin_vp rfl) ?_
      obtain ⟨μy2, hy2, hF⟩ := zh_let hF
      refine z_eqm hy2 ?_
      cases hF
      exact z_return d_M_finds_94 rfl ⟨rfl, rfl, rfl⟩
    · replace hF := zh_f cy1 hF
      refine z_aload_n d_M_finds_40 0 rfl rfl ?_
      refine z_iload_n d_M_finds_41 1 rfl rfl ?_
      obtain ⟨ty3, hty3, hF⟩ := zh_bind hF
      refine z_callV d_M_finds_42 (c_M_powerAt hm hty3) mv_M_powerAt l_M_188 (fun _ _ h => h) (hm 0 _ rfl) rfl rfl ⟨Nat.le_of_ble_eq_true rfl, Nat.le_of_ble_eq_true rfl⟩ ⟨Nat.le_of_ble_eq_true rfl, Nat.le_of_ble_eq_true rfl⟩ rfl (Nat.le_of_ble_eq_true rfl) (fun r μ' ν' hq => ?_)
      obtain ⟨rfl, rfl, rfl⟩ := hq
      show Z _ _ _ _ _ _ _ _ _ _ _ 0 0 _ _ _ [.int ty3.1] _ _
      obtain ⟨y4, hy4, hF⟩ := zh_let hF
      refine z_eqi hy4 ?_
      refine z_istore_n d_M_finds_45 rfl (by decide) (L2 := [(2, .int y4), (0, .ref (ad q)), (1, .int x1)]) rfl ?_
      refine z_iload_n d_M_finds_46 0 rfl rfl ?_
      refine z_aload_n d_M_finds_47 1 rfl rfl ?_
      refine z_getr d_M_finds_48 (q := (q + 7)) f_M_33 (hm 0 _ rfl) rfl ?_
      refine z_sipush d_M_finds_51 (v := 144) (by decide) ?_
      refine z_iald d_M_finds_54 (hm 7 _ rfl) (zin_vp rfl) ?_
      show Z _ _ _ _ _ _ _ _ _ _ _ _ _ _ _ _ [.int (ty3.2.1 (q + 7) 144), .int y4] _ _
      refine z_icmp_gt d_M_finds_55 (tgt := 61) (by decide) (fun cy5 => ?_) (fun cy5 => ?_)
      · replace hF := zh_t cy5 hF
        refine z_aload_n d_M_finds_61 1 rfl rfl ?_
        refine z_getr d_M_finds_62 (q := (q + 7)) f_M_33 (hm 0 _ rfl) rfl ?_
        refine z_sipush d_M_finds_65 (v := 144) (by decide) ?_
        refine z_iload_n d_M_finds_68 0 rfl rfl ?_
        refine z_iast d_M_finds_69 (hm 7 _ rfl) (zin_vp rfl) ?_
        obtain ⟨μy6, hy6, hF⟩ := zh_let hF
        refine z_eqm hy6 ?_
        refine z_aload_n d_M_finds_70 1 rfl rfl ?_
        refine z_getr d_M_finds_71 (q := (q + 7)) f_M_33 (hm 0 _ rfl) rfl ?_
        refine z_sipush d_M_finds_74 (v := 143) (by decide) ?_
        refine z_iload_n d_M_finds_77 2 rfl rfl ?_
        refine z_iast d_M_finds_78 (hm 7 _ rfl) (zin_vp rfl) ?_
        obtain ⟨μy7, hy7, hF⟩ := zh_let hF
        refine z_eqm hy7 ?_
        refine z_sub [1, 2, 0] (L' := [(0, .ref (ad q)), (1, .int x1), (2, .int y4)]) rfl ?_
        exact z_M_finds_79 hm (fun a0 a1 a2 => ih a0 a1 a2) hF
      · replace hF := zh_f cy5 hF
        refine z_goto d_M_finds_58 (tgt := 79) (by decide) ?_
        refine z_sub [1, 2, 0] (L' := [(0, .ref (ad q)), (1, .int x1), (2, .int y4)]) rfl ?_
        exact z_M_finds_79 hm (fun a0 a1 a2 => ih a0 a1 a2) hF
def e_M_finds_0 (q : Nat)   (μ : zI) (ν : zJ) : Option (zI × zJ) := (if (μ (q + 7) 145) = 1 then some (μ, ν) else zlet (zu μ (q + 7) 144 0) fun μy2 => zlet (zu μy2 (q + 7) 143 0) fun μy3 => f_M_finds_33 q zFuel 0 μy3 ν)
theorem z_M_finds_0 {l : Launch} {D : va_G} {dA : Nat → ClassId} {ad : Nat → Nat} {sh : List zSE}  {q : Nat} (hm : zMo sh q)   {μ : zI} {ν : zJ} {out : (zI × zJ)} (hF : e_M_finds_0 q   μ ν = some out) : Z l D dA ad sh m_M_finds (zR 3 0 0) (zS ad) (zOv out) 0 0 0 0 [] 0 [(0, .ref (ad q))] [] μ ν := by
  unfold e_M_finds_0 at hF
  refine z_aload_n d_M_finds_0 0 rfl rfl ?_
  refine z_getr d_M_finds_1 (q := (q + 7)) f_M_33 (hm 0 _ rfl) rfl ?_
  refine z_sipush d_M_finds_4 (v := 145) (by decide) ?_
  refine z_iald d_M_finds_7 (hm 7 _ rfl) (zin_vp rfl) ?_
  show Z _ _ _ _ _ _ _ _ _ _ _ _ _ _ _ _ [.int (μ (q + 7) 145)] _ _
  refine z_iconst d_M_finds_8 (v := 1) (by decide) ?_
  refine z_icmp_ne d_M_finds_9 (tgt := 13) (by decide) (fun cy1 => ?_) (fun cy1 => ?_)
  · replace hF := zh_f cy1 hF
    refine z_aload_n d_M_finds_13 0 rfl rfl ?_
    refine z_getr d_M_finds_14 (q := (q + 7)) f_M_33 (hm 0 _ rfl) rfl ?_
    refine z_sipush d_M_finds_17 (v := 144) (by decide) ?_
    refine z_iconst d_M_finds_20 (v := 0) (by decide) ?_
    refine z_iast d_M_finds_21 (hm 7 _ rfl) (zin_vp rfl) ?_
    obtain ⟨μy2, hy2, hF⟩ := zh_let hF
    refine z_eqm hy2 ?_
    refine z_aload_n d_M_finds_22 0 rfl rfl ?_
    refine z_getr d_M_finds_23 (q := (q + 7)) f_M_33 (hm 0 _ rfl) rfl ?_
    refine z_sipush d_M_finds_26 (v := 143) (by decide) ?_
    refine z_iconst d_M_finds_29 (v := 0) (by decide) ?_
    refine z_iast d_M_finds_30 (hm 7 _ rfl) (zin_vp rfl) ?_
    obtain ⟨μy3, hy3, hF⟩ := zh_let hF
    refine z_eqm hy3 ?_
    refine z_iconst d_M_finds_31 (v := 0) (by decide) ?_
    refine z_istore_n d_M_finds_32 rfl (by decide) (L2 := [(1, .int 0), (0, .ref (ad q))]) rfl ?_
    refine z_sub [1, 0] (L' := [(0, .ref (ad q)), (1, .int 0)]) rfl ?_
    exact z_M_finds_33 hm  zFuel _ _ _ hF
  · replace hF := zh_t cy1 hF
    cases hF
    exact z_return d_M_finds_12 rfl ⟨rfl, rfl, rfl⟩
def E_M_finds (q : Nat)  (μ : zI) (ν : zJ) : Option (zI × zJ) := e_M_finds_0 q μ ν
theorem c_M_finds {l : Launch} {D : va_G} {dA : Nat → ClassId} {ad : Nat → Nat} {sh : List zSE} {μ : zI} {ν : zJ} {q : Nat} (hm : zMo sh q) {out : (zI × zJ)} (hE : E_M_finds q μ ν = some out) : zC l D dA ad sh m_M_finds 3 0 0 [.ref (ad q)] μ ν (zOv out) :=
  zC.of (by decide) (Nat.le_of_ble_eq_true rfl) (z_M_finds_0 hm hE)
def e_M_bestNow_0 (q : Nat)   (μ : zI) (ν : zJ) : Option (Int32 × zI × zJ) := Option.bind (E_M_finds q μ ν) fun ty1 => some ((ty1.1 (q + 7) 144), ty1.1, ty1.2)
theorem z_M_bestNow_0 {l : Launch} {D : va_G} {dA : Nat → ClassId} {ad : Nat → Nat} {sh : List zSE}  {q : Nat} (hm : zMo sh q)   {μ : zI} {ν : zJ} {out : (Int32 × zI × zJ)} (hF : e_M_bestNow_0 q   μ ν = some out) : Z l D dA ad sh m_M_bestNow (zR 4 0 0) (zS ad) (zOi out) 0 0 0 0 [] 0 [(0, .ref (ad q))] [] μ ν := by
  unfold e_M_bestNow_0 at hF
  refine z_aload_n d_M_bestNow_0 0 rfl rfl ?_
  obtain ⟨ty1, hty1, hF⟩ := zh_bind hF
  refine z_callV d_M_bestNow_1 (c_M_finds hm hty1) mv_M_finds l_M_191 (fun _ _ h => h) (hm 0 _ rfl) rfl rfl ⟨Nat.le_of_ble_eq_true rfl, Nat.le_of_ble_eq_true rfl⟩ ⟨Nat.le_of_ble_eq_true rfl, Nat.le_of_ble_eq_true rfl⟩ rfl (Nat.le_of_ble_eq_true rfl) (fun r μ' ν' hq => ?_)
  obtain ⟨rfl, rfl, rfl⟩ := hq
  show Z _ _ _ _ _ _ _ _ _ _ _ 0 0 _ _ _ [] _ _
  refine z_aload_n d_M_bestNow_4 0 rfl rfl ?_
  refine z_getr d_M_bestNow_5 (q := (q + 7)) f_M_33 (hm 0 _ rfl) rfl ?_
  refine z_sipush d_M_bestNow_8 (v := 144) (by decide) ?_
  refine z_iald d_M_bestNow_11 (hm 7 _ rfl) (zin_vp rfl) ?_
  show Z _ _ _ _ _ _ _ _ _ _ _ _ _ _ _ _ [.int (ty1.1 (q + 7) 144)] _ _
  cases hF
  exact z_ireturn d_M_bestNow_12 rfl rfl ⟨rfl, rfl, rfl⟩
def E_M_bestNow (q : Nat)  (μ : zI) (ν : zJ) : Option (Int32 × zI × zJ) := e_M_bestNow_0 q μ ν
theorem c_M_bestNow {l : Launch} {D : va_G} {dA : Nat → ClassId} {ad : Nat → Nat} {sh : List zSE} {μ : zI} {ν : zJ} {q : Nat} (hm : zMo sh q) {out : (Int32 × zI × zJ)} (hE : E_M_bestNow q μ ν = some out) : zC l D dA ad sh m_M_bestNow 4 0 0 [.ref (ad q)] μ ν (zOi out) :=
  zC.of (by decide) (Nat.le_of_ble_eq_true rfl) (z_M_bestNow_0 hm hE)
def e_M_lights_0 (q : Nat)  (x1 : Int32) (x2 : Int32) (μ : zI) (ν : zJ) : Option (zI × zJ) := (if zin (19 + x1) 146 = true then zlet (zu μ (q + 7) (Int32.toNatClampNeg (19 + x1)) x2) fun μy2 => zlet (zu μy2 (q + 7) 145 0) fun μy3 => some (μy3, ν) else none)
theorem z_M_lights_0 {l : Launch} {D : va_G} {dA : Nat → ClassId} {ad : Nat → Nat} {sh : List zSE}  {q : Nat} (hm : zMo sh q)  {x1 : Int32} {x2 : Int32} {μ : zI} {ν : zJ} {out : (zI × zJ)} (hF : e_M_lights_0 q  x1 x2 μ ν = some out) : Z l D dA ad sh m_M_lights (zR 0 0 0) (zS ad) (zOv out) 0 0 0 0 [] 0 [(0, .ref (ad q)), (1, .int x1), (2, .int x2)] [] μ ν := by
  unfold e_M_lights_0 at hF
  refine z_aload_n d_M_lights_0 0 rfl rfl ?_
  refine z_getr d_M_lights_1 (q := (q + 7)) f_M_33 (hm 0 _ rfl) rfl ?_
  refine z_bipush d_M_lights_4 (v := 19) (by decide) ?_
  refine z_iload_n d_M_lights_6 1 rfl rfl ?_
  refine z_iadd d_M_lights_7 ?_
  refine z_iload_n d_M_lights_8 2 rfl rfl ?_
  obtain ⟨hy1, hF⟩ := zh_if hF
  refine z_iast d_M_lights_9 (hm 7 _ rfl) (zin_vp hy1) ?_
  obtain ⟨μy2, hy2, hF⟩ := zh_let hF
  refine z_eqm hy2 ?_
  refine z_aload_n d_M_lights_10 0 rfl rfl ?_
  refine z_getr d_M_lights_11 (q := (q + 7)) f_M_33 (hm 0 _ rfl) rfl ?_
  refine z_sipush d_M_lights_14 (v := 145) (by decide) ?_
  refine z_iconst d_M_lights_17 (v := 0) (by decide) ?_
  refine z_iast d_M_lights_18 (hm 7 _ rfl) (zin_vp rfl) ?_
  obtain ⟨μy3, hy3, hF⟩ := zh_let hF
  refine z_eqm hy3 ?_
  cases hF
  exact z_return d_M_lights_19 rfl ⟨rfl, rfl, rfl⟩
def E_M_lights (q : Nat) (x1 : Int32) (x2 : Int32) (μ : zI) (ν : zJ) : Option (zI × zJ) := e_M_lights_0 q x1 x2 μ ν
theorem c_M_lights {l : Launch} {D : va_G} {dA : Nat → ClassId} {ad : Nat → Nat} {sh : List zSE} {μ : zI} {ν : zJ} {q : Nat} {x1 : Int32} {x2 : Int32} (hm : zMo sh q) {out : (zI × zJ)} (hE : E_M_lights q x1 x2 μ ν = some out) : zC l D dA ad sh m_M_lights 0 0 0 [.ref (ad q), .int x1, .int x2] μ ν (zOv out) :=
  zC.of (by decide) (Nat.le_of_ble_eq_true rfl) (z_M_lights_0 hm hE)
def e_M_arrives_90 (q : Nat) (r0 : zI → zJ → Option (zI × zJ)) (x1 : Int32) (μ : zI) (ν : zJ) : Option (zI × zJ) := Option.bind (E_M_removes q 0 μ ν) fun ty1 => r0 ty1.1 ty1.2
theorem z_M_arrives_90 {l : Launch} {D : va_G} {dA : Nat → ClassId} {ad : Nat → Nat} {sh : List zSE}  {q : Nat} (hm : zMo sh q) {r0 : zI → zJ → Option (zI × zJ)} {x1 : Int32} {μ : zI} {ν : zJ} {out : (zI × zJ)} (hr0 : ∀  (μ : zI) (ν : zJ), r0  μ ν = some out → Z l D dA ad sh m_M_arrives (zR 1 0 0) (zS ad) (zOv out) 0 0 0 0 [] 0 [(0, .ref (ad q))] [] μ ν) (hF : e_M_arrives_90 q r0 x1 μ ν = some out) : Z l D dA ad sh m_M_arrives (zR 1 0 0) (zS ad) (zOv out) 0 0 0 0 [] 90 [(0, .ref (ad q)), (1, .int x1)] [] μ ν := by
  unfold e_M_arrives_90 at hF
  refine z_aload_n d_M_arrives_90 0 rfl rfl ?_
  refine z_iconst d_M_arrives_91 (v := 0) (by decide) ?_
  obtain ⟨ty1, hty1, hF⟩ := zh_bind hF
  refine z_callV d_M_arrives_92 (c_M_removes hm hty1) mv_M_removes l_M_197 (fun _ _ h => h) (hm 0 _ rfl) rfl rfl ⟨Nat.le_of_ble_eq_true rfl, Nat.le_of_ble_eq_true rfl⟩ ⟨Nat.le_of_ble_eq_true rfl, Nat.le_of_ble_eq_true rfl⟩ rfl (Nat.le_of_ble_eq_true rfl) (fun r μ' ν' hq => ?_)
  obtain ⟨rfl, rfl, rfl⟩ := hq
  show Z _ _ _ _ _ _ _ _ _ _ _ 0 0 _ _ _ [] _ _
  refine z_goto d_M_arrives_95 (tgt := 0) (by decide) ?_
  refine z_sub [0] (L' := [(0, .ref (ad q))]) rfl ?_
  exact hr0  _ _ hF
def e_M_arrives_98 (q : Nat)   (μ : zI) (ν : zJ) : Option (zI × zJ) := some (μ, ν)
theorem z_M_arrives_98 {l : Launch} {D : va_G} {dA : Nat → ClassId} {ad : Nat → Nat} {sh : List zSE}  {q : Nat} (hm : zMo sh q)   {μ : zI} {ν : zJ} {out : (zI × zJ)} (hF : e_M_arrives_98 q   μ ν = some out) : Z l D dA ad sh m_M_arrives (zR 1 0 0) (zS ad) (zOv out) 0 0 0 0 [] 98 [(0, .ref (ad q))] [] μ ν := by
  unfold e_M_arrives_98 at hF
  cases hF
  exact z_return d_M_arrives_98 rfl ⟨rfl, rfl, rfl⟩
def f_M_arrives_0 (q : Nat)  : Nat → zI → zJ → Option (zI × zJ)
  | 0, _, _ => none
  | n + 1, μ, ν => (if (μ (q + 7) 46) ≤ 0 then e_M_arrives_98 q μ ν else (if (μ (q + 7) 47) = (μ (q + 7) 25) then zlet (α := Int32) (μ (q + 7) 50) fun y3 => (if (μ (q + 7) 48) = 0 then Option.bind (E_M_lights q (μ (q + 7) 49) y3 μ ν) fun ty8 => e_M_arrives_90 q (f_M_arrives_0 q n) y3 ty8.1 ty8.2 else (if (μ (q + 7) 48) = 1 then zlet (zu μ (q + 7) 37 y3) fun μy7 => e_M_arrives_90 q (f_M_arrives_0 q n) y3 μy7 ν else zlet (zu μ (q + 7) 38 y3) fun μy6 => e_M_arrives_90 q (f_M_arrives_0 q n) y3 μy6 ν)) else e_M_arrives_98 q μ ν))
theorem z_M_arrives_0 {l : Launch} {D : va_G} {dA : Nat → ClassId} {ad : Nat → Nat} {sh : List zSE}  {q : Nat} (hm : zMo sh q)  {out : (zI × zJ)} : ∀ (n : Nat)  (μ : zI) (ν : zJ), f_M_arrives_0 q  n  μ ν = some out → Z l D dA ad sh m_M_arrives (zR 1 0 0) (zS ad) (zOv out) 0 0 0 0 [] 0 [(0, .ref (ad q))] [] μ ν := by
  intro n
  induction n with
  | zero => intro  μ ν hF; cases hF
  | succ n ih =>
    intro  μ ν hF
    dsimp only [f_M_arrives_0] at hF
    refine z_aload_n d_M_arrives_0 0 rfl rfl ?_
    refine z_getr d_M_arrives_1 (q := (q + 7)) f_M_33 (hm 0 _ rfl) rfl ?_
    refine z_bipush d_M_arrives_4 (v := 46) (by decide) ?_
    refine z_iald d_M_arrives_6 (hm 7 _ rfl) (zin_vp rfl) ?_
    show Z _ _ _ _ _ _ _ _ _ _ _ _ _ _ _ _ [.int (μ (q + 7) 46)] _ _
    refine z_if_le d_M_arrives_7 (tgt := 98) (by decide) (fun cy1 => ?_) (fun cy1 => ?_)
    · replace hF := zh_t cy1 hF
      exact z_M_arrives_98 hm  hF
    · replace hF := zh_f cy1 hF
      refine z_aload_n d_M_arrives_10 0 rfl rfl ?_
      refine z_getr d_M_arrives_11 (q := (q + 7)) f_M_33 (hm 0 _ rfl) rfl ?_
      refine z_bipush d_M_arrives_14 (v := 47) (by decide) ?_
      refine z_iald d_M_arrives_16 (hm 7 _ rfl) (zin_vp rfl) ?_
      show Z _ _ _ _ _ _ _ _ _ _ _ _ _ _ _ _ [.int (μ (q + 7) 47)] _ _
      refine z_aload_n d_M_arrives_17 0 rfl rfl ?_
      refine z_getr d_M_arrives_18 (q := (q + 7)) f_M_33 (hm 0 _ rfl) rfl ?_
      refine z_bipush d_M_arrives_21 (v := 25) (by decide) ?_
      refine z_iald d_M_arrives_23 (hm 7 _ rfl) (zin_vp rfl) ?_
      show Z _ _ _ _ _ _ _ _ _ _ _ _ _ _ _ _ [.int (μ (q + 7) 25), .int (μ (q + 7) 47)] _ _
      refine z_icmp_ne d_M_arrives_24 (tgt := 98) (by decide) (fun cy2 => ?_) (fun cy2 => ?_)
      · replace hF := zh_f cy2 hF
        exact z_M_arrives_98 hm  hF
      · replace hF := zh_t cy2 hF
        refine z_aload_n d_M_arrives_27 0 rfl rfl ?_
        refine z_getr d_M_arrives_28 (q := (q + 7)) f_M_33 (hm 0 _ rfl) rfl ?_
        refine z_bipush d_M_arrives_31 (v := 50) (by decide) ?_
        refine z_iald d_M_arrives_33 (hm 7 _ rfl) (zin_vp rfl) ?_
        show Z _ _ _ _ _ _ _ _ _ _ _ _ _ _ _ _ [.int (μ (q + 7) 50)] _ _
        obtain ⟨y3, hy3, hF⟩ := zh_let hF
        refine z_eqi hy3 ?_
        refine z_istore_n d_M_arrives_34 rfl (by decide) (L2 := [(1, .int y3), (0, .ref (ad q))]) rfl ?_
        refine z_aload_n d_M_arrives_35 1 rfl rfl ?_
        refine z_getr d_M_arrives_36 (q := (q + 7)) f_M_33 (hm 0 _ rfl) rfl ?_
        refine z_bipush d_M_arrives_39 (v := 48) (by decide) ?_
        refine z_iald d_M_arrives_41 (hm 7 _ rfl) (zin_vp rfl) ?_
        show Z _ _ _ _ _ _ _ _ _ _ _ _ _ _ _ _ [.int (μ (q + 7) 48)] _ _
        refine z_if_ne d_M_arrives_42 (tgt := 60) (by decide) (fun cy4 => ?_) (fun cy4 => ?_)
        · replace hF := zh_f cy4 hF
          refine z_aload_n d_M_arrives_60 1 rfl rfl ?_
          refine z_getr d_M_arrives_61 (q := (q + 7)) f_M_33 (hm 0 _ rfl) rfl ?_
          refine z_bipush d_M_arrives_64 (v := 48) (by decide) ?_
          refine z_iald d_M_arrives_66 (hm 7 _ rfl) (zin_vp rfl) ?_
          show Z _ _ _ _ _ _ _ _ _ _ _ _ _ _ _ _ [.int (μ (q + 7) 48)] _ _
          refine z_iconst d_M_arrives_67 (v := 1) (by decide) ?_
          refine z_icmp_ne d_M_arrives_68 (tgt := 82) (by decide) (fun cy5 => ?_) (fun cy5 => ?_)
          · replace hF := zh_f cy5 hF
            refine z_aload_n d_M_arrives_82 1 rfl rfl ?_
            refine z_getr d_M_arrives_83 (q := (q + 7)) f_M_33 (hm 0 _ rfl) rfl ?_
            refine z_bipush d_M_arrives_86 (v := 38) (by decide) ?_
            refine z_iload_n d_M_arrives_88 0 rfl rfl ?_
            refine z_iast d_M_arrives_89 (hm 7 _ rfl) (zin_vp rfl) ?_
            obtain ⟨μy6, hy6, hF⟩ := zh_let hF
            refine z_eqm hy6 ?_
            refine z_sub [1, 0] (L' := [(0, .ref (ad q)), (1, .int y3)]) rfl ?_
            exact z_M_arrives_90 hm (fun a0 a1 => ih a0 a1) hF
          · replace hF := zh_t cy5 hF
            refine z_aload_n d_M_arrives_71 1 rfl rfl ?_
            refine z_getr d_M_arrives_72 (q := (q + 7)) f_M_33 (hm 0 _ rfl) rfl ?_
            refine z_bipush d_M_arrives_75 (v := 37) (by decide) ?_
            refine z_iload_n d_M_arrives_77 0 rfl rfl ?_
            refine z_iast d_M_arrives_78 (hm 7 _ rfl) (zin_vp rfl) ?_
            obtain ⟨μy7, hy7, hF⟩ := zh_let hF
            refine z_eqm hy7 ?_
            refine z_goto d_M_arrives_79 (tgt := 90) (by decide) ?_
            refine z_sub [1, 0] (L' := [(0, .ref (ad q)), (1, .int y3)]) rfl ?_
            exact z_M_arrives_90 hm (fun a0 a1 => ih a0 a1) hF
        · replace hF := zh_t cy4 hF
          refine z_aload_n d_M_arrives_45 1 rfl rfl ?_
          refine z_aload_n d_M_arrives_46 1 rfl rfl ?_
          refine z_getr d_M_arrives_47 (q := (q + 7)) f_M_33 (hm 0 _ rfl) rfl ?_
          refine z_bipush d_M_arrives_50 (v := 49) (by decide) ?_
          refine z_iald d_M_arrives_52 (hm 7 _ rfl) (zin_vp rfl) ?_
          show Z _ _ _ _ _ _ _ _ _ _ _ _ _ _ _ _ [.int (μ (q + 7) 49), .ref (ad q)] _ _
          refine z_iload_n d_M_arrives_53 0 rfl rfl ?_
          obtain ⟨ty8, hty8, hF⟩ := zh_bind hF
          refine z_callV d_M_arrives_54 (c_M_lights hm hty8) mv_M_lights l_M_194 (fun _ _ h => h) (hm 0 _ rfl) rfl rfl ⟨Nat.le_of_ble_eq_true rfl, Nat.le_of_ble_eq_true rfl⟩ ⟨Nat.le_of_ble_eq_true rfl, Nat.le_of_ble_eq_true rfl⟩ rfl (Nat.le_of_ble_eq_true rfl) (fun r μ' ν' hq => ?_)
          obtain ⟨rfl, rfl, rfl⟩ := hq
          show Z _ _ _ _ _ _ _ _ _ _ _ 0 0 _ _ _ [] _ _
          refine z_goto d_M_arrives_57 (tgt := 90) (by decide) ?_
          refine z_sub [1, 0] (L' := [(0, .ref (ad q)), (1, .int y3)]) rfl ?_
          exact z_M_arrives_90 hm (fun a0 a1 => ih a0 a1) hF
def E_M_arrives (q : Nat)  (μ : zI) (ν : zJ) : Option (zI × zJ) := f_M_arrives_0 q zFuel μ ν
theorem c_M_arrives {l : Launch} {D : va_G} {dA : Nat → ClassId} {ad : Nat → Nat} {sh : List zSE} {μ : zI} {ν : zJ} {q : Nat} (hm : zMo sh q) {out : (zI × zJ)} (hE : E_M_arrives q μ ν = some out) : zC l D dA ad sh m_M_arrives 1 0 0 [.ref (ad q)] μ ν (zOv out) :=
  zC.of (by decide) (Nat.le_of_ble_eq_true rfl) (z_M_arrives_0 hm zFuel _ _ hE)
def e_M_within_22   (x0 : Int32) (s0 : Int32) (μ : zI) (ν : zJ) : Option (Int32 × zI × zJ) := some (s0, μ, ν)
theorem z_M_within_22 {l : Launch} {D : va_G} {dA : Nat → ClassId} {ad : Nat → Nat} {sh : List zSE}    {x0 : Int32} {s0 : Int32} {μ : zI} {ν : zJ} {out : (Int32 × zI × zJ)} (hF : e_M_within_22   x0 s0 μ ν = some out) : Z l D dA ad sh m_M_within (zR 0 0 0) (zS ad) (zOi out) 0 0 0 0 [] 22 [(0, .int x0)] [.int s0] μ ν := by
  unfold e_M_within_22 at hF
  cases hF
  exact z_ireturn d_M_within_22 rfl rfl ⟨rfl, rfl, rfl⟩
def e_M_within_0   (x0 : Int32) (μ : zI) (ν : zJ) : Option (Int32 × zI × zJ) := (if 0 ≤ x0 then (if x0 ≤ 999 then e_M_within_22 x0 x0 μ ν else e_M_within_22 x0 999 μ ν) else e_M_within_22 x0 0 μ ν)
theorem z_M_within_0 {l : Launch} {D : va_G} {dA : Nat → ClassId} {ad : Nat → Nat} {sh : List zSE}    {x0 : Int32} {μ : zI} {ν : zJ} {out : (Int32 × zI × zJ)} (hF : e_M_within_0   x0 μ ν = some out) : Z l D dA ad sh m_M_within (zR 0 0 0) (zS ad) (zOi out) 0 0 0 0 [] 0 [(0, .int x0)] [] μ ν := by
  unfold e_M_within_0 at hF
  refine z_iload_n d_M_within_0 0 rfl rfl ?_
  refine z_if_ge d_M_within_1 (tgt := 8) (by decide) (fun cy1 => ?_) (fun cy1 => ?_)
  · replace hF := zh_t cy1 hF
    refine z_iload_n d_M_within_8 0 rfl rfl ?_
    refine z_sipush d_M_within_9 (v := 999) (by decide) ?_
    refine z_icmp_le d_M_within_12 (tgt := 21) (by decide) (fun cy2 => ?_) (fun cy2 => ?_)
    · replace hF := zh_t cy2 hF
      refine z_iload_n d_M_within_21 0 rfl rfl ?_
      exact z_M_within_22   hF
    · replace hF := zh_f cy2 hF
      refine z_sipush d_M_within_15 (v := 999) (by decide) ?_
      refine z_goto d_M_within_18 (tgt := 22) (by decide) ?_
      exact z_M_within_22   hF
  · replace hF := zh_f cy1 hF
    refine z_iconst d_M_within_4 (v := 0) (by decide) ?_
    refine z_goto d_M_within_5 (tgt := 22) (by decide) ?_
    exact z_M_within_22   hF
def E_M_within  (x0 : Int32) (μ : zI) (ν : zJ) : Option (Int32 × zI × zJ) := e_M_within_0 x0 μ ν
theorem c_M_within {l : Launch} {D : va_G} {dA : Nat → ClassId} {ad : Nat → Nat} {sh : List zSE} {μ : zI} {ν : zJ} {x0 : Int32}  {out : (Int32 × zI × zJ)} (hE : E_M_within x0 μ ν = some out) : zC l D dA ad sh m_M_within 0 0 0 [.int x0] μ ν (zOi out) :=
  zC.of (by decide) (Nat.le_of_ble_eq_true rfl) (z_M_within_0  hE)
def e_M_scans_99 (q : Nat)  (x1 : Int32) (μ : zI) (ν : zJ) : Option (zI × zJ) := zlet (zu μ (q + 7) 43 x1) fun μy1 => some (μy1, ν)
theorem z_M_scans_99 {l : Launch} {D : va_G} {dA : Nat → ClassId} {ad : Nat → Nat} {sh : List zSE}  {q : Nat} (hm : zMo sh q)  {x1 : Int32} {μ : zI} {ν : zJ} {out : (zI × zJ)} (hF : e_M_scans_99 q  x1 μ ν = some out) : Z l D dA ad sh m_M_scans (zR 3 0 0) (zS ad) (zOv out) 0 0 0 0 [] 99 [(0, .ref (ad q)), (1, .int x1)] [] μ ν := by
  unfold e_M_scans_99 at hF
  refine z_aload_n d_M_scans_99 0 rfl rfl ?_
  refine z_getr d_M_scans_100 (q := (q + 7)) f_M_33 (hm 0 _ rfl) rfl ?_
  refine z_bipush d_M_scans_103 (v := 43) (by decide) ?_
  refine z_iload_n d_M_scans_105 1 rfl rfl ?_
  refine z_iast d_M_scans_106 (hm 7 _ rfl) (zin_vp rfl) ?_
  obtain ⟨μy1, hy1, hF⟩ := zh_let hF
  refine z_eqm hy1 ?_
  cases hF
  exact z_return d_M_scans_107 rfl ⟨rfl, rfl, rfl⟩
def e_M_scans_80 (q : Nat)  (x1 : Int32) (μ : zI) (ν : zJ) : Option (zI × zJ) := zlet (zu μ (q + 7) 44 (μ q 30)) fun μy1 => zlet (zu μy1 (q + 7) 45 x1) fun μy2 => e_M_scans_99 q x1 μy2 ν
theorem z_M_scans_80 {l : Launch} {D : va_G} {dA : Nat → ClassId} {ad : Nat → Nat} {sh : List zSE}  {q : Nat} (hm : zMo sh q)  {x1 : Int32} {μ : zI} {ν : zJ} {out : (zI × zJ)} (hF : e_M_scans_80 q  x1 μ ν = some out) : Z l D dA ad sh m_M_scans (zR 3 0 0) (zS ad) (zOv out) 0 0 0 0 [] 80 [(0, .ref (ad q)), (1, .int x1)] [] μ ν := by
  unfold e_M_scans_80 at hF
  refine z_aload_n d_M_scans_80 0 rfl rfl ?_
  refine z_getr d_M_scans_81 (q := (q + 7)) f_M_33 (hm 0 _ rfl) rfl ?_
  refine z_bipush d_M_scans_84 (v := 44) (by decide) ?_
  refine z_aload_n d_M_scans_86 0 rfl rfl ?_
  refine z_get d_M_scans_87 f_M_200 (hm 0 _ rfl) rfl ?_
  refine z_iast d_M_scans_90 (hm 7 _ rfl) (zin_vp rfl) ?_
  obtain ⟨μy1, hy1, hF⟩ := zh_let hF
  refine z_eqm hy1 ?_
  refine z_aload_n d_M_scans_91 0 rfl rfl ?_
  refine z_getr d_M_scans_92 (q := (q + 7)) f_M_33 (hm 0 _ rfl) rfl ?_
  refine z_bipush d_M_scans_95 (v := 45) (by decide) ?_
  refine z_iload_n d_M_scans_97 1 rfl rfl ?_
  refine z_iast d_M_scans_98 (hm 7 _ rfl) (zin_vp rfl) ?_
  obtain ⟨μy2, hy2, hF⟩ := zh_let hF
  refine z_eqm hy2 ?_
  exact z_M_scans_99 hm  hF
def e_M_scans_30 (q : Nat)  (s0 : Int32) (μ : zI) (ν : zJ) : Option (zI × zJ) := (if 1000 ≤ s0 then zlet (zu μ (q + 7) 31 0) fun μy2 => zlet (zu μy2 (q + 7) 26 (μy2 (q + 7) 45)) fun μy3 => Option.bind (E_M_powerAt q (μy3 (q + 7) 26) μy3 ν) fun ty4 => zlet (zu ty4.2.1 q 30 ty4.1) fun μy5 => zlet (zu μy5 (q + 7) 28 (μy5 (q + 7) 12)) fun μy6 => zlet (zu μy6 (q + 7) 29 0) fun μy7 => zlet (zu μy7 (q + 7) 27 1) fun μy8 => zlet (zu μy8 (q + 7) 32 0) fun μy9 => zlet (zu μy9 (q + 7) 30 (μy9 q 30)) fun μy10 => zlet (zul ty4.2.2 (q + 9) 7 ((ty4.2.2 (q + 9) 7) + 1)) fun νy11 => some (μy10, νy11) else zlet (zu μ (q + 7) 26 s0) fun μy12 => Option.bind (E_M_powerAt q s0 μy12 ν) fun ty13 => zlet (zu ty13.2.1 q 30 ty13.1) fun μy14 => (if (μy14 (q + 7) 43) = (-1) then e_M_scans_80 q s0 μy14 ty13.2.2 else (if (μy14 q 30) ≤ (μy14 (q + 7) 44) then e_M_scans_99 q s0 μy14 ty13.2.2 else e_M_scans_80 q s0 μy14 ty13.2.2)))
theorem z_M_scans_30 {l : Launch} {D : va_G} {dA : Nat → ClassId} {ad : Nat → Nat} {sh : List zSE}  {q : Nat} (hm : zMo sh q)  {s0 : Int32} {μ : zI} {ν : zJ} {out : (zI × zJ)} (hF : e_M_scans_30 q  s0 μ ν = some out) : Z l D dA ad sh m_M_scans (zR 3 0 0) (zS ad) (zOv out) 0 0 0 0 [] 30 [(0, .ref (ad q))] [.int s0] μ ν := by
  unfold e_M_scans_30 at hF
  refine z_istore_n d_M_scans_30 rfl (by decide) (L2 := [(1, .int s0), (0, .ref (ad q))]) rfl ?_
  refine z_iload_n d_M_scans_31 0 rfl rfl ?_
  refine z_sipush d_M_scans_32 (v := 1000) (by decide) ?_
  refine z_icmp_ge d_M_scans_35 (tgt := 108) (by decide) (fun cy1 => ?_) (fun cy1 => ?_)
  · replace hF := zh_t cy1 hF
    refine z_aload_n d_M_scans_108 1 rfl rfl ?_
    refine z_getr d_M_scans_109 (q := (q + 7)) f_M_33 (hm 0 _ rfl) rfl ?_
    refine z_bipush d_M_scans_112 (v := 31) (by decide) ?_
    refine z_iconst d_M_scans_114 (v := 0) (by decide) ?_
    refine z_iast d_M_scans_115 (hm 7 _ rfl) (zin_vp rfl) ?_
    obtain ⟨μy2, hy2, hF⟩ := zh_let hF
    refine z_eqm hy2 ?_
    refine z_aload_n d_M_scans_116 1 rfl rfl ?_
    refine z_getr d_M_scans_117 (q := (q + 7)) f_M_33 (hm 0 _ rfl) rfl ?_
    refine z_bipush d_M_scans_120 (v := 26) (by decide) ?_
    refine z_aload_n d_M_scans_122 1 rfl rfl ?_
    refine z_getr d_M_scans_123 (q := (q + 7)) f_M_33 (hm 0 _ rfl) rfl ?_
    refine z_bipush d_M_scans_126 (v := 45) (by decide) ?_
    refine z_iald d_M_scans_128 (hm 7 _ rfl) (zin_vp rfl) ?_
    show Z _ _ _ _ _ _ _ _ _ _ _ _ _ _ _ _ [.int (μy2 (q + 7) 45), .int 26, .ref (ad (q + 7))] _ _
    refine z_iast d_M_scans_129 (hm 7 _ rfl) (zin_vp rfl) ?_
    obtain ⟨μy3, hy3, hF⟩ := zh_let hF
    refine z_eqm hy3 ?_
    refine z_aload_n d_M_scans_130 1 rfl rfl ?_
    refine z_aload_n d_M_scans_131 1 rfl rfl ?_
    refine z_aload_n d_M_scans_132 1 rfl rfl ?_
    refine z_getr d_M_scans_133 (q := (q + 7)) f_M_33 (hm 0 _ rfl) rfl ?_
    refine z_bipush d_M_scans_136 (v := 26) (by decide) ?_
    refine z_iald d_M_scans_138 (hm 7 _ rfl) (zin_vp rfl) ?_
    show Z _ _ _ _ _ _ _ _ _ _ _ _ _ _ _ _ [.int (μy3 (q + 7) 26), .ref (ad q), .ref (ad q)] _ _
    obtain ⟨ty4, hty4, hF⟩ := zh_bind hF
    refine z_callV d_M_scans_139 (c_M_powerAt hm hty4) mv_M_powerAt l_M_188 (fun _ _ h => h) (hm 0 _ rfl) rfl rfl ⟨Nat.le_of_ble_eq_true rfl, Nat.le_of_ble_eq_true rfl⟩ ⟨Nat.le_of_ble_eq_true rfl, Nat.le_of_ble_eq_true rfl⟩ rfl (Nat.le_of_ble_eq_true rfl) (fun r μ' ν' hq => ?_)
    obtain ⟨rfl, rfl, rfl⟩ := hq
    show Z _ _ _ _ _ _ _ _ _ _ _ 0 0 _ _ _ [.int ty4.1, .ref (ad q)] _ _
    refine z_put d_M_scans_142 f_M_200 (hm 0 _ rfl) rfl (CL_fin _ _ (fun q hq => by cases hq; rfl)) rfl rfl ?_
    obtain ⟨μy5, hy5, hF⟩ := zh_let hF
    refine z_eqm hy5 ?_
    refine z_aload_n d_M_scans_145 1 rfl rfl ?_
    refine z_getr d_M_scans_146 (q := (q + 7)) f_M_33 (hm 0 _ rfl) rfl ?_
    refine z_bipush d_M_scans_149 (v := 28) (by decide) ?_
    refine z_aload_n d_M_scans_151 1 rfl rfl ?_
    refine z_getr d_M_scans_152 (q := (q + 7)) f_M_33 (hm 0 _ rfl) rfl ?_
    refine z_bipush d_M_scans_155 (v := 12) (by decide) ?_
    refine z_iald d_M_scans_157 (hm 7 _ rfl) (zin_vp rfl) ?_
    show Z _ _ _ _ _ _ _ _ _ _ _ _ _ _ _ _ [.int (μy5 (q + 7) 12), .int 28, .ref (ad (q + 7))] _ _
    refine z_iast d_M_scans_158 (hm 7 _ rfl) (zin_vp rfl) ?_
    obtain ⟨μy6, hy6, hF⟩ := zh_let hF
    refine z_eqm hy6 ?_
    refine z_aload_n d_M_scans_159 1 rfl rfl ?_
    refine z_getr d_M_scans_160 (q := (q + 7)) f_M_33 (hm 0 _ rfl) rfl ?_
    refine z_bipush d_M_scans_163 (v := 29) (by decide) ?_
    refine z_iconst d_M_scans_165 (v := 0) (by decide) ?_
    refine z_iast d_M_scans_166 (hm 7 _ rfl) (zin_vp rfl) ?_
    obtain ⟨μy7, hy7, hF⟩ := zh_let hF
    refine z_eqm hy7 ?_
    refine z_aload_n d_M_scans_167 1 rfl rfl ?_
    refine z_getr d_M_scans_168 (q := (q + 7)) f_M_33 (hm 0 _ rfl) rfl ?_
    refine z_bipush d_M_scans_171 (v := 27) (by decide) ?_
    refine z_iconst d_M_scans_173 (v := 1) (by decide) ?_
    refine z_iast d_M_scans_174 (hm 7 _ rfl) (zin_vp rfl) ?_
    obtain ⟨μy8, hy8, hF⟩ := zh_let hF
    refine z_eqm hy8 ?_
    refine z_aload_n d_M_scans_175 1 rfl rfl ?_
    refine z_getr d_M_scans_176 (q := (q + 7)) f_M_33 (hm 0 _ rfl) rfl ?_
    refine z_bipush d_M_scans_179 (v := 32) (by decide) ?_
    refine z_iconst d_M_scans_181 (v := 0) (by decide) ?_
    refine z_iast d_M_scans_182 (hm 7 _ rfl) (zin_vp rfl) ?_
    obtain ⟨μy9, hy9, hF⟩ := zh_let hF
    refine z_eqm hy9 ?_
    refine z_aload_n d_M_scans_183 1 rfl rfl ?_
    refine z_getr d_M_scans_184 (q := (q + 7)) f_M_33 (hm 0 _ rfl) rfl ?_
    refine z_bipush d_M_scans_187 (v := 30) (by decide) ?_
    refine z_aload_n d_M_scans_189 1 rfl rfl ?_
    refine z_get d_M_scans_190 f_M_200 (hm 0 _ rfl) rfl ?_
    refine z_iast d_M_scans_193 (hm 7 _ rfl) (zin_vp rfl) ?_
    obtain ⟨μy10, hy10, hF⟩ := zh_let hF
    refine z_eqm hy10 ?_
    refine z_aload_n d_M_scans_194 1 rfl rfl ?_
    refine z_getr d_M_scans_195 (q := (q + 9)) f_M_39 (hm 0 _ rfl) rfl ?_
    refine z_bipush d_M_scans_198 (v := 7) (by decide) ?_
    refine z_dup2 d_M_scans_200 rfl rfl ?_
    refine z_lald d_M_scans_201 (hm 9 _ rfl) (zin_vp rfl) ?_
    show Z _ _ _ _ _ _ _ _ _ _ _ _ _ _ _ _ [.long (ty4.2.2 (q + 9) 7), .int 7, .ref (ad (q + 9))] _ _
    refine z_lconst d_M_scans_202 (v := 1) (by decide) ?_
    refine z_ladd d_M_scans_203 ?_
    refine z_last d_M_scans_204 (hm 9 _ rfl) (zin_vp rfl) ?_
    obtain ⟨νy11, hy11, hF⟩ := zh_let hF
    refine z_eqn hy11 ?_
    cases hF
    exact z_return d_M_scans_205 rfl ⟨rfl, rfl, rfl⟩
  · replace hF := zh_f cy1 hF
    refine z_aload_n d_M_scans_38 1 rfl rfl ?_
    refine z_getr d_M_scans_39 (q := (q + 7)) f_M_33 (hm 0 _ rfl) rfl ?_
    refine z_bipush d_M_scans_42 (v := 26) (by decide) ?_
    refine z_iload_n d_M_scans_44 0 rfl rfl ?_
    refine z_iast d_M_scans_45 (hm 7 _ rfl) (zin_vp rfl) ?_
    obtain ⟨μy12, hy12, hF⟩ := zh_let hF
    refine z_eqm hy12 ?_
    refine z_aload_n d_M_scans_46 1 rfl rfl ?_
    refine z_aload_n d_M_scans_47 1 rfl rfl ?_
    refine z_iload_n d_M_scans_48 0 rfl rfl ?_
    obtain ⟨ty13, hty13, hF⟩ := zh_bind hF
    refine z_callV d_M_scans_49 (c_M_powerAt hm hty13) mv_M_powerAt l_M_188 (fun _ _ h => h) (hm 0 _ rfl) rfl rfl ⟨Nat.le_of_ble_eq_true rfl, Nat.le_of_ble_eq_true rfl⟩ ⟨Nat.le_of_ble_eq_true rfl, Nat.le_of_ble_eq_true rfl⟩ rfl (Nat.le_of_ble_eq_true rfl) (fun r μ' ν' hq => ?_)
    obtain ⟨rfl, rfl, rfl⟩ := hq
    show Z _ _ _ _ _ _ _ _ _ _ _ 0 0 _ _ _ [.int ty13.1, .ref (ad q)] _ _
    refine z_put d_M_scans_52 f_M_200 (hm 0 _ rfl) rfl (CL_fin _ _ (fun q hq => by cases hq; rfl)) rfl rfl ?_
    obtain ⟨μy14, hy14, hF⟩ := zh_let hF
    refine z_eqm hy14 ?_
    refine z_aload_n d_M_scans_55 1 rfl rfl ?_
    refine z_getr d_M_scans_56 (q := (q + 7)) f_M_33 (hm 0 _ rfl) rfl ?_
    refine z_bipush d_M_scans_59 (v := 43) (by decide) ?_
    refine z_iald d_M_scans_61 (hm 7 _ rfl) (zin_vp rfl) ?_
    show Z _ _ _ _ _ _ _ _ _ _ _ _ _ _ _ _ [.int (μy14 (q + 7) 43)] _ _
    refine z_iconst d_M_scans_62 (v := (-1)) (by decide) ?_
    refine z_icmp_eq d_M_scans_63 (tgt := 80) (by decide) (fun cy15 => ?_) (fun cy15 => ?_)
    · replace hF := zh_t cy15 hF
      refine z_sub [1, 0] (L' := [(0, .ref (ad q)), (1, .int s0)]) rfl ?_
      exact z_M_scans_80 hm  hF
    · replace hF := zh_f cy15 hF
      refine z_aload_n d_M_scans_66 1 rfl rfl ?_
      refine z_get d_M_scans_67 f_M_200 (hm 0 _ rfl) rfl ?_
      refine z_aload_n d_M_scans_70 1 rfl rfl ?_
      refine z_getr d_M_scans_71 (q := (q + 7)) f_M_33 (hm 0 _ rfl) rfl ?_
      refine z_bipush d_M_scans_74 (v := 44) (by decide) ?_
      refine z_iald d_M_scans_76 (hm 7 _ rfl) (zin_vp rfl) ?_
      show Z _ _ _ _ _ _ _ _ _ _ _ _ _ _ _ _ [.int (μy14 (q + 7) 44), .int (μy14 q 30)] _ _
      refine z_icmp_le d_M_scans_77 (tgt := 99) (by decide) (fun cy16 => ?_) (fun cy16 => ?_)
      · replace hF := zh_t cy16 hF
        refine z_sub [1, 0] (L' := [(0, .ref (ad q)), (1, .int s0)]) rfl ?_
        exact z_M_scans_99 hm  hF
      · replace hF := zh_f cy16 hF
        refine z_sub [1, 0] (L' := [(0, .ref (ad q)), (1, .int s0)]) rfl ?_
        exact z_M_scans_80 hm  hF
def e_M_scans_0 (q : Nat)   (μ : zI) (ν : zJ) : Option (zI × zJ) := (if (μ (q + 7) 43) = (-1) then e_M_scans_30 q 0 μ ν else e_M_scans_30 q ((μ (q + 7) 43) + (μ (q + 7) 14)) μ ν)
theorem z_M_scans_0 {l : Launch} {D : va_G} {dA : Nat → ClassId} {ad : Nat → Nat} {sh : List zSE}  {q : Nat} (hm : zMo sh q)   {μ : zI} {ν : zJ} {out : (zI × zJ)} (hF : e_M_scans_0 q   μ ν = some out) : Z l D dA ad sh m_M_scans (zR 3 0 0) (zS ad) (zOv out) 0 0 0 0 [] 0 [(0, .ref (ad q))] [] μ ν := by
  unfold e_M_scans_0 at hF
  refine z_aload_n d_M_scans_0 0 rfl rfl ?_
  refine z_getr d_M_scans_1 (q := (q + 7)) f_M_33 (hm 0 _ rfl) rfl ?_
  refine z_bipush d_M_scans_4 (v := 43) (by decide) ?_
  refine z_iald d_M_scans_6 (hm 7 _ rfl) (zin_vp rfl) ?_
  show Z _ _ _ _ _ _ _ _ _ _ _ _ _ _ _ _ [.int (μ (q + 7) 43)] _ _
  refine z_iconst d_M_scans_7 (v := (-1)) (by decide) ?_
  refine z_icmp_ne d_M_scans_8 (tgt := 15) (by decide) (fun cy1 => ?_) (fun cy1 => ?_)
  · replace hF := zh_f cy1 hF
    refine z_aload_n d_M_scans_15 0 rfl rfl ?_
    refine z_getr d_M_scans_16 (q := (q + 7)) f_M_33 (hm 0 _ rfl) rfl ?_
    refine z_bipush d_M_scans_19 (v := 43) (by decide) ?_
    refine z_iald d_M_scans_21 (hm 7 _ rfl) (zin_vp rfl) ?_
    show Z _ _ _ _ _ _ _ _ _ _ _ _ _ _ _ _ [.int (μ (q + 7) 43)] _ _
    refine z_aload_n d_M_scans_22 0 rfl rfl ?_
    refine z_getr d_M_scans_23 (q := (q + 7)) f_M_33 (hm 0 _ rfl) rfl ?_
    refine z_bipush d_M_scans_26 (v := 14) (by decide) ?_
    refine z_iald d_M_scans_28 (hm 7 _ rfl) (zin_vp rfl) ?_
    show Z _ _ _ _ _ _ _ _ _ _ _ _ _ _ _ _ [.int (μ (q + 7) 14), .int (μ (q + 7) 43)] _ _
    refine z_iadd d_M_scans_29 ?_
    exact z_M_scans_30 hm  hF
  · replace hF := zh_t cy1 hF
    refine z_iconst d_M_scans_11 (v := 0) (by decide) ?_
    refine z_goto d_M_scans_12 (tgt := 30) (by decide) ?_
    exact z_M_scans_30 hm  hF
def E_M_scans (q : Nat)  (μ : zI) (ν : zJ) : Option (zI × zJ) := e_M_scans_0 q μ ν
theorem c_M_scans {l : Launch} {D : va_G} {dA : Nat → ClassId} {ad : Nat → Nat} {sh : List zSE} {μ : zI} {ν : zJ} {q : Nat} (hm : zMo sh q) {out : (zI × zJ)} (hE : E_M_scans q μ ν = some out) : zC l D dA ad sh m_M_scans 3 0 0 [.ref (ad q)] μ ν (zOv out) :=
  zC.of (by decide) (Nat.le_of_ble_eq_true rfl) (z_M_scans_0 hm hE)
def e_M_learns_71 (q : Nat)  (s1 : Int32) (s2 : Int32) (μ : zI) (ν : zJ) : Option (zI × zJ) := (if zin s1 146 = true then zlet (zu μ (q + 7) (Int32.toNatClampNeg s1) s2) fun μy2 => some (μy2, ν) else none)
theorem z_M_learns_71 {l : Launch} {D : va_G} {dA : Nat → ClassId} {ad : Nat → Nat} {sh : List zSE}  {q : Nat} (hm : zMo sh q)  {s1 : Int32} {s2 : Int32} {μ : zI} {ν : zJ} {out : (zI × zJ)} (hF : e_M_learns_71 q  s1 s2 μ ν = some out) : Z l D dA ad sh m_M_learns (zR 0 0 0) (zS ad) (zOv out) 0 0 0 0 [] 71 [(0, .ref (ad q))] [.int s2, .int s1, .ref (ad (q + 7))] μ ν := by
  unfold e_M_learns_71 at hF
  obtain ⟨hy1, hF⟩ := zh_if hF
  refine z_iast d_M_learns_71 (hm 7 _ rfl) (zin_vp hy1) ?_
  obtain ⟨μy2, hy2, hF⟩ := zh_let hF
  refine z_eqm hy2 ?_
  cases hF
  exact z_return d_M_learns_72 rfl ⟨rfl, rfl, rfl⟩
def e_M_learns_0 (q : Nat)   (μ : zI) (ν : zJ) : Option (zI × zJ) := zlet (zu μ (q + 7) 29 ((μ (q + 7) 29) + 1)) fun μy1 => (if (μy1 (q + 7) 13) ≤ (μy1 (q + 7) 29) then zlet (zu μy1 (q + 7) 29 0) fun μy3 => (if (2 * (μy3 (q + 7) 28)) ≤ 64 then e_M_learns_71 q 28 (2 * (μy3 (q + 7) 28)) μy3 ν else e_M_learns_71 q 28 64 μy3 ν) else some (μy1, ν))
theorem z_M_learns_0 {l : Launch} {D : va_G} {dA : Nat → ClassId} {ad : Nat → Nat} {sh : List zSE}  {q : Nat} (hm : zMo sh q)   {μ : zI} {ν : zJ} {out : (zI × zJ)} (hF : e_M_learns_0 q   μ ν = some out) : Z l D dA ad sh m_M_learns (zR 0 0 0) (zS ad) (zOv out) 0 0 0 0 [] 0 [(0, .ref (ad q))] [] μ ν := by
  unfold e_M_learns_0 at hF
  refine z_aload_n d_M_learns_0 0 rfl rfl ?_
  refine z_getr d_M_learns_1 (q := (q + 7)) f_M_33 (hm 0 _ rfl) rfl ?_
  refine z_bipush d_M_learns_4 (v := 29) (by decide) ?_
  refine z_dup2 d_M_learns_6 rfl rfl ?_
  refine z_iald d_M_learns_7 (hm 7 _ rfl) (zin_vp rfl) ?_
  show Z _ _ _ _ _ _ _ _ _ _ _ _ _ _ _ _ [.int (μ (q + 7) 29), .int 29, .ref (ad (q + 7))] _ _
  refine z_iconst d_M_learns_8 (v := 1) (by decide) ?_
  refine z_iadd d_M_learns_9 ?_
  refine z_iast d_M_learns_10 (hm 7 _ rfl) (zin_vp rfl) ?_
  obtain ⟨μy1, hy1, hF⟩ := zh_let hF
  refine z_eqm hy1 ?_
  refine z_aload_n d_M_learns_11 0 rfl rfl ?_
  refine z_getr d_M_learns_12 (q := (q + 7)) f_M_33 (hm 0 _ rfl) rfl ?_
  refine z_bipush d_M_learns_15 (v := 29) (by decide) ?_
  refine z_iald d_M_learns_17 (hm 7 _ rfl) (zin_vp rfl) ?_
  show Z _ _ _ _ _ _ _ _ _ _ _ _ _ _ _ _ [.int (μy1 (q + 7) 29)] _ _
  refine z_aload_n d_M_learns_18 0 rfl rfl ?_
  refine z_getr d_M_learns_19 (q := (q + 7)) f_M_33 (hm 0 _ rfl) rfl ?_
  refine z_bipush d_M_learns_22 (v := 13) (by decide) ?_
  refine z_iald d_M_learns_24 (hm 7 _ rfl) (zin_vp rfl) ?_
  show Z _ _ _ _ _ _ _ _ _ _ _ _ _ _ _ _ [.int (μy1 (q + 7) 13), .int (μy1 (q + 7) 29)] _ _
  refine z_icmp_ge d_M_learns_25 (tgt := 29) (by decide) (fun cy2 => ?_) (fun cy2 => ?_)
  · replace hF := zh_t cy2 hF
    refine z_aload_n d_M_learns_29 0 rfl rfl ?_
    refine z_getr d_M_learns_30 (q := (q + 7)) f_M_33 (hm 0 _ rfl) rfl ?_
    refine z_bipush d_M_learns_33 (v := 29) (by decide) ?_
    refine z_iconst d_M_learns_35 (v := 0) (by decide) ?_
    refine z_iast d_M_learns_36 (hm 7 _ rfl) (zin_vp rfl) ?_
    obtain ⟨μy3, hy3, hF⟩ := zh_let hF
    refine z_eqm hy3 ?_
    refine z_aload_n d_M_learns_37 0 rfl rfl ?_
    refine z_getr d_M_learns_38 (q := (q + 7)) f_M_33 (hm 0 _ rfl) rfl ?_
    refine z_bipush d_M_learns_41 (v := 28) (by decide) ?_
    refine z_iconst d_M_learns_43 (v := 2) (by decide) ?_
    refine z_aload_n d_M_learns_44 0 rfl rfl ?_
    refine z_getr d_M_learns_45 (q := (q + 7)) f_M_33 (hm 0 _ rfl) rfl ?_
    refine z_bipush d_M_learns_48 (v := 28) (by decide) ?_
    refine z_iald d_M_learns_50 (hm 7 _ rfl) (zin_vp rfl) ?_
    show Z _ _ _ _ _ _ _ _ _ _ _ _ _ _ _ _ [.int (μy3 (q + 7) 28), .int 2, .int 28, .ref (ad (q + 7))] _ _
    refine z_imul d_M_learns_51 ?_
    refine z_bipush d_M_learns_52 (v := 64) (by decide) ?_
    refine z_icmp_le d_M_learns_54 (tgt := 62) (by decide) (fun cy4 => ?_) (fun cy4 => ?_)
    · replace hF := zh_t cy4 hF
      refine z_iconst d_M_learns_62 (v := 2) (by decide) ?_
      refine z_aload_n d_M_learns_63 0 rfl rfl ?_
      refine z_getr d_M_learns_64 (q := (q + 7)) f_M_33 (hm 0 _ rfl) rfl ?_
      refine z_bipush d_M_learns_67 (v := 28) (by decide) ?_
      refine z_iald d_M_learns_69 (hm 7 _ rfl) (zin_vp rfl) ?_
      show Z _ _ _ _ _ _ _ _ _ _ _ _ _ _ _ _ [.int (μy3 (q + 7) 28), .int 2, .int 28, .ref (ad (q + 7))] _ _
      refine z_imul d_M_learns_70 ?_
      exact z_M_learns_71 hm  hF
    · replace hF := zh_f cy4 hF
      refine z_bipush d_M_learns_57 (v := 64) (by decide) ?_
      refine z_goto d_M_learns_59 (tgt := 71) (by decide) ?_
      exact z_M_learns_71 hm  hF
  · replace hF := zh_f cy2 hF
    cases hF
    exact z_return d_M_learns_28 rfl ⟨rfl, rfl, rfl⟩
def E_M_learns (q : Nat)  (μ : zI) (ν : zJ) : Option (zI × zJ) := e_M_learns_0 q μ ν
theorem c_M_learns {l : Launch} {D : va_G} {dA : Nat → ClassId} {ad : Nat → Nat} {sh : List zSE} {μ : zI} {ν : zJ} {q : Nat} (hm : zMo sh q) {out : (zI × zJ)} (hE : E_M_learns q μ ν = some out) : zC l D dA ad sh m_M_learns 0 0 0 [.ref (ad q)] μ ν (zOv out) :=
  zC.of (by decide) (Nat.le_of_ble_eq_true rfl) (z_M_learns_0 hm hE)
def e_M_slows_32 (q : Nat)  (s1 : Int32) (s2 : Int32) (μ : zI) (ν : zJ) : Option (zI × zJ) := (if zin s1 146 = true then zlet (zu μ (q + 7) (Int32.toNatClampNeg s1) s2) fun μy2 => zlet (zu μy2 (q + 7) 29 0) fun μy3 => some (μy3, ν) else none)
theorem z_M_slows_32 {l : Launch} {D : va_G} {dA : Nat → ClassId} {ad : Nat → Nat} {sh : List zSE}  {q : Nat} (hm : zMo sh q)  {s1 : Int32} {s2 : Int32} {μ : zI} {ν : zJ} {out : (zI × zJ)} (hF : e_M_slows_32 q  s1 s2 μ ν = some out) : Z l D dA ad sh m_M_slows (zR 0 0 0) (zS ad) (zOv out) 0 0 0 0 [] 32 [(0, .ref (ad q))] [.int s2, .int s1, .ref (ad (q + 7))] μ ν := by
  unfold e_M_slows_32 at hF
  obtain ⟨hy1, hF⟩ := zh_if hF
  refine z_iast d_M_slows_32 (hm 7 _ rfl) (zin_vp hy1) ?_
  obtain ⟨μy2, hy2, hF⟩ := zh_let hF
  refine z_eqm hy2 ?_
  refine z_aload_n d_M_slows_33 0 rfl rfl ?_
  refine z_getr d_M_slows_34 (q := (q + 7)) f_M_33 (hm 0 _ rfl) rfl ?_
  refine z_bipush d_M_slows_37 (v := 29) (by decide) ?_
  refine z_iconst d_M_slows_39 (v := 0) (by decide) ?_
  refine z_iast d_M_slows_40 (hm 7 _ rfl) (zin_vp rfl) ?_
  obtain ⟨μy3, hy3, hF⟩ := zh_let hF
  refine z_eqm hy3 ?_
  cases hF
  exact z_return d_M_slows_41 rfl ⟨rfl, rfl, rfl⟩
def e_M_slows_0 (q : Nat)   (μ : zI) (ν : zJ) : Option (zI × zJ) := (if 1 ≤ ((μ (q + 7) 28) / 2) then e_M_slows_32 q 28 ((μ (q + 7) 28) / 2) μ ν else e_M_slows_32 q 28 1 μ ν)
theorem z_M_slows_0 {l : Launch} {D : va_G} {dA : Nat → ClassId} {ad : Nat → Nat} {sh : List zSE}  {q : Nat} (hm : zMo sh q)   {μ : zI} {ν : zJ} {out : (zI × zJ)} (hF : e_M_slows_0 q   μ ν = some out) : Z l D dA ad sh m_M_slows (zR 0 0 0) (zS ad) (zOv out) 0 0 0 0 [] 0 [(0, .ref (ad q))] [] μ ν := by
  unfold e_M_slows_0 at hF
  refine z_aload_n d_M_slows_0 0 rfl rfl ?_
  refine z_getr d_M_slows_1 (q := (q + 7)) f_M_33 (hm 0 _ rfl) rfl ?_
  refine z_bipush d_M_slows_4 (v := 28) (by decide) ?_
  refine z_aload_n d_M_slows_6 0 rfl rfl ?_
  refine z_getr d_M_slows_7 (q := (q + 7)) f_M_33 (hm 0 _ rfl) rfl ?_
  refine z_bipush d_M_slows_10 (v := 28) (by decide) ?_
  refine z_iald d_M_slows_12 (hm 7 _ rfl) (zin_vp rfl) ?_
  show Z _ _ _ _ _ _ _ _ _ _ _ _ _ _ _ _ [.int (μ (q + 7) 28), .int 28, .ref (ad (q + 7))] _ _
  refine z_iconst d_M_slows_13 (v := 2) (by decide) ?_
  refine z_idiv d_M_slows_14 (by decide) ?_
  refine z_iconst d_M_slows_15 (v := 1) (by decide) ?_
  refine z_icmp_ge d_M_slows_16 (tgt := 23) (by decide) (fun cy1 => ?_) (fun cy1 => ?_)
  · replace hF := zh_t cy1 hF
    refine z_aload_n d_M_slows_23 0 rfl rfl ?_
    refine z_getr d_M_slows_24 (q := (q + 7)) f_M_33 (hm 0 _ rfl) rfl ?_
    refine z_bipush d_M_slows_27 (v := 28) (by decide) ?_
    refine z_iald d_M_slows_29 (hm 7 _ rfl) (zin_vp rfl) ?_
    show Z _ _ _ _ _ _ _ _ _ _ _ _ _ _ _ _ [.int (μ (q + 7) 28), .int 28, .ref (ad (q + 7))] _ _
    refine z_iconst d_M_slows_30 (v := 2) (by decide) ?_
    refine z_idiv d_M_slows_31 (by decide) ?_
    exact z_M_slows_32 hm  hF
  · replace hF := zh_f cy1 hF
    refine z_iconst d_M_slows_19 (v := 1) (by decide) ?_
    refine z_goto d_M_slows_20 (tgt := 32) (by decide) ?_
    exact z_M_slows_32 hm  hF
def E_M_slows (q : Nat)  (μ : zI) (ν : zJ) : Option (zI × zJ) := e_M_slows_0 q μ ν
theorem c_M_slows {l : Launch} {D : va_G} {dA : Nat → ClassId} {ad : Nat → Nat} {sh : List zSE} {μ : zI} {ν : zJ} {q : Nat} (hm : zMo sh q) {out : (zI × zJ)} (hE : E_M_slows q μ ν = some out) : zC l D dA ad sh m_M_slows 0 0 0 [.ref (ad q)] μ ν (zOv out) :=
  zC.of (by decide) (Nat.le_of_ble_eq_true rfl) (z_M_slows_0 hm hE)
def e_M_climbs_88 (q : Nat)   (μ : zI) (ν : zJ) : Option (zI × zJ) := some (μ, ν)
theorem z_M_climbs_88 {l : Launch} {D : va_G} {dA : Nat → ClassId} {ad : Nat → Nat} {sh : List zSE}  {q : Nat} (hm : zMo sh q)   {μ : zI} {ν : zJ} {out : (zI × zJ)} (hF : e_M_climbs_88 q   μ ν = some out) : Z l D dA ad sh m_M_climbs (zR 3 0 0) (zS ad) (zOv out) 0 0 0 0 [] 88 [(0, .ref (ad q))] [] μ ν := by
  unfold e_M_climbs_88 at hF
  cases hF
  exact z_return d_M_climbs_88 rfl ⟨rfl, rfl, rfl⟩
def e_M_climbs_0 (q : Nat)   (μ : zI) (ν : zJ) : Option (zI × zJ) := Option.bind (E_M_within ((μ (q + 7) 26) + ((μ (q + 7) 27) * (μ (q + 7) 28))) μ ν) fun ty1 => zlet (zu ty1.2.1 (q + 7) 26 ty1.1) fun μy2 => Option.bind (E_M_powerAt q (μy2 (q + 7) 26) μy2 ty1.2.2) fun ty3 => zlet (zu ty3.2.1 q 30 ty3.1) fun μy4 => (if (μy4 q 30) ≤ (μy4 (q + 7) 30) then zlet (zu μy4 (q + 7) 27 (-(μy4 (q + 7) 27))) fun μy6 => Option.bind (E_M_slows q μy6 ty3.2.2) fun ty7 => e_M_climbs_88 q ty7.1 ty7.2 else Option.bind (E_M_learns q μy4 ty3.2.2) fun ty8 => e_M_climbs_88 q ty8.1 ty8.2)
theorem z_M_climbs_0 {l : Launch} {D : va_G} {dA : Nat → ClassId} {ad : Nat → Nat} {sh : List zSE}  {q : Nat} (hm : zMo sh q)   {μ : zI} {ν : zJ} {out : (zI × zJ)} (hF : e_M_climbs_0 q   μ ν = some out) : Z l D dA ad sh m_M_climbs (zR 3 0 0) (zS ad) (zOv out) 0 0 0 0 [] 0 [(0, .ref (ad q))] [] μ ν := by
  unfold e_M_climbs_0 at hF
  refine z_aload_n d_M_climbs_0 0 rfl rfl ?_
  refine z_getr d_M_climbs_1 (q := (q + 7)) f_M_33 (hm 0 _ rfl) rfl ?_
  refine z_bipush d_M_climbs_4 (v := 26) (by decide) ?_
  refine z_aload_n d_M_climbs_6 0 rfl rfl ?_
  refine z_getr d_M_climbs_7 (q := (q + 7)) f_M_33 (hm 0 _ rfl) rfl ?_
  refine z_bipush d_M_climbs_10 (v := 26) (by decide) ?_
  refine z_iald d_M_climbs_12 (hm 7 _ rfl) (zin_vp rfl) ?_
  show Z _ _ _ _ _ _ _ _ _ _ _ _ _ _ _ _ [.int (μ (q + 7) 26), .int 26, .ref (ad (q + 7))] _ _
  refine z_aload_n d_M_climbs_13 0 rfl rfl ?_
  refine z_getr d_M_climbs_14 (q := (q + 7)) f_M_33 (hm 0 _ rfl) rfl ?_
  refine z_bipush d_M_climbs_17 (v := 27) (by decide) ?_
  refine z_iald d_M_climbs_19 (hm 7 _ rfl) (zin_vp rfl) ?_
  show Z _ _ _ _ _ _ _ _ _ _ _ _ _ _ _ _ [.int (μ (q + 7) 27), .int (μ (q + 7) 26), .int 26, .ref (ad (q + 7))] _ _
  refine z_aload_n d_M_climbs_20 0 rfl rfl ?_
  refine z_getr d_M_climbs_21 (q := (q + 7)) f_M_33 (hm 0 _ rfl) rfl ?_
  refine z_bipush d_M_climbs_24 (v := 28) (by decide) ?_
  refine z_iald d_M_climbs_26 (hm 7 _ rfl) (zin_vp rfl) ?_
  show Z _ _ _ _ _ _ _ _ _ _ _ _ _ _ _ _ [.int (μ (q + 7) 28), .int (μ (q + 7) 27), .int (μ (q + 7) 26), .int 26, .ref (ad (q + 7))] _ _
  refine z_imul d_M_climbs_27 ?_
  refine z_iadd d_M_climbs_28 ?_
  obtain ⟨ty1, hty1, hF⟩ := zh_bind hF
  refine z_callS d_M_climbs_29 (c_M_within  hty1) ms_M_within l_M_203 (fun _ _ h => h) rfl ⟨Nat.le_of_ble_eq_true rfl, Nat.le_of_ble_eq_true rfl⟩ ⟨Nat.le_of_ble_eq_true rfl, Nat.le_of_ble_eq_true rfl⟩ rfl (Nat.le_of_ble_eq_true rfl) (fun r μ' ν' hq => ?_)
  obtain ⟨rfl, rfl, rfl⟩ := hq
  show Z _ _ _ _ _ _ _ _ _ _ _ 0 0 _ _ _ [.int ty1.1, .int 26, .ref (ad (q + 7))] _ _
  refine z_iast d_M_climbs_32 (hm 7 _ rfl) (zin_vp rfl) ?_
  obtain ⟨μy2, hy2, hF⟩ := zh_let hF
  refine z_eqm hy2 ?_
  refine z_aload_n d_M_climbs_33 0 rfl rfl ?_
  refine z_aload_n d_M_climbs_34 0 rfl rfl ?_
  refine z_aload_n d_M_climbs_35 0 rfl rfl ?_
  refine z_getr d_M_climbs_36 (q := (q + 7)) f_M_33 (hm 0 _ rfl) rfl ?_
  refine z_bipush d_M_climbs_39 (v := 26) (by decide) ?_
  refine z_iald d_M_climbs_41 (hm 7 _ rfl) (zin_vp rfl) ?_
  show Z _ _ _ _ _ _ _ _ _ _ _ _ _ _ _ _ [.int (μy2 (q + 7) 26), .ref (ad q), .ref (ad q)] _ _
  obtain ⟨ty3, hty3, hF⟩ := zh_bind hF
  refine z_callV d_M_climbs_42 (c_M_powerAt hm hty3) mv_M_powerAt l_M_188 (fun _ _ h => h) (hm 0 _ rfl) rfl rfl ⟨Nat.le_of_ble_eq_true rfl, Nat.le_of_ble_eq_true rfl⟩ ⟨Nat.le_of_ble_eq_true rfl, Nat.le_of_ble_eq_true rfl⟩ rfl (Nat.le_of_ble_eq_true rfl) (fun r μ' ν' hq => ?_)
  obtain ⟨rfl, rfl, rfl⟩ := hq
  show Z _ _ _ _ _ _ _ _ _ _ _ 0 0 _ _ _ [.int ty3.1, .ref (ad q)] _ _
  refine z_put d_M_climbs_45 f_M_200 (hm 0 _ rfl) rfl (CL_fin _ _ (fun q hq => by cases hq; rfl)) rfl rfl ?_
  obtain ⟨μy4, hy4, hF⟩ := zh_let hF
  refine z_eqm hy4 ?_
  refine z_aload_n d_M_climbs_48 0 rfl rfl ?_
  refine z_get d_M_climbs_49 f_M_200 (hm 0 _ rfl) rfl ?_
  refine z_aload_n d_M_climbs_52 0 rfl rfl ?_
  refine z_getr d_M_climbs_53 (q := (q + 7)) f_M_33 (hm 0 _ rfl) rfl ?_
  refine z_bipush d_M_climbs_56 (v := 30) (by decide) ?_
  refine z_iald d_M_climbs_58 (hm 7 _ rfl) (zin_vp rfl) ?_
  show Z _ _ _ _ _ _ _ _ _ _ _ _ _ _ _ _ [.int (μy4 (q + 7) 30), .int (μy4 q 30)] _ _
  refine z_icmp_le d_M_climbs_59 (tgt := 69) (by decide) (fun cy5 => ?_) (fun cy5 => ?_)
  · replace hF := zh_t cy5 hF
    refine z_aload_n d_M_climbs_69 0 rfl rfl ?_
    refine z_getr d_M_climbs_70 (q := (q + 7)) f_M_33 (hm 0 _ rfl) rfl ?_
    refine z_bipush d_M_climbs_73 (v := 27) (by decide) ?_
    refine z_aload_n d_M_climbs_75 0 rfl rfl ?_
    refine z_getr d_M_climbs_76 (q := (q + 7)) f_M_33 (hm 0 _ rfl) rfl ?_
    refine z_bipush d_M_climbs_79 (v := 27) (by decide) ?_
    refine z_iald d_M_climbs_81 (hm 7 _ rfl) (zin_vp rfl) ?_
    show Z _ _ _ _ _ _ _ _ _ _ _ _ _ _ _ _ [.int (μy4 (q + 7) 27), .int 27, .ref (ad (q + 7))] _ _
    refine z_ineg d_M_climbs_82 ?_
    refine z_iast d_M_climbs_83 (hm 7 _ rfl) (zin_vp rfl) ?_
    obtain ⟨μy6, hy6, hF⟩ := zh_let hF
    refine z_eqm hy6 ?_
    refine z_aload_n d_M_climbs_84 0 rfl rfl ?_
    obtain ⟨ty7, hty7, hF⟩ := zh_bind hF
    refine z_callV d_M_climbs_85 (c_M_slows hm hty7) mv_M_slows l_M_209 (fun _ _ h => h) (hm 0 _ rfl) rfl rfl ⟨Nat.le_of_ble_eq_true rfl, Nat.le_of_ble_eq_true rfl⟩ ⟨Nat.le_of_ble_eq_true rfl, Nat.le_of_ble_eq_true rfl⟩ rfl (Nat.le_of_ble_eq_true rfl) (fun r μ' ν' hq => ?_)
    obtain ⟨rfl, rfl, rfl⟩ := hq
    show Z _ _ _ _ _ _ _ _ _ _ _ 0 0 _ _ _ [] _ _
    exact z_M_climbs_88 hm  hF
  · replace hF := zh_f cy5 hF
    refine z_aload_n d_M_climbs_62 0 rfl rfl ?_
    obtain ⟨ty8, hty8, hF⟩ := zh_bind hF
    refine z_callV d_M_climbs_63 (c_M_learns hm hty8) mv_M_learns l_M_206 (fun _ _ h => h) (hm 0 _ rfl) rfl rfl ⟨Nat.le_of_ble_eq_true rfl, Nat.le_of_ble_eq_true rfl⟩ ⟨Nat.le_of_ble_eq_true rfl, Nat.le_of_ble_eq_true rfl⟩ rfl (Nat.le_of_ble_eq_true rfl) (fun r μ' ν' hq => ?_)
    obtain ⟨rfl, rfl, rfl⟩ := hq
    show Z _ _ _ _ _ _ _ _ _ _ _ 0 0 _ _ _ [] _ _
    refine z_goto d_M_climbs_66 (tgt := 88) (by decide) ?_
    exact z_M_climbs_88 hm  hF
def E_M_climbs (q : Nat)  (μ : zI) (ν : zJ) : Option (zI × zJ) := e_M_climbs_0 q μ ν
theorem c_M_climbs {l : Launch} {D : va_G} {dA : Nat → ClassId} {ad : Nat → Nat} {sh : List zSE} {μ : zI} {ν : zJ} {q : Nat} (hm : zMo sh q) {out : (zI × zJ)} (hE : E_M_climbs q μ ν = some out) : zC l D dA ad sh m_M_climbs 3 0 0 [.ref (ad q)] μ ν (zOv out) :=
  zC.of (by decide) (Nat.le_of_ble_eq_true rfl) (z_M_climbs_0 hm hE)
def e_M_slopes_135 (q : Nat)  (x1 : Int32) (x2 : Int32) (x3 : Int32) (x4 : Int32) (μ : zI) (ν : zJ) : Option (zI × zJ) := Option.bind (E_M_powerAt q (μ (q + 7) 26) μ ν) fun ty1 => zlet (zu ty1.2.1 q 30 ty1.1) fun μy2 => some (μy2, ty1.2.2)
theorem z_M_slopes_135 {l : Launch} {D : va_G} {dA : Nat → ClassId} {ad : Nat → Nat} {sh : List zSE}  {q : Nat} (hm : zMo sh q)  {x1 : Int32} {x2 : Int32} {x3 : Int32} {x4 : Int32} {μ : zI} {ν : zJ} {out : (zI × zJ)} (hF : e_M_slopes_135 q  x1 x2 x3 x4 μ ν = some out) : Z l D dA ad sh m_M_slopes (zR 3 0 0) (zS ad) (zOv out) 0 0 0 0 [] 135 [(0, .ref (ad q)), (1, .int x1), (2, .int x2), (3, .int x3), (4, .int x4)] [] μ ν := by
  unfold e_M_slopes_135 at hF
  refine z_aload_n d_M_slopes_135 0 rfl rfl ?_
  refine z_aload_n d_M_slopes_136 0 rfl rfl ?_
  refine z_aload_n d_M_slopes_137 0 rfl rfl ?_
  refine z_getr d_M_slopes_138 (q := (q + 7)) f_M_33 (hm 0 _ rfl) rfl ?_
  refine z_bipush d_M_slopes_141 (v := 26) (by decide) ?_
  refine z_iald d_M_slopes_143 (hm 7 _ rfl) (zin_vp rfl) ?_
  show Z _ _ _ _ _ _ _ _ _ _ _ _ _ _ _ _ [.int (μ (q + 7) 26), .ref (ad q), .ref (ad q)] _ _
  obtain ⟨ty1, hty1, hF⟩ := zh_bind hF
  refine z_callV d_M_slopes_144 (c_M_powerAt hm hty1) mv_M_powerAt l_M_188 (fun _ _ h => h) (hm 0 _ rfl) rfl rfl ⟨Nat.le_of_ble_eq_true rfl, Nat.le_of_ble_eq_true rfl⟩ ⟨Nat.le_of_ble_eq_true rfl, Nat.le_of_ble_eq_true rfl⟩ rfl (Nat.le_of_ble_eq_true rfl) (fun r μ' ν' hq => ?_)
  obtain ⟨rfl, rfl, rfl⟩ := hq
  show Z _ _ _ _ _ _ _ _ _ _ _ 0 0 _ _ _ [.int ty1.1, .ref (ad q)] _ _
  refine z_put d_M_slopes_147 f_M_200 (hm 0 _ rfl) rfl (CL_fin _ _ (fun q hq => by cases hq; rfl)) rfl rfl ?_
  obtain ⟨μy2, hy2, hF⟩ := zh_let hF
  refine z_eqm hy2 ?_
  cases hF
  exact z_return d_M_slopes_150 rfl ⟨rfl, rfl, rfl⟩
def e_M_slopes_79 (q : Nat)  (x1 : Int32) (x2 : Int32) (x3 : Int32) (x4 : Int32) (s0 : Int32) (μ : zI) (ν : zJ) : Option (zI × zJ) := Option.bind (E_M_within (x1 + (s0 * (μ (q + 7) 28))) μ ν) fun ty1 => zlet (zu ty1.2.1 (q + 7) 26 ty1.1) fun μy2 => (if s0 = (μy2 (q + 7) 27) then Option.bind (E_M_learns q μy2 ty1.2.2) fun ty6 => e_M_slopes_135 q x1 x2 x3 x4 ty6.1 ty6.2 else zlet (zu μy2 (q + 7) 27 s0) fun μy4 => Option.bind (E_M_slows q μy4 ty1.2.2) fun ty5 => e_M_slopes_135 q x1 x2 x3 x4 ty5.1 ty5.2)
theorem z_M_slopes_79 {l : Launch} {D : va_G} {dA : Nat → ClassId} {ad : Nat → Nat} {sh : List zSE}  {q : Nat} (hm : zMo sh q)  {x1 : Int32} {x2 : Int32} {x3 : Int32} {x4 : Int32} {s0 : Int32} {μ : zI} {ν : zJ} {out : (zI × zJ)} (hF : e_M_slopes_79 q  x1 x2 x3 x4 s0 μ ν = some out) : Z l D dA ad sh m_M_slopes (zR 3 0 0) (zS ad) (zOv out) 0 0 0 0 [] 79 [(0, .ref (ad q)), (1, .int x1), (2, .int x2), (3, .int x3), (4, .int x4)] [.int s0] μ ν := by
  unfold e_M_slopes_79 at hF
  refine z_istore d_M_slopes_79 (by decide) (L2 := [(5, .int s0), (0, .ref (ad q)), (1, .int x1), (2, .int x2), (3, .int x3), (4, .int x4)]) rfl ?_
  refine z_aload_n d_M_slopes_81 1 rfl rfl ?_
  refine z_getr d_M_slopes_82 (q := (q + 7)) f_M_33 (hm 0 _ rfl) rfl ?_
  refine z_bipush d_M_slopes_85 (v := 26) (by decide) ?_
  refine z_iload_n d_M_slopes_87 2 rfl rfl ?_
  refine z_iload d_M_slopes_88 0 rfl ?_
  refine z_aload_n d_M_slopes_90 1 rfl rfl ?_
  refine z_getr d_M_slopes_91 (q := (q + 7)) f_M_33 (hm 0 _ rfl) rfl ?_
  refine z_bipush d_M_slopes_94 (v := 28) (by decide) ?_
  refine z_iald d_M_slopes_96 (hm 7 _ rfl) (zin_vp rfl) ?_
  show Z _ _ _ _ _ _ _ _ _ _ _ _ _ _ _ _ [.int (μ (q + 7) 28), .int s0, .int x1, .int 26, .ref (ad (q + 7))] _ _
  refine z_imul d_M_slopes_97 ?_
  refine z_iadd d_M_slopes_98 ?_
  obtain ⟨ty1, hty1, hF⟩ := zh_bind hF
  refine z_callS d_M_slopes_99 (c_M_within  hty1) ms_M_within l_M_203 (fun _ _ h => h) rfl ⟨Nat.le_of_ble_eq_true rfl, Nat.le_of_ble_eq_true rfl⟩ ⟨Nat.le_of_ble_eq_true rfl, Nat.le_of_ble_eq_true rfl⟩ rfl (Nat.le_of_ble_eq_true rfl) (fun r μ' ν' hq => ?_)
  obtain ⟨rfl, rfl, rfl⟩ := hq
  show Z _ _ _ _ _ _ _ _ _ _ _ 0 0 _ _ _ [.int ty1.1, .int 26, .ref (ad (q + 7))] _ _
  refine z_iast d_M_slopes_102 (hm 7 _ rfl) (zin_vp rfl) ?_
  obtain ⟨μy2, hy2, hF⟩ := zh_let hF
  refine z_eqm hy2 ?_
  refine z_iload d_M_slopes_103 0 rfl ?_
  refine z_aload_n d_M_slopes_105 1 rfl rfl ?_
  refine z_getr d_M_slopes_106 (q := (q + 7)) f_M_33 (hm 0 _ rfl) rfl ?_
  refine z_bipush d_M_slopes_109 (v := 27) (by decide) ?_
  refine z_iald d_M_slopes_111 (hm 7 _ rfl) (zin_vp rfl) ?_
  show Z _ _ _ _ _ _ _ _ _ _ _ _ _ _ _ _ [.int (μy2 (q + 7) 27), .int s0] _ _
  refine z_icmp_ne d_M_slopes_112 (tgt := 122) (by decide) (fun cy3 => ?_) (fun cy3 => ?_)
  · replace hF := zh_f cy3 hF
    refine z_aload_n d_M_slopes_122 1 rfl rfl ?_
    refine z_getr d_M_slopes_123 (q := (q + 7)) f_M_33 (hm 0 _ rfl) rfl ?_
    refine z_bipush d_M_slopes_126 (v := 27) (by decide) ?_
    refine z_iload d_M_slopes_128 0 rfl ?_
    refine z_iast d_M_slopes_130 (hm 7 _ rfl) (zin_vp rfl) ?_
    obtain ⟨μy4, hy4, hF⟩ := zh_let hF
    refine z_eqm hy4 ?_
    refine z_aload_n d_M_slopes_131 1 rfl rfl ?_
    obtain ⟨ty5, hty5, hF⟩ := zh_bind hF
    refine z_callV d_M_slopes_132 (c_M_slows hm hty5) mv_M_slows l_M_209 (fun _ _ h => h) (hm 0 _ rfl) rfl rfl ⟨Nat.le_of_ble_eq_true rfl, Nat.le_of_ble_eq_true rfl⟩ ⟨Nat.le_of_ble_eq_true rfl, Nat.le_of_ble_eq_true rfl⟩ rfl (Nat.le_of_ble_eq_true rfl) (fun r μ' ν' hq => ?_)
    obtain ⟨rfl, rfl, rfl⟩ := hq
    show Z _ _ _ _ _ _ _ _ _ _ _ 0 0 _ _ _ [] _ _
    refine z_sub [1, 2, 3, 4, 5] (L' := [(0, .ref (ad q)), (1, .int x1), (2, .int x2), (3, .int x3), (4, .int x4)]) rfl ?_
    exact z_M_slopes_135 hm  hF
  · replace hF := zh_t cy3 hF
    refine z_aload_n d_M_slopes_115 1 rfl rfl ?_
    obtain ⟨ty6, hty6, hF⟩ := zh_bind hF
    refine z_callV d_M_slopes_116 (c_M_learns hm hty6) mv_M_learns l_M_206 (fun _ _ h => h) (hm 0 _ rfl) rfl rfl ⟨Nat.le_of_ble_eq_true rfl, Nat.le_of_ble_eq_true rfl⟩ ⟨Nat.le_of_ble_eq_true rfl, Nat.le_of_ble_eq_true rfl⟩ rfl (Nat.le_of_ble_eq_true rfl) (fun r μ' ν' hq => ?_)
    obtain ⟨rfl, rfl, rfl⟩ := hq
    show Z _ _ _ _ _ _ _ _ _ _ _ 0 0 _ _ _ [] _ _
    refine z_goto d_M_slopes_119 (tgt := 135) (by decide) ?_
    refine z_sub [1, 2, 3, 4, 5] (L' := [(0, .ref (ad q)), (1, .int x1), (2, .int x2), (3, .int x3), (4, .int x4)]) rfl ?_
    exact z_M_slopes_135 hm  hF
def e_M_slopes_68 (q : Nat)  (x1 : Int32) (x2 : Int32) (x3 : Int32) (x4 : Int32) (μ : zI) (ν : zJ) : Option (zI × zJ) := (if x3 ≤ x4 then e_M_slopes_79 q x1 x2 x3 x4 (-1) μ ν else e_M_slopes_79 q x1 x2 x3 x4 1 μ ν)
theorem z_M_slopes_68 {l : Launch} {D : va_G} {dA : Nat → ClassId} {ad : Nat → Nat} {sh : List zSE}  {q : Nat} (hm : zMo sh q)  {x1 : Int32} {x2 : Int32} {x3 : Int32} {x4 : Int32} {μ : zI} {ν : zJ} {out : (zI × zJ)} (hF : e_M_slopes_68 q  x1 x2 x3 x4 μ ν = some out) : Z l D dA ad sh m_M_slopes (zR 3 0 0) (zS ad) (zOv out) 0 0 0 0 [] 68 [(0, .ref (ad q)), (1, .int x1), (2, .int x2), (3, .int x3), (4, .int x4)] [] μ ν := by
  unfold e_M_slopes_68 at hF
  refine z_iload_n d_M_slopes_68 3 rfl rfl ?_
  refine z_iload d_M_slopes_69 4 rfl ?_
  refine z_icmp_le d_M_slopes_71 (tgt := 78) (by decide) (fun cy1 => ?_) (fun cy1 => ?_)
  · replace hF := zh_t cy1 hF
    refine z_iconst d_M_slopes_78 (v := (-1)) (by decide) ?_
    exact z_M_slopes_79 hm  hF
  · replace hF := zh_f cy1 hF
    refine z_iconst d_M_slopes_74 (v := 1) (by decide) ?_
    refine z_goto d_M_slopes_75 (tgt := 79) (by decide) ?_
    exact z_M_slopes_79 hm  hF
def e_M_slopes_48 (q : Nat)  (x1 : Int32) (x2 : Int32) (x3 : Int32) (s0 : Int32) (μ : zI) (ν : zJ) : Option (zI × zJ) := (if x2 < x3 then e_M_slopes_68 q x1 x2 x3 s0 μ ν else (if x2 < s0 then e_M_slopes_68 q x1 x2 x3 s0 μ ν else Option.bind (E_M_slows q μ ν) fun ty3 => e_M_slopes_135 q x1 x2 x3 s0 ty3.1 ty3.2))
theorem z_M_slopes_48 {l : Launch} {D : va_G} {dA : Nat → ClassId} {ad : Nat → Nat} {sh : List zSE}  {q : Nat} (hm : zMo sh q)  {x1 : Int32} {x2 : Int32} {x3 : Int32} {s0 : Int32} {μ : zI} {ν : zJ} {out : (zI × zJ)} (hF : e_M_slopes_48 q  x1 x2 x3 s0 μ ν = some out) : Z l D dA ad sh m_M_slopes (zR 3 0 0) (zS ad) (zOv out) 0 0 0 0 [] 48 [(0, .ref (ad q)), (1, .int x1), (2, .int x2), (3, .int x3)] [.int s0] μ ν := by
  unfold e_M_slopes_48 at hF
  refine z_istore d_M_slopes_48 (by decide) (L2 := [(4, .int s0), (0, .ref (ad q)), (1, .int x1), (2, .int x2), (3, .int x3)]) rfl ?_
  refine z_iload_n d_M_slopes_50 4 rfl rfl ?_
  refine z_iload_n d_M_slopes_51 3 rfl rfl ?_
  refine z_icmp_gt d_M_slopes_52 (tgt := 68) (by decide) (fun cy1 => ?_) (fun cy1 => ?_)
  · replace hF := zh_t cy1 hF
    refine z_sub [1, 2, 3, 4, 0] (L' := [(0, .ref (ad q)), (1, .int x1), (2, .int x2), (3, .int x3), (4, .int s0)]) rfl ?_
    exact z_M_slopes_68 hm  hF
  · replace hF := zh_f cy1 hF
    refine z_iload d_M_slopes_55 0 rfl ?_
    refine z_iload_n d_M_slopes_57 3 rfl rfl ?_
    refine z_icmp_gt d_M_slopes_58 (tgt := 68) (by decide) (fun cy2 => ?_) (fun cy2 => ?_)
    · replace hF := zh_t cy2 hF
      refine z_sub [1, 2, 3, 4, 0] (L' := [(0, .ref (ad q)), (1, .int x1), (2, .int x2), (3, .int x3), (4, .int s0)]) rfl ?_
      exact z_M_slopes_68 hm  hF
    · replace hF := zh_f cy2 hF
      refine z_aload_n d_M_slopes_61 1 rfl rfl ?_
      obtain ⟨ty3, hty3, hF⟩ := zh_bind hF
      refine z_callV d_M_slopes_62 (c_M_slows hm hty3) mv_M_slows l_M_209 (fun _ _ h => h) (hm 0 _ rfl) rfl rfl ⟨Nat.le_of_ble_eq_true rfl, Nat.le_of_ble_eq_true rfl⟩ ⟨Nat.le_of_ble_eq_true rfl, Nat.le_of_ble_eq_true rfl⟩ rfl (Nat.le_of_ble_eq_true rfl) (fun r μ' ν' hq => ?_)
      obtain ⟨rfl, rfl, rfl⟩ := hq
      show Z _ _ _ _ _ _ _ _ _ _ _ 0 0 _ _ _ [] _ _
      refine z_goto d_M_slopes_65 (tgt := 135) (by decide) ?_
      refine z_sub [1, 2, 3, 4, 0] (L' := [(0, .ref (ad q)), (1, .int x1), (2, .int x2), (3, .int x3), (4, .int s0)]) rfl ?_
      exact z_M_slopes_135 hm  hF
def e_M_slopes_32 (q : Nat)  (x1 : Int32) (x2 : Int32) (s0 : Int32) (μ : zI) (ν : zJ) : Option (zI × zJ) := (if x1 ≤ 0 then e_M_slopes_48 q x1 x2 s0 (-1) μ ν else Option.bind (E_M_powerAt q (x1 - 1) μ ν) fun ty2 => e_M_slopes_48 q x1 x2 s0 ty2.1 ty2.2.1 ty2.2.2)
theorem z_M_slopes_32 {l : Launch} {D : va_G} {dA : Nat → ClassId} {ad : Nat → Nat} {sh : List zSE}  {q : Nat} (hm : zMo sh q)  {x1 : Int32} {x2 : Int32} {s0 : Int32} {μ : zI} {ν : zJ} {out : (zI × zJ)} (hF : e_M_slopes_32 q  x1 x2 s0 μ ν = some out) : Z l D dA ad sh m_M_slopes (zR 3 0 0) (zS ad) (zOv out) 0 0 0 0 [] 32 [(0, .ref (ad q)), (1, .int x1), (2, .int x2)] [.int s0] μ ν := by
  unfold e_M_slopes_32 at hF
  refine z_istore_n d_M_slopes_32 rfl (by decide) (L2 := [(3, .int s0), (0, .ref (ad q)), (1, .int x1), (2, .int x2)]) rfl ?_
  refine z_iload_n d_M_slopes_33 2 rfl rfl ?_
  refine z_if_le d_M_slopes_34 (tgt := 47) (by decide) (fun cy1 => ?_) (fun cy1 => ?_)
  · replace hF := zh_t cy1 hF
    refine z_iconst d_M_slopes_47 (v := (-1)) (by decide) ?_
    refine z_sub [1, 2, 3, 0] (L' := [(0, .ref (ad q)), (1, .int x1), (2, .int x2), (3, .int s0)]) rfl ?_
    exact z_M_slopes_48 hm  hF
  · replace hF := zh_f cy1 hF
    refine z_aload_n d_M_slopes_37 1 rfl rfl ?_
    refine z_iload_n d_M_slopes_38 2 rfl rfl ?_
    refine z_iconst d_M_slopes_39 (v := 1) (by decide) ?_
    refine z_isub d_M_slopes_40 ?_
    obtain ⟨ty2, hty2, hF⟩ := zh_bind hF
    refine z_callV d_M_slopes_41 (c_M_powerAt hm hty2) mv_M_powerAt l_M_188 (fun _ _ h => h) (hm 0 _ rfl) rfl rfl ⟨Nat.le_of_ble_eq_true rfl, Nat.le_of_ble_eq_true rfl⟩ ⟨Nat.le_of_ble_eq_true rfl, Nat.le_of_ble_eq_true rfl⟩ rfl (Nat.le_of_ble_eq_true rfl) (fun r μ' ν' hq => ?_)
    obtain ⟨rfl, rfl, rfl⟩ := hq
    show Z _ _ _ _ _ _ _ _ _ _ _ 0 0 _ _ _ [.int ty2.1] _ _
    refine z_goto d_M_slopes_44 (tgt := 48) (by decide) ?_
    refine z_sub [1, 2, 3, 0] (L' := [(0, .ref (ad q)), (1, .int x1), (2, .int x2), (3, .int s0)]) rfl ?_
    exact z_M_slopes_48 hm  hF
def e_M_slopes_0 (q : Nat)   (μ : zI) (ν : zJ) : Option (zI × zJ) := zlet (α := Int32) (μ (q + 7) 26) fun y1 => Option.bind (E_M_powerAt q y1 μ ν) fun ty2 => zlet (α := Int32) ty2.1 fun y3 => (if 999 ≤ y1 then e_M_slopes_32 q y1 y3 (-1) ty2.2.1 ty2.2.2 else Option.bind (E_M_powerAt q (y1 + 1) ty2.2.1 ty2.2.2) fun ty5 => e_M_slopes_32 q y1 y3 ty5.1 ty5.2.1 ty5.2.2)
theorem z_M_slopes_0 {l : Launch} {D : va_G} {dA : Nat → ClassId} {ad : Nat → Nat} {sh : List zSE}  {q : Nat} (hm : zMo sh q)   {μ : zI} {ν : zJ} {out : (zI × zJ)} (hF : e_M_slopes_0 q   μ ν = some out) : Z l D dA ad sh m_M_slopes (zR 3 0 0) (zS ad) (zOv out) 0 0 0 0 [] 0 [(0, .ref (ad q))] [] μ ν := by
  unfold e_M_slopes_0 at hF
  refine z_aload_n d_M_slopes_0 0 rfl rfl ?_
  refine z_getr d_M_slopes_1 (q := (q + 7)) f_M_33 (hm 0 _ rfl) rfl ?_
  refine z_bipush d_M_slopes_4 (v := 26) (by decide) ?_
  refine z_iald d_M_slopes_6 (hm 7 _ rfl) (zin_vp rfl) ?_
  show Z _ _ _ _ _ _ _ _ _ _ _ _ _ _ _ _ [.int (μ (q + 7) 26)] _ _
  obtain ⟨y1, hy1, hF⟩ := zh_let hF
  refine z_eqi hy1 ?_
  refine z_istore_n d_M_slopes_7 rfl (by decide) (L2 := [(1, .int y1), (0, .ref (ad q))]) rfl ?_
  refine z_aload_n d_M_slopes_8 1 rfl rfl ?_
  refine z_iload_n d_M_slopes_9 0 rfl rfl ?_
  obtain ⟨ty2, hty2, hF⟩ := zh_bind hF
  refine z_callV d_M_slopes_10 (c_M_powerAt hm hty2) mv_M_powerAt l_M_188 (fun _ _ h => h) (hm 0 _ rfl) rfl rfl ⟨Nat.le_of_ble_eq_true rfl, Nat.le_of_ble_eq_true rfl⟩ ⟨Nat.le_of_ble_eq_true rfl, Nat.le_of_ble_eq_true rfl⟩ rfl (Nat.le_of_ble_eq_true rfl) (fun r μ' ν' hq => ?_)
  obtain ⟨rfl, rfl, rfl⟩ := hq
  show Z _ _ _ _ _ _ _ _ _ _ _ 0 0 _ _ _ [.int ty2.1] _ _
  obtain ⟨y3, hy3, hF⟩ := zh_let hF
  refine z_eqi hy3 ?_
  refine z_istore_n d_M_slopes_13 rfl (by decide) (L2 := [(2, .int y3), (1, .int y1), (0, .ref (ad q))]) rfl ?_
  refine z_iload_n d_M_slopes_14 1 rfl rfl ?_
  refine z_sipush d_M_slopes_15 (v := 999) (by decide) ?_
  refine z_icmp_ge d_M_slopes_18 (tgt := 31) (by decide) (fun cy4 => ?_) (fun cy4 => ?_)
  · replace hF := zh_t cy4 hF
    refine z_iconst d_M_slopes_31 (v := (-1)) (by decide) ?_
    refine z_sub [2, 1, 0] (L' := [(0, .ref (ad q)), (1, .int y1), (2, .int y3)]) rfl ?_
    exact z_M_slopes_32 hm  hF
  · replace hF := zh_f cy4 hF
    refine z_aload_n d_M_slopes_21 2 rfl rfl ?_
    refine z_iload_n d_M_slopes_22 1 rfl rfl ?_
    refine z_iconst d_M_slopes_23 (v := 1) (by decide) ?_
    refine z_iadd d_M_slopes_24 ?_
    obtain ⟨ty5, hty5, hF⟩ := zh_bind hF
    refine z_callV d_M_slopes_25 (c_M_powerAt hm hty5) mv_M_powerAt l_M_188 (fun _ _ h => h) (hm 0 _ rfl) rfl rfl ⟨Nat.le_of_ble_eq_true rfl, Nat.le_of_ble_eq_true rfl⟩ ⟨Nat.le_of_ble_eq_true rfl, Nat.le_of_ble_eq_true rfl⟩ rfl (Nat.le_of_ble_eq_true rfl) (fun r μ' ν' hq => ?_)
    obtain ⟨rfl, rfl, rfl⟩ := hq
    show Z _ _ _ _ _ _ _ _ _ _ _ 0 0 _ _ _ [.int ty5.1] _ _
    refine z_goto d_M_slopes_28 (tgt := 32) (by decide) ?_
    refine z_sub [2, 1, 0] (L' := [(0, .ref (ad q)), (1, .int y1), (2, .int y3)]) rfl ?_
    exact z_M_slopes_32 hm  hF
def E_M_slopes (q : Nat)  (μ : zI) (ν : zJ) : Option (zI × zJ) := e_M_slopes_0 q μ ν
theorem c_M_slopes {l : Launch} {D : va_G} {dA : Nat → ClassId} {ad : Nat → Nat} {sh : List zSE} {μ : zI} {ν : zJ} {q : Nat} (hm : zMo sh q) {out : (zI × zJ)} (hE : E_M_slopes q μ ν = some out) : zC l D dA ad sh m_M_slopes 3 0 0 [.ref (ad q)] μ ν (zOv out) :=
  zC.of (by decide) (Nat.le_of_ble_eq_true rfl) (z_M_slopes_0 hm hE)
def e_M_shared_30 (q : Nat) (r4 : Int32 → Int32 → Int32 → zI → zJ → Option (Int32 × zI × zJ)) (x1 : Int32) (x2 : Int32) (x3 : Int32) (s0 : Int32) (μ : zI) (ν : zJ) : Option (Int32 × zI × zJ) := r4 x1 s0 (x3 + 1) μ ν
theorem z_M_shared_30 {l : Launch} {D : va_G} {dA : Nat → ClassId} {ad : Nat → Nat} {sh : List zSE}  {q : Nat} (hm : zMo sh q) {r4 : Int32 → Int32 → Int32 → zI → zJ → Option (Int32 × zI × zJ)} {x1 : Int32} {x2 : Int32} {x3 : Int32} {s0 : Int32} {μ : zI} {ν : zJ} {out : (Int32 × zI × zJ)} (hr4 : ∀ (x1 : Int32) (x2 : Int32) (x3 : Int32) (μ : zI) (ν : zJ), r4 x1 x2 x3 μ ν = some out → Z l D dA ad sh m_M_shared (zR 1 0 0) (zS ad) (zOi out) 0 0 0 0 [] 4 [(0, .ref (ad q)), (1, .int x1), (2, .int x2), (3, .int x3)] [] μ ν) (hF : e_M_shared_30 q r4 x1 x2 x3 s0 μ ν = some out) : Z l D dA ad sh m_M_shared (zR 1 0 0) (zS ad) (zOi out) 0 0 0 0 [] 30 [(0, .ref (ad q)), (1, .int x1), (2, .int x2), (3, .int x3)] [.int s0] μ ν := by
  unfold e_M_shared_30 at hF
  refine z_istore_n d_M_shared_30 rfl (by decide) (L2 := [(2, .int s0), (0, .ref (ad q)), (1, .int x1), (3, .int x3)]) rfl ?_
  refine z_iinc d_M_shared_31 (k := 3) (v := (x3 + 1)) rfl rfl (by decide) (L2 := [(3, .int (x3 + 1)), (2, .int s0), (0, .ref (ad q)), (1, .int x1)]) rfl ?_
  refine z_goto d_M_shared_34 (tgt := 4) (by decide) ?_
  refine z_sub [2, 3, 1, 0] (L' := [(0, .ref (ad q)), (1, .int x1), (2, .int s0), (3, .int (x3 + 1))]) rfl ?_
  exact hr4 _ _ _ _ _ hF
def f_M_shared_4 (q : Nat)  : Nat → Int32 → Int32 → Int32 → zI → zJ → Option (Int32 × zI × zJ)
  | 0, _, _, _, _, _ => none
  | n + 1, x1, x2, x3, μ, ν => (if (μ q 9) ≤ x3 then some (((x1 * x2) / 100), μ, ν) else Option.bind (E_M_litOf q x3 μ ν) fun ty2 => (if ty2.1 ≤ x2 then e_M_shared_30 q (f_M_shared_4 q n) x1 x2 x3 x2 ty2.2.1 ty2.2.2 else Option.bind (E_M_litOf q x3 ty2.2.1 ty2.2.2) fun ty4 => e_M_shared_30 q (f_M_shared_4 q n) x1 x2 x3 ty4.1 ty4.2.1 ty4.2.2))
theorem z_M_shared_4 {l : Launch} {D : va_G} {dA : Nat → ClassId} {ad : Nat → Nat} {sh : List zSE}  {q : Nat} (hm : zMo sh q)  {out : (Int32 × zI × zJ)} : ∀ (n : Nat) (x1 : Int32) (x2 : Int32) (x3 : Int32) (μ : zI) (ν : zJ), f_M_shared_4 q  n x1 x2 x3 μ ν = some out → Z l D dA ad sh m_M_shared (zR 1 0 0) (zS ad) (zOi out) 0 0 0 0 [] 4 [(0, .ref (ad q)), (1, .int x1), (2, .int x2), (3, .int x3)] [] μ ν := by
  intro n
  induction n with
  | zero => intro x1 x2 x3 μ ν hF; cases hF
  | succ n ih =>
    intro x1 x2 x3 μ ν hF
    dsimp only [f_M_shared_4] at hF
    refine z_iload_n d_M_shared_4 3 rfl rfl ?_
    refine z_aload_n d_M_shared_5 0 rfl rfl ?_
    refine z_get d_M_shared_6 f_M_168 (hm 0 _ rfl) rfl ?_
    refine z_icmp_ge d_M_shared_9 (tgt := 37) (by decide) (fun cy1 => ?_) (fun cy1 => ?_)
    · replace hF := zh_t cy1 hF
      refine z_iload_n d_M_shared_37 1 rfl rfl ?_
      refine z_iload_n d_M_shared_38 2 rfl rfl ?_
      refine z_imul d_M_shared_39 ?_
      refine z_bipush d_M_shared_40 (v := 100) (by decide) ?_
      refine z_idiv d_M_shared_42 (by decide) ?_
      cases hF
      exact z_ireturn d_M_shared_43 rfl rfl ⟨rfl, rfl, rfl⟩
    · replace hF := zh_f cy1 hF
      refine z_aload_n d_M_shared_12 0 rfl rfl ?_
      refine z_iload_n d_M_shared_13 3 rfl rfl ?_
      obtain ⟨ty2, hty2, hF⟩ := zh_bind hF
      refine z_callV d_M_shared_14 (c_M_litOf hm hty2) mv_M_litOf l_M_182 (fun _ _ h => h) (hm 0 _ rfl) rfl rfl ⟨Nat.le_of_ble_eq_true rfl, Nat.le_of_ble_eq_true rfl⟩ ⟨Nat.le_of_ble_eq_true rfl, Nat.le_of_ble_eq_true rfl⟩ rfl (Nat.le_of_ble_eq_true rfl) (fun r μ' ν' hq => ?_)
      obtain ⟨rfl, rfl, rfl⟩ := hq
      show Z _ _ _ _ _ _ _ _ _ _ _ 0 0 _ _ _ [.int ty2.1] _ _
      refine z_iload_n d_M_shared_17 2 rfl rfl ?_
      refine z_icmp_le d_M_shared_18 (tgt := 29) (by decide) (fun cy3 => ?_) (fun cy3 => ?_)
      · replace hF := zh_t cy3 hF
        refine z_iload_n d_M_shared_29 2 rfl rfl ?_
        exact z_M_shared_30 hm (fun a0 a1 a2 a3 a4 => ih a0 a1 a2 a3 a4) hF
      · replace hF := zh_f cy3 hF
        refine z_aload_n d_M_shared_21 0 rfl rfl ?_
        refine z_iload_n d_M_shared_22 3 rfl rfl ?_
        obtain ⟨ty4, hty4, hF⟩ := zh_bind hF
        refine z_callV d_M_shared_23 (c_M_litOf hm hty4) mv_M_litOf l_M_182 (fun _ _ h => h) (hm 0 _ rfl) rfl rfl ⟨Nat.le_of_ble_eq_true rfl, Nat.le_of_ble_eq_true rfl⟩ ⟨Nat.le_of_ble_eq_true rfl, Nat.le_of_ble_eq_true rfl⟩ rfl (Nat.le_of_ble_eq_true rfl) (fun r μ' ν' hq => ?_)
        obtain ⟨rfl, rfl, rfl⟩ := hq
        show Z _ _ _ _ _ _ _ _ _ _ _ 0 0 _ _ _ [.int ty4.1] _ _
        refine z_goto d_M_shared_26 (tgt := 30) (by decide) ?_
        exact z_M_shared_30 hm (fun a0 a1 a2 a3 a4 => ih a0 a1 a2 a3 a4) hF
def e_M_shared_0 (q : Nat)  (x1 : Int32) (μ : zI) (ν : zJ) : Option (Int32 × zI × zJ) := f_M_shared_4 q zFuel x1 0 0 μ ν
theorem z_M_shared_0 {l : Launch} {D : va_G} {dA : Nat → ClassId} {ad : Nat → Nat} {sh : List zSE}  {q : Nat} (hm : zMo sh q)  {x1 : Int32} {μ : zI} {ν : zJ} {out : (Int32 × zI × zJ)} (hF : e_M_shared_0 q  x1 μ ν = some out) : Z l D dA ad sh m_M_shared (zR 1 0 0) (zS ad) (zOi out) 0 0 0 0 [] 0 [(0, .ref (ad q)), (1, .int x1)] [] μ ν := by
  unfold e_M_shared_0 at hF
  refine z_iconst d_M_shared_0 (v := 0) (by decide) ?_
  refine z_istore_n d_M_shared_1 rfl (by decide) (L2 := [(2, .int 0), (0, .ref (ad q)), (1, .int x1)]) rfl ?_
  refine z_iconst d_M_shared_2 (v := 0) (by decide) ?_
  refine z_istore_n d_M_shared_3 rfl (by decide) (L2 := [(3, .int 0), (2, .int 0), (0, .ref (ad q)), (1, .int x1)]) rfl ?_
  refine z_sub [2, 3, 1, 0] (L' := [(0, .ref (ad q)), (1, .int x1), (2, .int 0), (3, .int 0)]) rfl ?_
  exact z_M_shared_4 hm  zFuel _ _ _ _ _ hF
def E_M_shared (q : Nat) (x1 : Int32) (μ : zI) (ν : zJ) : Option (Int32 × zI × zJ) := e_M_shared_0 q x1 μ ν
theorem c_M_shared {l : Launch} {D : va_G} {dA : Nat → ClassId} {ad : Nat → Nat} {sh : List zSE} {μ : zI} {ν : zJ} {q : Nat} {x1 : Int32} (hm : zMo sh q) {out : (Int32 × zI × zJ)} (hE : E_M_shared q x1 μ ν = some out) : zC l D dA ad sh m_M_shared 1 0 0 [.ref (ad q), .int x1] μ ν (zOi out) :=
  zC.of (by decide) (Nat.le_of_ble_eq_true rfl) (z_M_shared_0 hm hE)
def e_M_startsScan_0 (q : Nat)   (μ : zI) (ν : zJ) : Option (zI × zJ) := zlet (zu μ (q + 7) 31 1) fun μy1 => zlet (zu μy1 (q + 7) 43 (-1)) fun μy2 => zlet (zu μy2 (q + 7) 44 0) fun μy3 => zlet (zu μy3 (q + 7) 45 0) fun μy4 => some (μy4, ν)
theorem z_M_startsScan_0 {l : Launch} {D : va_G} {dA : Nat → ClassId} {ad : Nat → Nat} {sh : List zSE}  {q : Nat} (hm : zMo sh q)   {μ : zI} {ν : zJ} {out : (zI × zJ)} (hF : e_M_startsScan_0 q   μ ν = some out) : Z l D dA ad sh m_M_startsScan (zR 0 0 0) (zS ad) (zOv out) 0 0 0 0 [] 0 [(0, .ref (ad q))] [] μ ν := by
  unfold e_M_startsScan_0 at hF
  refine z_aload_n d_M_startsScan_0 0 rfl rfl ?_
  refine z_getr d_M_startsScan_1 (q := (q + 7)) f_M_33 (hm 0 _ rfl) rfl ?_
  refine z_bipush d_M_startsScan_4 (v := 31) (by decide) ?_
  refine z_iconst d_M_startsScan_6 (v := 1) (by decide) ?_
  refine z_iast d_M_startsScan_7 (hm 7 _ rfl) (zin_vp rfl) ?_
  obtain ⟨μy1, hy1, hF⟩ := zh_let hF
  refine z_eqm hy1 ?_
  refine z_aload_n d_M_startsScan_8 0 rfl rfl ?_
  refine z_getr d_M_startsScan_9 (q := (q + 7)) f_M_33 (hm 0 _ rfl) rfl ?_
  refine z_bipush d_M_startsScan_12 (v := 43) (by decide) ?_
  refine z_iconst d_M_startsScan_14 (v := (-1)) (by decide) ?_
  refine z_iast d_M_startsScan_15 (hm 7 _ rfl) (zin_vp rfl) ?_
  obtain ⟨μy2, hy2, hF⟩ := zh_let hF
  refine z_eqm hy2 ?_
  refine z_aload_n d_M_startsScan_16 0 rfl rfl ?_
  refine z_getr d_M_startsScan_17 (q := (q + 7)) f_M_33 (hm 0 _ rfl) rfl ?_
  refine z_bipush d_M_startsScan_20 (v := 44) (by decide) ?_
  refine z_iconst d_M_startsScan_22 (v := 0) (by decide) ?_
  refine z_iast d_M_startsScan_23 (hm 7 _ rfl) (zin_vp rfl) ?_
  obtain ⟨μy3, hy3, hF⟩ := zh_let hF
  refine z_eqm hy3 ?_
  refine z_aload_n d_M_startsScan_24 0 rfl rfl ?_
  refine z_getr d_M_startsScan_25 (q := (q + 7)) f_M_33 (hm 0 _ rfl) rfl ?_
  refine z_bipush d_M_startsScan_28 (v := 45) (by decide) ?_
  refine z_iconst d_M_startsScan_30 (v := 0) (by decide) ?_
  refine z_iast d_M_startsScan_31 (hm 7 _ rfl) (zin_vp rfl) ?_
  obtain ⟨μy4, hy4, hF⟩ := zh_let hF
  refine z_eqm hy4 ?_
  cases hF
  exact z_return d_M_startsScan_32 rfl ⟨rfl, rfl, rfl⟩
def E_M_startsScan (q : Nat)  (μ : zI) (ν : zJ) : Option (zI × zJ) := e_M_startsScan_0 q μ ν
theorem c_M_startsScan {l : Launch} {D : va_G} {dA : Nat → ClassId} {ad : Nat → Nat} {sh : List zSE} {μ : zI} {ν : zJ} {q : Nat} (hm : zMo sh q) {out : (zI × zJ)} (hE : E_M_startsScan q μ ν = some out) : zC l D dA ad sh m_M_startsScan 0 0 0 [.ref (ad q)] μ ν (zOv out) :=
  zC.of (by decide) (Nat.le_of_ble_eq_true rfl) (z_M_startsScan_0 hm hE)
def e_M_follows_206 (q : Nat)  (x1 : Int32) (x2 : Int32) (μ : zI) (ν : zJ) : Option (zI × zJ) := zlet (zu μ (q + 7) 30 (μ q 30)) fun μy1 => some (μy1, ν)
theorem z_M_follows_206 {l : Launch} {D : va_G} {dA : Nat → ClassId} {ad : Nat → Nat} {sh : List zSE}  {q : Nat} (hm : zMo sh q)  {x1 : Int32} {x2 : Int32} {μ : zI} {ν : zJ} {out : (zI × zJ)} (hF : e_M_follows_206 q  x1 x2 μ ν = some out) : Z l D dA ad sh m_M_follows (zR 4 0 0) (zS ad) (zOv out) 0 0 0 0 [] 206 [(0, .ref (ad q)), (1, .int x1), (2, .int x2)] [] μ ν := by
  unfold e_M_follows_206 at hF
  refine z_aload_n d_M_follows_206 0 rfl rfl ?_
  refine z_getr d_M_follows_207 (q := (q + 7)) f_M_33 (hm 0 _ rfl) rfl ?_
  refine z_bipush d_M_follows_210 (v := 30) (by decide) ?_
  refine z_aload_n d_M_follows_212 0 rfl rfl ?_
  refine z_get d_M_follows_213 f_M_200 (hm 0 _ rfl) rfl ?_
  refine z_iast d_M_follows_216 (hm 7 _ rfl) (zin_vp rfl) ?_
  obtain ⟨μy1, hy1, hF⟩ := zh_let hF
  refine z_eqm hy1 ?_
  cases hF
  exact z_return d_M_follows_217 rfl ⟨rfl, rfl, rfl⟩
def e_M_follows_202 (q : Nat)  (x1 : Int32) (x2 : Int32) (μ : zI) (ν : zJ) : Option (zI × zJ) := Option.bind (E_M_startsScan q μ ν) fun ty1 => e_M_follows_206 q x1 x2 ty1.1 ty1.2
theorem z_M_follows_202 {l : Launch} {D : va_G} {dA : Nat → ClassId} {ad : Nat → Nat} {sh : List zSE}  {q : Nat} (hm : zMo sh q)  {x1 : Int32} {x2 : Int32} {μ : zI} {ν : zJ} {out : (zI × zJ)} (hF : e_M_follows_202 q  x1 x2 μ ν = some out) : Z l D dA ad sh m_M_follows (zR 4 0 0) (zS ad) (zOv out) 0 0 0 0 [] 202 [(0, .ref (ad q)), (1, .int x1), (2, .int x2)] [] μ ν := by
  unfold e_M_follows_202 at hF
  refine z_aload_n d_M_follows_202 0 rfl rfl ?_
  obtain ⟨ty1, hty1, hF⟩ := zh_bind hF
  refine z_callV d_M_follows_203 (c_M_startsScan hm hty1) mv_M_startsScan l_M_229 (fun _ _ h => h) (hm 0 _ rfl) rfl rfl ⟨Nat.le_of_ble_eq_true rfl, Nat.le_of_ble_eq_true rfl⟩ ⟨Nat.le_of_ble_eq_true rfl, Nat.le_of_ble_eq_true rfl⟩ rfl (Nat.le_of_ble_eq_true rfl) (fun r μ' ν' hq => ?_)
  obtain ⟨rfl, rfl, rfl⟩ := hq
  show Z _ _ _ _ _ _ _ _ _ _ _ 0 0 _ _ _ [] _ _
  exact z_M_follows_206 hm  hF
def e_M_follows_193 (q : Nat)  (x1 : Int32) (s0 : Int32) (μ : zI) (ν : zJ) : Option (zI × zJ) := (if x1 = 0 then (if s0 = 0 then e_M_follows_206 q x1 s0 μ ν else e_M_follows_202 q x1 s0 μ ν) else e_M_follows_202 q x1 s0 μ ν)
theorem z_M_follows_193 {l : Launch} {D : va_G} {dA : Nat → ClassId} {ad : Nat → Nat} {sh : List zSE}  {q : Nat} (hm : zMo sh q)  {x1 : Int32} {s0 : Int32} {μ : zI} {ν : zJ} {out : (zI × zJ)} (hF : e_M_follows_193 q  x1 s0 μ ν = some out) : Z l D dA ad sh m_M_follows (zR 4 0 0) (zS ad) (zOv out) 0 0 0 0 [] 193 [(0, .ref (ad q)), (1, .int x1)] [.int s0] μ ν := by
  unfold e_M_follows_193 at hF
  refine z_istore_n d_M_follows_193 rfl (by decide) (L2 := [(2, .int s0), (0, .ref (ad q)), (1, .int x1)]) rfl ?_
  refine z_iload_n d_M_follows_194 2 rfl rfl ?_
  refine z_if_ne d_M_follows_195 (tgt := 202) (by decide) (fun cy1 => ?_) (fun cy1 => ?_)
  · replace hF := zh_f cy1 hF
    refine z_sub [1, 2, 0] (L' := [(0, .ref (ad q)), (1, .int x1), (2, .int s0)]) rfl ?_
    exact z_M_follows_202 hm  hF
  · replace hF := zh_t cy1 hF
    refine z_iload_n d_M_follows_198 0 rfl rfl ?_
    refine z_if_eq d_M_follows_199 (tgt := 206) (by decide) (fun cy2 => ?_) (fun cy2 => ?_)
    · replace hF := zh_t cy2 hF
      refine z_sub [1, 2, 0] (L' := [(0, .ref (ad q)), (1, .int x1), (2, .int s0)]) rfl ?_
      exact z_M_follows_206 hm  hF
    · replace hF := zh_f cy2 hF
      refine z_sub [1, 2, 0] (L' := [(0, .ref (ad q)), (1, .int x1), (2, .int s0)]) rfl ?_
      exact z_M_follows_202 hm  hF
def e_M_follows_192 (q : Nat)  (x1 : Int32) (μ : zI) (ν : zJ) : Option (zI × zJ) := e_M_follows_193 q x1 0 μ ν
theorem z_M_follows_192 {l : Launch} {D : va_G} {dA : Nat → ClassId} {ad : Nat → Nat} {sh : List zSE}  {q : Nat} (hm : zMo sh q)  {x1 : Int32} {μ : zI} {ν : zJ} {out : (zI × zJ)} (hF : e_M_follows_192 q  x1 μ ν = some out) : Z l D dA ad sh m_M_follows (zR 4 0 0) (zS ad) (zOv out) 0 0 0 0 [] 192 [(0, .ref (ad q)), (1, .int x1)] [] μ ν := by
  unfold e_M_follows_192 at hF
  refine z_iconst d_M_follows_192 (v := 0) (by decide) ?_
  exact z_M_follows_193 hm  hF
def e_M_follows_144 (q : Nat)  (s0 : Int32) (μ : zI) (ν : zJ) : Option (zI × zJ) := (if (μ (q + 7) 16) ≤ 0 then e_M_follows_192 q s0 μ ν else (if 0 ≤ (lg_cmp (100 * (Int32.toInt64 (μ q 30))) ((Int32.toInt64 (μ (q + 7) 30)) * (Int32.toInt64 (100 - (μ (q + 7) 16))))) then e_M_follows_192 q s0 μ ν else e_M_follows_193 q s0 1 μ ν))
theorem z_M_follows_144 {l : Launch} {D : va_G} {dA : Nat → ClassId} {ad : Nat → Nat} {sh : List zSE}  {q : Nat} (hm : zMo sh q)  {s0 : Int32} {μ : zI} {ν : zJ} {out : (zI × zJ)} (hF : e_M_follows_144 q  s0 μ ν = some out) : Z l D dA ad sh m_M_follows (zR 4 0 0) (zS ad) (zOv out) 0 0 0 0 [] 144 [(0, .ref (ad q))] [.int s0] μ ν := by
  unfold e_M_follows_144 at hF
  refine z_istore_n d_M_follows_144 rfl (by decide) (L2 := [(1, .int s0), (0, .ref (ad q))]) rfl ?_
  refine z_aload_n d_M_follows_145 1 rfl rfl ?_
  refine z_getr d_M_follows_146 (q := (q + 7)) f_M_33 (hm 0 _ rfl) rfl ?_
  refine z_bipush d_M_follows_149 (v := 16) (by decide) ?_
  refine z_iald d_M_follows_151 (hm 7 _ rfl) (zin_vp rfl) ?_
  show Z _ _ _ _ _ _ _ _ _ _ _ _ _ _ _ _ [.int (μ (q + 7) 16)] _ _
  refine z_if_le d_M_follows_152 (tgt := 192) (by decide) (fun cy1 => ?_) (fun cy1 => ?_)
  · replace hF := zh_t cy1 hF
    refine z_sub [1, 0] (L' := [(0, .ref (ad q)), (1, .int s0)]) rfl ?_
    exact z_M_follows_192 hm  hF
  · replace hF := zh_f cy1 hF
    refine z_ldc2 d_M_follows_155 k_M_227 ?_
    refine z_aload_n d_M_follows_158 1 rfl rfl ?_
    refine z_get d_M_follows_159 f_M_200 (hm 0 _ rfl) rfl ?_
    refine z_i2l d_M_follows_162 ?_
    refine z_lmul d_M_follows_163 ?_
    refine z_aload_n d_M_follows_164 1 rfl rfl ?_
    refine z_getr d_M_follows_165 (q := (q + 7)) f_M_33 (hm 0 _ rfl) rfl ?_
    refine z_bipush d_M_follows_168 (v := 30) (by decide) ?_
    refine z_iald d_M_follows_170 (hm 7 _ rfl) (zin_vp rfl) ?_
    show Z _ _ _ _ _ _ _ _ _ _ _ _ _ _ _ _ [.int (μ (q + 7) 30), .long (100 * (Int32.toInt64 (μ q 30)))] _ _
    refine z_i2l d_M_follows_171 ?_
    refine z_bipush d_M_follows_172 (v := 100) (by decide) ?_
    refine z_aload_n d_M_follows_174 1 rfl rfl ?_
    refine z_getr d_M_follows_175 (q := (q + 7)) f_M_33 (hm 0 _ rfl) rfl ?_
    refine z_bipush d_M_follows_178 (v := 16) (by decide) ?_
    refine z_iald d_M_follows_180 (hm 7 _ rfl) (zin_vp rfl) ?_
    show Z _ _ _ _ _ _ _ _ _ _ _ _ _ _ _ _ [.int (μ (q + 7) 16), .int 100, .long (Int32.toInt64 (μ (q + 7) 30)), .long (100 * (Int32.toInt64 (μ q 30)))] _ _
    refine z_isub d_M_follows_181 ?_
    refine z_i2l d_M_follows_182 ?_
    refine z_lmul d_M_follows_183 ?_
    refine z_lcmp d_M_follows_184 ?_
    refine z_if_ge d_M_follows_185 (tgt := 192) (by decide) (fun cy2 => ?_) (fun cy2 => ?_)
    · replace hF := zh_t cy2 hF
      refine z_sub [1, 0] (L' := [(0, .ref (ad q)), (1, .int s0)]) rfl ?_
      exact z_M_follows_192 hm  hF
    · replace hF := zh_f cy2 hF
      refine z_iconst d_M_follows_188 (v := 1) (by decide) ?_
      refine z_goto d_M_follows_189 (tgt := 193) (by decide) ?_
      refine z_sub [1, 0] (L' := [(0, .ref (ad q)), (1, .int s0)]) rfl ?_
      exact z_M_follows_193 hm  hF
def e_M_follows_143 (q : Nat)   (μ : zI) (ν : zJ) : Option (zI × zJ) := e_M_follows_144 q 0 μ ν
theorem z_M_follows_143 {l : Launch} {D : va_G} {dA : Nat → ClassId} {ad : Nat → Nat} {sh : List zSE}  {q : Nat} (hm : zMo sh q)   {μ : zI} {ν : zJ} {out : (zI × zJ)} (hF : e_M_follows_143 q   μ ν = some out) : Z l D dA ad sh m_M_follows (zR 4 0 0) (zS ad) (zOv out) 0 0 0 0 [] 143 [(0, .ref (ad q))] [] μ ν := by
  unfold e_M_follows_143 at hF
  refine z_iconst d_M_follows_143 (v := 0) (by decide) ?_
  exact z_M_follows_144 hm  hF
def e_M_follows_112 (q : Nat)   (μ : zI) (ν : zJ) : Option (zI × zJ) := (if (μ (q + 7) 15) ≤ 0 then e_M_follows_143 q μ ν else (if (μ (q + 7) 32) < (μ (q + 7) 15) then e_M_follows_143 q μ ν else e_M_follows_144 q 1 μ ν))
theorem z_M_follows_112 {l : Launch} {D : va_G} {dA : Nat → ClassId} {ad : Nat → Nat} {sh : List zSE}  {q : Nat} (hm : zMo sh q)   {μ : zI} {ν : zJ} {out : (zI × zJ)} (hF : e_M_follows_112 q   μ ν = some out) : Z l D dA ad sh m_M_follows (zR 4 0 0) (zS ad) (zOv out) 0 0 0 0 [] 112 [(0, .ref (ad q))] [] μ ν := by
  unfold e_M_follows_112 at hF
  refine z_aload_n d_M_follows_112 0 rfl rfl ?_
  refine z_getr d_M_follows_113 (q := (q + 7)) f_M_33 (hm 0 _ rfl) rfl ?_
  refine z_bipush d_M_follows_116 (v := 15) (by decide) ?_
  refine z_iald d_M_follows_118 (hm 7 _ rfl) (zin_vp rfl) ?_
  show Z _ _ _ _ _ _ _ _ _ _ _ _ _ _ _ _ [.int (μ (q + 7) 15)] _ _
  refine z_if_le d_M_follows_119 (tgt := 143) (by decide) (fun cy1 => ?_) (fun cy1 => ?_)
  · replace hF := zh_t cy1 hF
    exact z_M_follows_143 hm  hF
  · replace hF := zh_f cy1 hF
    refine z_aload_n d_M_follows_122 0 rfl rfl ?_
    refine z_getr d_M_follows_123 (q := (q + 7)) f_M_33 (hm 0 _ rfl) rfl ?_
    refine z_bipush d_M_follows_126 (v := 32) (by decide) ?_
    refine z_iald d_M_follows_128 (hm 7 _ rfl) (zin_vp rfl) ?_
    show Z _ _ _ _ _ _ _ _ _ _ _ _ _ _ _ _ [.int (μ (q + 7) 32)] _ _
    refine z_aload_n d_M_follows_129 0 rfl rfl ?_
    refine z_getr d_M_follows_130 (q := (q + 7)) f_M_33 (hm 0 _ rfl) rfl ?_
    refine z_bipush d_M_follows_133 (v := 15) (by decide) ?_
    refine z_iald d_M_follows_135 (hm 7 _ rfl) (zin_vp rfl) ?_
    show Z _ _ _ _ _ _ _ _ _ _ _ _ _ _ _ _ [.int (μ (q + 7) 15), .int (μ (q + 7) 32)] _ _
    refine z_icmp_lt d_M_follows_136 (tgt := 143) (by decide) (fun cy2 => ?_) (fun cy2 => ?_)
    · replace hF := zh_t cy2 hF
      exact z_M_follows_143 hm  hF
    · replace hF := zh_f cy2 hF
      refine z_iconst d_M_follows_139 (v := 1) (by decide) ?_
      refine z_goto d_M_follows_140 (tgt := 144) (by decide) ?_
      exact z_M_follows_144 hm  hF
def e_M_follows_17 (q : Nat)  (s1 : Int32) (μ : zI) (ν : zJ) : Option (zI × zJ) := (if zb s1 = true then zlet (zu μ q 31 s1) fun μy2 => (if (μy2 q 31) = 0 then zlet (zu μy2 (q + 7) 32 ((μy2 (q + 7) 32) + 1)) fun μy4 => (if (μy4 (q + 7) 17) = 2 then Option.bind (E_M_shared q (μy4 (q + 7) 18) μy4 ν) fun ty9 => zlet (zu ty9.2.1 (q + 7) 26 ty9.1) fun μy10 => Option.bind (E_M_powerAt q (μy10 (q + 7) 26) μy10 ty9.2.2) fun ty11 => zlet (zu ty11.2.1 q 30 ty11.1) fun μy12 => e_M_follows_112 q μy12 ty11.2.2 else (if (μy4 (q + 7) 17) = 1 then Option.bind (E_M_slopes q μy4 ν) fun ty8 => e_M_follows_112 q ty8.1 ty8.2 else Option.bind (E_M_climbs q μy4 ν) fun ty7 => e_M_follows_112 q ty7.1 ty7.2)) else Option.bind (E_M_scans q μy2 ν) fun ty13 => some (ty13.1, ty13.2)) else none)
theorem z_M_follows_17 {l : Launch} {D : va_G} {dA : Nat → ClassId} {ad : Nat → Nat} {sh : List zSE}  {q : Nat} (hm : zMo sh q)  {s1 : Int32} {μ : zI} {ν : zJ} {out : (zI × zJ)} (hF : e_M_follows_17 q  s1 μ ν = some out) : Z l D dA ad sh m_M_follows (zR 4 0 0) (zS ad) (zOv out) 0 0 0 0 [] 17 [(0, .ref (ad q))] [.int s1, .ref (ad q)] μ ν := by
  unfold e_M_follows_17 at hF
  obtain ⟨hy1, hF⟩ := zh_if hF
  refine z_put d_M_follows_17 f_M_212 (hm 0 _ rfl) rfl (CL_fin _ _ (fun q hq => by cases hq; rfl)) (zb_n hy1) (zb_f hy1) ?_
  obtain ⟨μy2, hy2, hF⟩ := zh_let hF
  refine z_eqm hy2 ?_
  refine z_aload_n d_M_follows_20 0 rfl rfl ?_
  refine z_get d_M_follows_21 f_M_212 (hm 0 _ rfl) rfl ?_
  refine z_if_eq d_M_follows_24 (tgt := 32) (by decide) (fun cy3 => ?_) (fun cy3 => ?_)
  · replace hF := zh_t cy3 hF
    refine z_aload_n d_M_follows_32 0 rfl rfl ?_
    refine z_getr d_M_follows_33 (q := (q + 7)) f_M_33 (hm 0 _ rfl) rfl ?_
    refine z_bipush d_M_follows_36 (v := 32) (by decide) ?_
    refine z_dup2 d_M_follows_38 rfl rfl ?_
    refine z_iald d_M_follows_39 (hm 7 _ rfl) (zin_vp rfl) ?_
    show Z _ _ _ _ _ _ _ _ _ _ _ _ _ _ _ _ [.int (μy2 (q + 7) 32), .int 32, .ref (ad (q + 7))] _ _
    refine z_iconst d_M_follows_40 (v := 1) (by decide) ?_
    refine z_iadd d_M_follows_41 ?_
    refine z_iast d_M_follows_42 (hm 7 _ rfl) (zin_vp rfl) ?_
    obtain ⟨μy4, hy4, hF⟩ := zh_let hF
    refine z_eqm hy4 ?_
    refine z_aload_n d_M_follows_43 0 rfl rfl ?_
    refine z_getr d_M_follows_44 (q := (q + 7)) f_M_33 (hm 0 _ rfl) rfl ?_
    refine z_bipush d_M_follows_47 (v := 17) (by decide) ?_
    refine z_iald d_M_follows_49 (hm 7 _ rfl) (zin_vp rfl) ?_
    show Z _ _ _ _ _ _ _ _ _ _ _ _ _ _ _ _ [.int (μy4 (q + 7) 17)] _ _
    refine z_iconst d_M_follows_50 (v := 2) (by decide) ?_
    refine z_icmp_ne d_M_follows_51 (tgt := 90) (by decide) (fun cy5 => ?_) (fun cy5 => ?_)
    · replace hF := zh_f cy5 hF
      refine z_aload_n d_M_follows_90 0 rfl rfl ?_
      refine z_getr d_M_follows_91 (q := (q + 7)) f_M_33 (hm 0 _ rfl) rfl ?_
      refine z_bipush d_M_follows_94 (v := 17) (by decide) ?_
      refine z_iald d_M_follows_96 (hm 7 _ rfl) (zin_vp rfl) ?_
      show Z _ _ _ _ _ _ _ _ _ _ _ _ _ _ _ _ [.int (μy4 (q + 7) 17)] _ _
      refine z_iconst d_M_follows_97 (v := 1) (by decide) ?_
      refine z_icmp_ne d_M_follows_98 (tgt := 108) (by decide) (fun cy6 => ?_) (fun cy6 => ?_)
      · replace hF := zh_f cy6 hF
        refine z_aload_n d_M_follows_108 0 rfl rfl ?_
        obtain ⟨ty7, hty7, hF⟩ := zh_bind hF
        refine z_callV d_M_follows_109 (c_M_climbs hm hty7) mv_M_climbs l_M_224 (fun _ _ h => h) (hm 0 _ rfl) rfl rfl ⟨Nat.le_of_ble_eq_true rfl, Nat.le_of_ble_eq_true rfl⟩ ⟨Nat.le_of_ble_eq_true rfl, Nat.le_of_ble_eq_true rfl⟩ rfl (Nat.le_of_ble_eq_true rfl) (fun r μ' ν' hq => ?_)
        obtain ⟨rfl, rfl, rfl⟩ := hq
        show Z _ _ _ _ _ _ _ _ _ _ _ 0 0 _ _ _ [] _ _
        exact z_M_follows_112 hm  hF
      · replace hF := zh_t cy6 hF
        refine z_aload_n d_M_follows_101 0 rfl rfl ?_
        obtain ⟨ty8, hty8, hF⟩ := zh_bind hF
        refine z_callV d_M_follows_102 (c_M_slopes hm hty8) mv_M_slopes l_M_221 (fun _ _ h => h) (hm 0 _ rfl) rfl rfl ⟨Nat.le_of_ble_eq_true rfl, Nat.le_of_ble_eq_true rfl⟩ ⟨Nat.le_of_ble_eq_true rfl, Nat.le_of_ble_eq_true rfl⟩ rfl (Nat.le_of_ble_eq_true rfl) (fun r μ' ν' hq => ?_)
        obtain ⟨rfl, rfl, rfl⟩ := hq
        show Z _ _ _ _ _ _ _ _ _ _ _ 0 0 _ _ _ [] _ _
        refine z_goto d_M_follows_105 (tgt := 112) (by decide) ?_
        exact z_M_follows_112 hm  hF
    · replace hF := zh_t cy5 hF
      refine z_aload_n d_M_follows_54 0 rfl rfl ?_
      refine z_getr d_M_follows_55 (q := (q + 7)) f_M_33 (hm 0 _ rfl) rfl ?_
      refine z_bipush d_M_follows_58 (v := 26) (by decide) ?_
      refine z_aload_n d_M_follows_60 0 rfl rfl ?_
      refine z_aload_n d_M_follows_61 0 rfl rfl ?_
      refine z_getr d_M_follows_62 (q := (q + 7)) f_M_33 (hm 0 _ rfl) rfl ?_
      refine z_bipush d_M_follows_65 (v := 18) (by decide) ?_
      refine z_iald d_M_follows_67 (hm 7 _ rfl) (zin_vp rfl) ?_
      show Z _ _ _ _ _ _ _ _ _ _ _ _ _ _ _ _ [.int (μy4 (q + 7) 18), .ref (ad q), .int 26, .ref (ad (q + 7))] _ _
      obtain ⟨ty9, hty9, hF⟩ := zh_bind hF
      refine z_callV d_M_follows_68 (c_M_shared hm hty9) mv_M_shared l_M_218 (fun _ _ h => h) (hm 0 _ rfl) rfl rfl ⟨Nat.le_of_ble_eq_true rfl, Nat.le_of_ble_eq_true rfl⟩ ⟨Nat.le_of_ble_eq_true rfl, Nat.le_of_ble_eq_true rfl⟩ rfl (Nat.le_of_ble_eq_true rfl) (fun r μ' ν' hq => ?_)
      obtain ⟨rfl, rfl, rfl⟩ := hq
      show Z _ _ _ _ _ _ _ _ _ _ _ 0 0 _ _ _ [.int ty9.1, .int 26, .ref (ad (q + 7))] _ _
      refine z_iast d_M_follows_71 (hm 7 _ rfl) (zin_vp rfl) ?_
      obtain ⟨μy10, hy10, hF⟩ := zh_let hF
      refine z_eqm hy10 ?_
      refine z_aload_n d_M_follows_72 0 rfl rfl ?_
      refine z_aload_n d_M_follows_73 0 rfl rfl ?_
      refine z_aload_n d_M_follows_74 0 rfl rfl ?_
      refine z_getr d_M_follows_75 (q := (q + 7)) f_M_33 (hm 0 _ rfl) rfl ?_
      refine z_bipush d_M_follows_78 (v := 26) (by decide) ?_
      refine z_iald d_M_follows_80 (hm 7 _ rfl) (zin_vp rfl) ?_
      show Z _ _ _ _ _ _ _ _ _ _ _ _ _ _ _ _ [.int (μy10 (q + 7) 26), .ref (ad q), .ref (ad q)] _ _
      obtain ⟨ty11, hty11, hF⟩ := zh_bind hF
      refine z_callV d_M_follows_81 (c_M_powerAt hm hty11) mv_M_powerAt l_M_188 (fun _ _ h => h) (hm 0 _ rfl) rfl rfl ⟨Nat.le_of_ble_eq_true rfl, Nat.le_of_ble_eq_true rfl⟩ ⟨Nat.le_of_ble_eq_true rfl, Nat.le_of_ble_eq_true rfl⟩ rfl (Nat.le_of_ble_eq_true rfl) (fun r μ' ν' hq => ?_)
      obtain ⟨rfl, rfl, rfl⟩ := hq
      show Z _ _ _ _ _ _ _ _ _ _ _ 0 0 _ _ _ [.int ty11.1, .ref (ad q)] _ _
      refine z_put d_M_follows_84 f_M_200 (hm 0 _ rfl) rfl (CL_fin _ _ (fun q hq => by cases hq; rfl)) rfl rfl ?_
      obtain ⟨μy12, hy12, hF⟩ := zh_let hF
      refine z_eqm hy12 ?_
      refine z_goto d_M_follows_87 (tgt := 112) (by decide) ?_
      exact z_M_follows_112 hm  hF
  · replace hF := zh_f cy3 hF
    refine z_aload_n d_M_follows_27 0 rfl rfl ?_
    obtain ⟨ty13, hty13, hF⟩ := zh_bind hF
    refine z_callV d_M_follows_28 (c_M_scans hm hty13) mv_M_scans l_M_215 (fun _ _ h => h) (hm 0 _ rfl) rfl rfl ⟨Nat.le_of_ble_eq_true rfl, Nat.le_of_ble_eq_true rfl⟩ ⟨Nat.le_of_ble_eq_true rfl, Nat.le_of_ble_eq_true rfl⟩ rfl (Nat.le_of_ble_eq_true rfl) (fun r μ' ν' hq => ?_)
    obtain ⟨rfl, rfl, rfl⟩ := hq
    show Z _ _ _ _ _ _ _ _ _ _ _ 0 0 _ _ _ [] _ _
    cases hF
    exact z_return d_M_follows_31 rfl ⟨rfl, rfl, rfl⟩
def e_M_follows_0 (q : Nat)   (μ : zI) (ν : zJ) : Option (zI × zJ) := (if (μ (q + 7) 31) = 1 then e_M_follows_17 q 1 μ ν else e_M_follows_17 q 0 μ ν)
theorem z_M_follows_0 {l : Launch} {D : va_G} {dA : Nat → ClassId} {ad : Nat → Nat} {sh : List zSE}  {q : Nat} (hm : zMo sh q)   {μ : zI} {ν : zJ} {out : (zI × zJ)} (hF : e_M_follows_0 q   μ ν = some out) : Z l D dA ad sh m_M_follows (zR 4 0 0) (zS ad) (zOv out) 0 0 0 0 [] 0 [(0, .ref (ad q))] [] μ ν := by
  unfold e_M_follows_0 at hF
  refine z_aload_n d_M_follows_0 0 rfl rfl ?_
  refine z_aload_n d_M_follows_1 0 rfl rfl ?_
  refine z_getr d_M_follows_2 (q := (q + 7)) f_M_33 (hm 0 _ rfl) rfl ?_
  refine z_bipush d_M_follows_5 (v := 31) (by decide) ?_
  refine z_iald d_M_follows_7 (hm 7 _ rfl) (zin_vp rfl) ?_
  show Z _ _ _ _ _ _ _ _ _ _ _ _ _ _ _ _ [.int (μ (q + 7) 31), .ref (ad q)] _ _
  refine z_iconst d_M_follows_8 (v := 1) (by decide) ?_
  refine z_icmp_ne d_M_follows_9 (tgt := 16) (by decide) (fun cy1 => ?_) (fun cy1 => ?_)
  · replace hF := zh_f cy1 hF
    refine z_iconst d_M_follows_16 (v := 0) (by decide) ?_
    exact z_M_follows_17 hm  hF
  · replace hF := zh_t cy1 hF
    refine z_iconst d_M_follows_12 (v := 1) (by decide) ?_
    refine z_goto d_M_follows_13 (tgt := 17) (by decide) ?_
    exact z_M_follows_17 hm  hF
def E_M_follows (q : Nat)  (μ : zI) (ν : zJ) : Option (zI × zJ) := e_M_follows_0 q μ ν
theorem c_M_follows {l : Launch} {D : va_G} {dA : Nat → ClassId} {ad : Nat → Nat} {sh : List zSE} {μ : zI} {ν : zJ} {q : Nat} (hm : zMo sh q) {out : (zI × zJ)} (hE : E_M_follows q μ ν = some out) : zC l D dA ad sh m_M_follows 4 0 0 [.ref (ad q)] μ ν (zOv out) :=
  zC.of (by decide) (Nat.le_of_ble_eq_true rfl) (z_M_follows_0 hm hE)
def e_M_charges_436 (q : Nat)  (x1 : Int32) (x2 : Int32) (μ : zI) (ν : zJ) : Option (zI × zJ) := some (μ, ν)
theorem z_M_charges_436 {l : Launch} {D : va_G} {dA : Nat → ClassId} {ad : Nat → Nat} {sh : List zSE}  {q : Nat} (hm : zMo sh q)  {x1 : Int32} {x2 : Int32} {μ : zI} {ν : zJ} {out : (zI × zJ)} (hF : e_M_charges_436 q  x1 x2 μ ν = some out) : Z l D dA ad sh m_M_charges (zR 0 0 0) (zS ad) (zOv out) 0 0 0 0 [] 436 [(0, .ref (ad q)), (1, .int x1), (2, .int x2)] [] μ ν := by
  unfold e_M_charges_436 at hF
  cases hF
  exact z_return d_M_charges_436 rfl ⟨rfl, rfl, rfl⟩
def e_M_charges_268 (q : Nat)  (x1 : Int32) (x2 : Int32) (μ : zI) (ν : zJ) : Option (zI × zJ) := zlet (zu μ (q + 7) 34 1) fun μy1 => zlet (zu μy1 (q + 7) 35 0) fun μy2 => zlet (zul ν (q + 9) 8 ((ν (q + 9) 8) + 1)) fun νy3 => e_M_charges_436 q x1 x2 μy2 νy3
theorem z_M_charges_268 {l : Launch} {D : va_G} {dA : Nat → ClassId} {ad : Nat → Nat} {sh : List zSE}  {q : Nat} (hm : zMo sh q)  {x1 : Int32} {x2 : Int32} {μ : zI} {ν : zJ} {out : (zI × zJ)} (hF : e_M_charges_268 q  x1 x2 μ ν = some out) : Z l D dA ad sh m_M_charges (zR 0 0 0) (zS ad) (zOv out) 0 0 0 0 [] 268 [(0, .ref (ad q)), (1, .int x1), (2, .int x2)] [] μ ν := by
  unfold e_M_charges_268 at hF
  refine z_aload_n d_M_charges_268 0 rfl rfl ?_
  refine z_getr d_M_charges_269 (q := (q + 7)) f_M_33 (hm 0 _ rfl) rfl ?_
  refine z_bipush d_M_charges_272 (v := 34) (by decide) ?_
  refine z_iconst d_M_charges_274 (v := 1) (by decide) ?_
  refine z_iast d_M_charges_275 (hm 7 _ rfl) (zin_vp rfl) ?_
  obtain ⟨μy1, hy1, hF⟩ := zh_let hF
  refine z_eqm hy1 ?_
  refine z_aload_n d_M_charges_276 0 rfl rfl ?_
  refine z_getr d_M_charges_277 (q := (q + 7)) f_M_33 (hm 0 _ rfl) rfl ?_
  refine z_bipush d_M_charges_280 (v := 35) (by decide) ?_
  refine z_iconst d_M_charges_282 (v := 0) (by decide) ?_
  refine z_iast d_M_charges_283 (hm 7 _ rfl) (zin_vp rfl) ?_
  obtain ⟨μy2, hy2, hF⟩ := zh_let hF
  refine z_eqm hy2 ?_
  refine z_aload_n d_M_charges_284 0 rfl rfl ?_
  refine z_getr d_M_charges_285 (q := (q + 9)) f_M_39 (hm 0 _ rfl) rfl ?_
  refine z_bipush d_M_charges_288 (v := 8) (by decide) ?_
  refine z_dup2 d_M_charges_290 rfl rfl ?_
  refine z_lald d_M_charges_291 (hm 9 _ rfl) (zin_vp rfl) ?_
  show Z _ _ _ _ _ _ _ _ _ _ _ _ _ _ _ _ [.long (ν (q + 9) 8), .int 8, .ref (ad (q + 9))] _ _
  refine z_lconst d_M_charges_292 (v := 1) (by decide) ?_
  refine z_ladd d_M_charges_293 ?_
  refine z_last d_M_charges_294 (hm 9 _ rfl) (zin_vp rfl) ?_
  obtain ⟨νy3, hy3, hF⟩ := zh_let hF
  refine z_eqn hy3 ?_
  refine z_goto d_M_charges_295 (tgt := 436) (by decide) ?_
  exact z_M_charges_436 hm  hF
def e_M_charges_364 (q : Nat)  (x1 : Int32) (x2 : Int32) (μ : zI) (ν : zJ) : Option (zI × zJ) := zlet (zu μ (q + 7) 34 2) fun μy1 => zlet (zul ν (q + 9) 9 ((ν (q + 9) 9) + 1)) fun νy2 => e_M_charges_436 q x1 x2 μy1 νy2
theorem z_M_charges_364 {l : Launch} {D : va_G} {dA : Nat → ClassId} {ad : Nat → Nat} {sh : List zSE}  {q : Nat} (hm : zMo sh q)  {x1 : Int32} {x2 : Int32} {μ : zI} {ν : zJ} {out : (zI × zJ)} (hF : e_M_charges_364 q  x1 x2 μ ν = some out) : Z l D dA ad sh m_M_charges (zR 0 0 0) (zS ad) (zOv out) 0 0 0 0 [] 364 [(0, .ref (ad q)), (1, .int x1), (2, .int x2)] [] μ ν := by
  unfold e_M_charges_364 at hF
  refine z_aload_n d_M_charges_364 0 rfl rfl ?_
  refine z_getr d_M_charges_365 (q := (q + 7)) f_M_33 (hm 0 _ rfl) rfl ?_
  refine z_bipush d_M_charges_368 (v := 34) (by decide) ?_
  refine z_iconst d_M_charges_370 (v := 2) (by decide) ?_
  refine z_iast d_M_charges_371 (hm 7 _ rfl) (zin_vp rfl) ?_
  obtain ⟨μy1, hy1, hF⟩ := zh_let hF
  refine z_eqm hy1 ?_
  refine z_aload_n d_M_charges_372 0 rfl rfl ?_
  refine z_getr d_M_charges_373 (q := (q + 9)) f_M_39 (hm 0 _ rfl) rfl ?_
  refine z_bipush d_M_charges_376 (v := 9) (by decide) ?_
  refine z_dup2 d_M_charges_378 rfl rfl ?_
  refine z_lald d_M_charges_379 (hm 9 _ rfl) (zin_vp rfl) ?_
  show Z _ _ _ _ _ _ _ _ _ _ _ _ _ _ _ _ [.long (ν (q + 9) 9), .int 9, .ref (ad (q + 9))] _ _
  refine z_lconst d_M_charges_380 (v := 1) (by decide) ?_
  refine z_ladd d_M_charges_381 ?_
  refine z_last d_M_charges_382 (hm 9 _ rfl) (zin_vp rfl) ?_
  obtain ⟨νy2, hy2, hF⟩ := zh_let hF
  refine z_eqn hy2 ?_
  refine z_goto d_M_charges_383 (tgt := 436) (by decide) ?_
  exact z_M_charges_436 hm  hF
def e_M_charges_207 (q : Nat)  (x1 : Int32) (x2 : Int32) (s1 : Int32) (μ : zI) (ν : zJ) : Option (zI × zJ) := zlet (zu μ q 32 s1) fun μy1 => zlet (zu μy1 (q + 7) 33 ((μy1 (q + 7) 33) + (μy1 q 32))) fun μy2 => (if (μy2 (q + 7) 34) = 0 then (if (μy2 (q + 7) 2) ≤ (x2 + ((μy2 q 32) / 20)) then e_M_charges_268 q x1 x2 μy2 ν else (if (μy2 (q + 7) 33) = (μy2 (q + 7) 0) then e_M_charges_268 q x1 x2 μy2 ν else e_M_charges_436 q x1 x2 μy2 ν)) else (if (μy2 (q + 7) 34) = 1 then zlet (zu μy2 (q + 7) 35 ((μy2 (q + 7) 35) + 1)) fun μy8 => (if (μy8 (q + 7) 5) ≤ (μy8 (q + 7) 35) then e_M_charges_364 q x1 x2 μy8 ν else (if (μy8 (q + 7) 6) ≤ (μy8 q 32) then e_M_charges_436 q x1 x2 μy8 ν else (if (μy8 q 30) < (μy8 (q + 7) 6) then e_M_charges_436 q x1 x2 μy8 ν else e_M_charges_364 q x1 x2 μy8 ν))) else (if 0 ≤ (lg_cmp (100 * (Int32.toInt64 (μy2 (q + 7) 33))) ((Int32.toInt64 (μy2 (q + 7) 4)) * (Int32.toInt64 (μy2 (q + 7) 0)))) then e_M_charges_436 q x1 x2 μy2 ν else zlet (zu μy2 (q + 7) 34 0) fun μy6 => zlet (zul ν (q + 9) 10 ((ν (q + 9) 10) + 1)) fun νy7 => e_M_charges_436 q x1 x2 μy6 νy7)))
theorem z_M_charges_207 {l : Launch} {D : va_G} {dA : Nat → ClassId} {ad : Nat → Nat} {sh : List zSE}  {q : Nat} (hm : zMo sh q)  {x1 : Int32} {x2 : Int32} {s1 : Int32} {μ : zI} {ν : zJ} {out : (zI × zJ)} (hF : e_M_charges_207 q  x1 x2 s1 μ ν = some out) : Z l D dA ad sh m_M_charges (zR 0 0 0) (zS ad) (zOv out) 0 0 0 0 [] 207 [(0, .ref (ad q)), (1, .int x1), (2, .int x2)] [.int s1, .ref (ad q)] μ ν := by
  unfold e_M_charges_207 at hF
  refine z_put d_M_charges_207 f_M_234 (hm 0 _ rfl) rfl (CL_fin _ _ (fun q hq => by cases hq; rfl)) rfl rfl ?_
  obtain ⟨μy1, hy1, hF⟩ := zh_let hF
  refine z_eqm hy1 ?_
  refine z_aload_n d_M_charges_210 0 rfl rfl ?_
  refine z_getr d_M_charges_211 (q := (q + 7)) f_M_33 (hm 0 _ rfl) rfl ?_
  refine z_bipush d_M_charges_214 (v := 33) (by decide) ?_
  refine z_dup2 d_M_charges_216 rfl rfl ?_
  refine z_iald d_M_charges_217 (hm 7 _ rfl) (zin_vp rfl) ?_
  show Z _ _ _ _ _ _ _ _ _ _ _ _ _ _ _ _ [.int (μy1 (q + 7) 33), .int 33, .ref (ad (q + 7))] _ _
  refine z_aload_n d_M_charges_218 0 rfl rfl ?_
  refine z_get d_M_charges_219 f_M_234 (hm 0 _ rfl) rfl ?_
  refine z_iadd d_M_charges_222 ?_
  refine z_iast d_M_charges_223 (hm 7 _ rfl) (zin_vp rfl) ?_
  obtain ⟨μy2, hy2, hF⟩ := zh_let hF
  refine z_eqm hy2 ?_
  refine z_aload_n d_M_charges_224 0 rfl rfl ?_
  refine z_getr d_M_charges_225 (q := (q + 7)) f_M_33 (hm 0 _ rfl) rfl ?_
  refine z_bipush d_M_charges_228 (v := 34) (by decide) ?_
  refine z_iald d_M_charges_230 (hm 7 _ rfl) (zin_vp rfl) ?_
  show Z _ _ _ _ _ _ _ _ _ _ _ _ _ _ _ _ [.int (μy2 (q + 7) 34)] _ _
  refine z_if_ne d_M_charges_231 (tgt := 298) (by decide) (fun cy3 => ?_) (fun cy3 => ?_)
  · replace hF := zh_f cy3 hF
    refine z_aload_n d_M_charges_298 0 rfl rfl ?_
    refine z_getr d_M_charges_299 (q := (q + 7)) f_M_33 (hm 0 _ rfl) rfl ?_
    refine z_bipush d_M_charges_302 (v := 34) (by decide) ?_
    refine z_iald d_M_charges_304 (hm 7 _ rfl) (zin_vp rfl) ?_
    show Z _ _ _ _ _ _ _ _ _ _ _ _ _ _ _ _ [.int (μy2 (q + 7) 34)] _ _
    refine z_iconst d_M_charges_305 (v := 1) (by decide) ?_
    refine z_icmp_ne d_M_charges_306 (tgt := 386) (by decide) (fun cy4 => ?_) (fun cy4 => ?_)
    · replace hF := zh_f cy4 hF
      refine z_ldc2 d_M_charges_386 k_M_227 ?_
      refine z_aload_n d_M_charges_389 0 rfl rfl ?_
      refine z_getr d_M_charges_390 (q := (q + 7)) f_M_33 (hm 0 _ rfl) rfl ?_
      refine z_bipush d_M_charges_393 (v := 33) (by decide) ?_
      refine z_iald d_M_charges_395 (hm 7 _ rfl) (zin_vp rfl) ?_
      show Z _ _ _ _ _ _ _ _ _ _ _ _ _ _ _ _ [.int (μy2 (q + 7) 33), .long 100] _ _
      refine z_i2l d_M_charges_396 ?_
      refine z_lmul d_M_charges_397 ?_
      refine z_aload_n d_M_charges_398 0 rfl rfl ?_
      refine z_getr d_M_charges_399 (q := (q + 7)) f_M_33 (hm 0 _ rfl) rfl ?_
      refine z_iconst d_M_charges_402 (v := 4) (by decide) ?_
      refine z_iald d_M_charges_403 (hm 7 _ rfl) (zin_vp rfl) ?_
      show Z _ _ _ _ _ _ _ _ _ _ _ _ _ _ _ _ [.int (μy2 (q + 7) 4), .long (100 * (Int32.toInt64 (μy2 (q + 7) 33)))] _ _
      refine z_i2l d_M_charges_404 ?_
      refine z_aload_n d_M_charges_405 0 rfl rfl ?_
      refine z_getr d_M_charges_406 (q := (q + 7)) f_M_33 (hm 0 _ rfl) rfl ?_
      refine z_iconst d_M_charges_409 (v := 0) (by decide) ?_
      refine z_iald d_M_charges_410 (hm 7 _ rfl) (zin_vp rfl) ?_
      show Z _ _ _ _ _ _ _ _ _ _ _ _ _ _ _ _ [.int (μy2 (q + 7) 0), .long (Int32.toInt64 (μy2 (q + 7) 4)), .long (100 * (Int32.toInt64 (μy2 (q + 7) 33)))] _ _
      refine z_i2l d_M_charges_411 ?_
      refine z_lmul d_M_charges_412 ?_
      refine z_lcmp d_M_charges_413 ?_
      refine z_if_ge d_M_charges_414 (tgt := 436) (by decide) (fun cy5 => ?_) (fun cy5 => ?_)
      · replace hF := zh_t cy5 hF
        exact z_M_charges_436 hm  hF
      · replace hF := zh_f cy5 hF
        refine z_aload_n d_M_charges_417 0 rfl rfl ?_
        refine z_getr d_M_charges_418 (q := (q + 7)) f_M_33 (hm 0 _ rfl) rfl ?_
        refine z_bipush d_M_charges_421 (v := 34) (by decide) ?_
        refine z_iconst d_M_charges_423 (v := 0) (by decide) ?_
        refine z_iast d_M_charges_424 (hm 7 _ rfl) (zin_vp rfl) ?_
        obtain ⟨μy6, hy6, hF⟩ := zh_let hF
        refine z_eqm hy6 ?_
        refine z_aload_n d_M_charges_425 0 rfl rfl ?_
        refine z_getr d_M_charges_426 (q := (q + 9)) f_M_39 (hm 0 _ rfl) rfl ?_
        refine z_bipush d_M_charges_429 (v := 10) (by decide) ?_
        refine z_dup2 d_M_charges_431 rfl rfl ?_
        refine z_lald d_M_charges_432 (hm 9 _ rfl) (zin_vp rfl) ?_
        show Z _ _ _ _ _ _ _ _ _ _ _ _ _ _ _ _ [.long (ν (q + 9) 10), .int 10, .ref (ad (q + 9))] _ _
        refine z_lconst d_M_charges_433 (v := 1) (by decide) ?_
        refine z_ladd d_M_charges_434 ?_
        refine z_last d_M_charges_435 (hm 9 _ rfl) (zin_vp rfl) ?_
        obtain ⟨νy7, hy7, hF⟩ := zh_let hF
        refine z_eqn hy7 ?_
        exact z_M_charges_436 hm  hF
    · replace hF := zh_t cy4 hF
      refine z_aload_n d_M_charges_309 0 rfl rfl ?_
      refine z_getr d_M_charges_310 (q := (q + 7)) f_M_33 (hm 0 _ rfl) rfl ?_
      refine z_bipush d_M_charges_313 (v := 35) (by decide) ?_
      refine z_dup2 d_M_charges_315 rfl rfl ?_
      refine z_iald d_M_charges_316 (hm 7 _ rfl) (zin_vp rfl) ?_
      show Z _ _ _ _ _ _ _ _ _ _ _ _ _ _ _ _ [.int (μy2 (q + 7) 35), .int 35, .ref (ad (q + 7))] _ _
      refine z_iconst d_M_charges_317 (v := 1) (by decide) ?_
      refine z_iadd d_M_charges_318 ?_
      refine z_iast d_M_charges_319 (hm 7 _ rfl) (zin_vp rfl) ?_
      obtain ⟨μy8, hy8, hF⟩ := zh_let hF
      refine z_eqm hy8 ?_
      refine z_aload_n d_M_charges_320 0 rfl rfl ?_
      refine z_getr d_M_charges_321 (q := (q + 7)) f_M_33 (hm 0 _ rfl) rfl ?_
      refine z_bipush d_M_charges_324 (v := 35) (by decide) ?_
      refine z_iald d_M_charges_326 (hm 7 _ rfl) (zin_vp rfl) ?_
      show Z _ _ _ _ _ _ _ _ _ _ _ _ _ _ _ _ [.int (μy8 (q + 7) 35)] _ _
      refine z_aload_n d_M_charges_327 0 rfl rfl ?_
      refine z_getr d_M_charges_328 (q := (q + 7)) f_M_33 (hm 0 _ rfl) rfl ?_
      refine z_iconst d_M_charges_331 (v := 5) (by decide) ?_
      refine z_iald d_M_charges_332 (hm 7 _ rfl) (zin_vp rfl) ?_
      show Z _ _ _ _ _ _ _ _ _ _ _ _ _ _ _ _ [.int (μy8 (q + 7) 5), .int (μy8 (q + 7) 35)] _ _
      refine z_icmp_ge d_M_charges_333 (tgt := 364) (by decide) (fun cy9 => ?_) (fun cy9 => ?_)
      · replace hF := zh_t cy9 hF
        exact z_M_charges_364 hm  hF
      · replace hF := zh_f cy9 hF
        refine z_aload_n d_M_charges_336 0 rfl rfl ?_
        refine z_get d_M_charges_337 f_M_234 (hm 0 _ rfl) rfl ?_
        refine z_aload_n d_M_charges_340 0 rfl rfl ?_
        refine z_getr d_M_charges_341 (q := (q + 7)) f_M_33 (hm 0 _ rfl) rfl ?_
        refine z_bipush d_M_charges_344 (v := 6) (by decide) ?_
        refine z_iald d_M_charges_346 (hm 7 _ rfl) (zin_vp rfl) ?_
        show Z _ _ _ _ _ _ _ _ _ _ _ _ _ _ _ _ [.int (μy8 (q + 7) 6), .int (μy8 q 32)] _ _
        refine z_icmp_ge d_M_charges_347 (tgt := 436) (by decide) (fun cy10 => ?_) (fun cy10 => ?_)
        · replace hF := zh_t cy10 hF
          exact z_M_charges_436 hm  hF
        · replace hF := zh_f cy10 hF
          refine z_aload_n d_M_charges_350 0 rfl rfl ?_
          refine z_get d_M_charges_351 f_M_200 (hm 0 _ rfl) rfl ?_
          refine z_aload_n d_M_charges_354 0 rfl rfl ?_
          refine z_getr d_M_charges_355 (q := (q + 7)) f_M_33 (hm 0 _ rfl) rfl ?_
          refine z_bipush d_M_charges_358 (v := 6) (by decide) ?_
          refine z_iald d_M_charges_360 (hm 7 _ rfl) (zin_vp rfl) ?_
          show Z _ _ _ _ _ _ _ _ _ _ _ _ _ _ _ _ [.int (μy8 (q + 7) 6), .int (μy8 q 30)] _ _
          refine z_icmp_lt d_M_charges_361 (tgt := 436) (by decide) (fun cy11 => ?_) (fun cy11 => ?_)
          · replace hF := zh_t cy11 hF
            exact z_M_charges_436 hm  hF
          · replace hF := zh_f cy11 hF
            exact z_M_charges_364 hm  hF
  · replace hF := zh_t cy3 hF
    refine z_iload_n d_M_charges_234 2 rfl rfl ?_
    refine z_aload_n d_M_charges_235 0 rfl rfl ?_
    refine z_get d_M_charges_236 f_M_234 (hm 0 _ rfl) rfl ?_
    refine z_bipush d_M_charges_239 (v := 20) (by decide) ?_
    refine z_idiv d_M_charges_241 (by decide) ?_
    refine z_iadd d_M_charges_242 ?_
    refine z_aload_n d_M_charges_243 0 rfl rfl ?_
    refine z_getr d_M_charges_244 (q := (q + 7)) f_M_33 (hm 0 _ rfl) rfl ?_
    refine z_iconst d_M_charges_247 (v := 2) (by decide) ?_
    refine z_iald d_M_charges_248 (hm 7 _ rfl) (zin_vp rfl) ?_
    show Z _ _ _ _ _ _ _ _ _ _ _ _ _ _ _ _ [.int (μy2 (q + 7) 2), .int (x2 + ((μy2 q 32) / 20))] _ _
    refine z_icmp_ge d_M_charges_249 (tgt := 268) (by decide) (fun cy12 => ?_) (fun cy12 => ?_)
    · replace hF := zh_t cy12 hF
      exact z_M_charges_268 hm  hF
    · replace hF := zh_f cy12 hF
      refine z_aload_n d_M_charges_252 0 rfl rfl ?_
      refine z_getr d_M_charges_253 (q := (q + 7)) f_M_33 (hm 0 _ rfl) rfl ?_
      refine z_bipush d_M_charges_256 (v := 33) (by decide) ?_
      refine z_iald d_M_charges_258 (hm 7 _ rfl) (zin_vp rfl) ?_
      show Z _ _ _ _ _ _ _ _ _ _ _ _ _ _ _ _ [.int (μy2 (q + 7) 33)] _ _
      refine z_aload_n d_M_charges_259 0 rfl rfl ?_
      refine z_getr d_M_charges_260 (q := (q + 7)) f_M_33 (hm 0 _ rfl) rfl ?_
      refine z_iconst d_M_charges_263 (v := 0) (by decide) ?_
      refine z_iald d_M_charges_264 (hm 7 _ rfl) (zin_vp rfl) ?_
      show Z _ _ _ _ _ _ _ _ _ _ _ _ _ _ _ _ [.int (μy2 (q + 7) 0), .int (μy2 (q + 7) 33)] _ _
      refine z_icmp_ne d_M_charges_265 (tgt := 436) (by decide) (fun cy13 => ?_) (fun cy13 => ?_)
      · replace hF := zh_f cy13 hF
        exact z_M_charges_436 hm  hF
      · replace hF := zh_t cy13 hF
        exact z_M_charges_268 hm  hF
def e_M_charges_164 (q : Nat)  (x1 : Int32) (x2 : Int32) (μ : zI) (ν : zJ) : Option (zI × zJ) := (if (μ q 32) ≤ ((μ (q + 7) 0) - (μ (q + 7) 33)) then e_M_charges_207 q x1 x2 (μ q 32) μ ν else e_M_charges_207 q x1 x2 ((μ (q + 7) 0) - (μ (q + 7) 33)) μ ν)
theorem z_M_charges_164 {l : Launch} {D : va_G} {dA : Nat → ClassId} {ad : Nat → Nat} {sh : List zSE}  {q : Nat} (hm : zMo sh q)  {x1 : Int32} {x2 : Int32} {μ : zI} {ν : zJ} {out : (zI × zJ)} (hF : e_M_charges_164 q  x1 x2 μ ν = some out) : Z l D dA ad sh m_M_charges (zR 0 0 0) (zS ad) (zOv out) 0 0 0 0 [] 164 [(0, .ref (ad q)), (1, .int x1), (2, .int x2)] [] μ ν := by
  unfold e_M_charges_164 at hF
  refine z_aload_n d_M_charges_164 0 rfl rfl ?_
  refine z_aload_n d_M_charges_165 0 rfl rfl ?_
  refine z_getr d_M_charges_166 (q := (q + 7)) f_M_33 (hm 0 _ rfl) rfl ?_
  refine z_iconst d_M_charges_169 (v := 0) (by decide) ?_
  refine z_iald d_M_charges_170 (hm 7 _ rfl) (zin_vp rfl) ?_
  show Z _ _ _ _ _ _ _ _ _ _ _ _ _ _ _ _ [.int (μ (q + 7) 0), .ref (ad q)] _ _
  refine z_aload_n d_M_charges_171 0 rfl rfl ?_
  refine z_getr d_M_charges_172 (q := (q + 7)) f_M_33 (hm 0 _ rfl) rfl ?_
  refine z_bipush d_M_charges_175 (v := 33) (by decide) ?_
  refine z_iald d_M_charges_177 (hm 7 _ rfl) (zin_vp rfl) ?_
  show Z _ _ _ _ _ _ _ _ _ _ _ _ _ _ _ _ [.int (μ (q + 7) 33), .int (μ (q + 7) 0), .ref (ad q)] _ _
  refine z_isub d_M_charges_178 ?_
  refine z_aload_n d_M_charges_179 0 rfl rfl ?_
  refine z_get d_M_charges_180 f_M_234 (hm 0 _ rfl) rfl ?_
  refine z_icmp_ge d_M_charges_183 (tgt := 203) (by decide) (fun cy1 => ?_) (fun cy1 => ?_)
  · replace hF := zh_t cy1 hF
    refine z_aload_n d_M_charges_203 0 rfl rfl ?_
    refine z_get d_M_charges_204 f_M_234 (hm 0 _ rfl) rfl ?_
    exact z_M_charges_207 hm  hF
  · replace hF := zh_f cy1 hF
    refine z_aload_n d_M_charges_186 0 rfl rfl ?_
    refine z_getr d_M_charges_187 (q := (q + 7)) f_M_33 (hm 0 _ rfl) rfl ?_
    refine z_iconst d_M_charges_190 (v := 0) (by decide) ?_
    refine z_iald d_M_charges_191 (hm 7 _ rfl) (zin_vp rfl) ?_
    show Z _ _ _ _ _ _ _ _ _ _ _ _ _ _ _ _ [.int (μ (q + 7) 0), .ref (ad q)] _ _
    refine z_aload_n d_M_charges_192 0 rfl rfl ?_
    refine z_getr d_M_charges_193 (q := (q + 7)) f_M_33 (hm 0 _ rfl) rfl ?_
    refine z_bipush d_M_charges_196 (v := 33) (by decide) ?_
    refine z_iald d_M_charges_198 (hm 7 _ rfl) (zin_vp rfl) ?_
    show Z _ _ _ _ _ _ _ _ _ _ _ _ _ _ _ _ [.int (μ (q + 7) 33), .int (μ (q + 7) 0), .ref (ad q)] _ _
    refine z_isub d_M_charges_199 ?_
    refine z_goto d_M_charges_200 (tgt := 207) (by decide) ?_
    exact z_M_charges_207 hm  hF
def e_M_charges_161 (q : Nat)  (x1 : Int32) (x2 : Int32) (x3 : Int32) (s1 : Int32) (μ : zI) (ν : zJ) : Option (zI × zJ) := zlet (zu μ q 32 s1) fun μy1 => e_M_charges_164 q x1 x2 μy1 ν
theorem z_M_charges_161 {l : Launch} {D : va_G} {dA : Nat → ClassId} {ad : Nat → Nat} {sh : List zSE}  {q : Nat} (hm : zMo sh q)  {x1 : Int32} {x2 : Int32} {x3 : Int32} {s1 : Int32} {μ : zI} {ν : zJ} {out : (zI × zJ)} (hF : e_M_charges_161 q  x1 x2 x3 s1 μ ν = some out) : Z l D dA ad sh m_M_charges (zR 0 0 0) (zS ad) (zOv out) 0 0 0 0 [] 161 [(0, .ref (ad q)), (1, .int x1), (2, .int x2), (3, .int x3)] [.int s1, .ref (ad q)] μ ν := by
  unfold e_M_charges_161 at hF
  refine z_put d_M_charges_161 f_M_234 (hm 0 _ rfl) rfl (CL_fin _ _ (fun q hq => by cases hq; rfl)) rfl rfl ?_
  obtain ⟨μy1, hy1, hF⟩ := zh_let hF
  refine z_eqm hy1 ?_
  refine z_sub [0, 1, 2] (L' := [(0, .ref (ad q)), (1, .int x1), (2, .int x2)]) rfl ?_
  exact z_M_charges_164 hm  hF
def e_M_charges_131 (q : Nat)  (x1 : Int32) (x2 : Int32) (s0 : Int32) (s1 : Int32) (μ : zI) (ν : zJ) : Option (zI × zJ) := zlet (α := Int32) ((s0 * s1) + 19) fun y1 => (if 0 ≤ y1 then (if (μ q 32) ≤ y1 then e_M_charges_161 q x1 x2 y1 (μ q 32) μ ν else e_M_charges_161 q x1 x2 y1 y1 μ ν) else e_M_charges_161 q x1 x2 y1 0 μ ν)
theorem z_M_charges_131 {l : Launch} {D : va_G} {dA : Nat → ClassId} {ad : Nat → Nat} {sh : List zSE}  {q : Nat} (hm : zMo sh q)  {x1 : Int32} {x2 : Int32} {s0 : Int32} {s1 : Int32} {μ : zI} {ν : zJ} {out : (zI × zJ)} (hF : e_M_charges_131 q  x1 x2 s0 s1 μ ν = some out) : Z l D dA ad sh m_M_charges (zR 0 0 0) (zS ad) (zOv out) 0 0 0 0 [] 131 [(0, .ref (ad q)), (1, .int x1), (2, .int x2)] [.int s1, .int s0] μ ν := by
  unfold e_M_charges_131 at hF
  refine z_imul d_M_charges_131 ?_
  refine z_bipush d_M_charges_132 (v := 19) (by decide) ?_
  refine z_iadd d_M_charges_134 ?_
  obtain ⟨y1, hy1, hF⟩ := zh_let hF
  refine z_eqi hy1 ?_
  refine z_istore_n d_M_charges_135 rfl (by decide) (L2 := [(3, .int y1), (0, .ref (ad q)), (1, .int x1), (2, .int x2)]) rfl ?_
  refine z_aload_n d_M_charges_136 1 rfl rfl ?_
  refine z_iload_n d_M_charges_137 0 rfl rfl ?_
  refine z_if_ge d_M_charges_138 (tgt := 145) (by decide) (fun cy2 => ?_) (fun cy2 => ?_)
  · replace hF := zh_t cy2 hF
    refine z_iload_n d_M_charges_145 0 rfl rfl ?_
    refine z_aload_n d_M_charges_146 1 rfl rfl ?_
    refine z_get d_M_charges_147 f_M_234 (hm 0 _ rfl) rfl ?_
    refine z_icmp_ge d_M_charges_150 (tgt := 157) (by decide) (fun cy3 => ?_) (fun cy3 => ?_)
    · replace hF := zh_t cy3 hF
      refine z_aload_n d_M_charges_157 1 rfl rfl ?_
      refine z_get d_M_charges_158 f_M_234 (hm 0 _ rfl) rfl ?_
      refine z_sub [1, 2, 3, 0] (L' := [(0, .ref (ad q)), (1, .int x1), (2, .int x2), (3, .int y1)]) rfl ?_
      exact z_M_charges_161 hm  hF
    · replace hF := zh_f cy3 hF
      refine z_iload_n d_M_charges_153 0 rfl rfl ?_
      refine z_goto d_M_charges_154 (tgt := 161) (by decide) ?_
      refine z_sub [1, 2, 3, 0] (L' := [(0, .ref (ad q)), (1, .int x1), (2, .int x2), (3, .int y1)]) rfl ?_
      exact z_M_charges_161 hm  hF
  · replace hF := zh_f cy2 hF
    refine z_iconst d_M_charges_141 (v := 0) (by decide) ?_
    refine z_goto d_M_charges_142 (tgt := 161) (by decide) ?_
    refine z_sub [1, 2, 3, 0] (L' := [(0, .ref (ad q)), (1, .int x1), (2, .int x2), (3, .int y1)]) rfl ?_
    exact z_M_charges_161 hm  hF
def e_M_charges_32 (q : Nat)  (s0 : Int32) (μ : zI) (ν : zJ) : Option (zI × zJ) := zlet (zu μ (q + 7) 33 ((μ (q + 7) 33) - s0)) fun μy1 => zlet (zul ν (q + 9) 5 ((ν (q + 9) 5) + (Int32.toInt64 s0))) fun νy2 => (if (Int32.toInt64 (μy1 (q + 7) 0)) = 0 then none else zlet (α := Int32) (1100 + (Int64.toInt32 ((300 * (Int32.toInt64 (μy1 (q + 7) 33))) / (Int32.toInt64 (μy1 (q + 7) 0))))) fun y4 => zlet (zu μy1 q 32 (μy1 q 30)) fun μy5 => (if (μy5 (q + 7) 34) ≤ 0 then e_M_charges_164 q s0 y4 μy5 νy2 else (if (μy5 (q + 7) 34) = 1 then e_M_charges_131 q s0 y4 20 ((μy5 (q + 7) 2) - y4) μy5 νy2 else e_M_charges_131 q s0 y4 20 ((μy5 (q + 7) 3) - y4) μy5 νy2)))
theorem z_M_charges_32 {l : Launch} {D : va_G} {dA : Nat → ClassId} {ad : Nat → Nat} {sh : List zSE}  {q : Nat} (hm : zMo sh q)  {s0 : Int32} {μ : zI} {ν : zJ} {out : (zI × zJ)} (hF : e_M_charges_32 q  s0 μ ν = some out) : Z l D dA ad sh m_M_charges (zR 0 0 0) (zS ad) (zOv out) 0 0 0 0 [] 32 [(0, .ref (ad q))] [.int s0] μ ν := by
  unfold e_M_charges_32 at hF
  refine z_istore_n d_M_charges_32 rfl (by decide) (L2 := [(1, .int s0), (0, .ref (ad q))]) rfl ?_
  refine z_aload_n d_M_charges_33 1 rfl rfl ?_
  refine z_getr d_M_charges_34 (q := (q + 7)) f_M_33 (hm 0 _ rfl) rfl ?_
  refine z_bipush d_M_charges_37 (v := 33) (by decide) ?_
  refine z_dup2 d_M_charges_39 rfl rfl ?_
  refine z_iald d_M_charges_40 (hm 7 _ rfl) (zin_vp rfl) ?_
  show Z _ _ _ _ _ _ _ _ _ _ _ _ _ _ _ _ [.int (μ (q + 7) 33), .int 33, .ref (ad (q + 7))] _ _
  refine z_iload_n d_M_charges_41 0 rfl rfl ?_
  refine z_isub d_M_charges_42 ?_
  refine z_iast d_M_charges_43 (hm 7 _ rfl) (zin_vp rfl) ?_
  obtain ⟨μy1, hy1, hF⟩ := zh_let hF
  refine z_eqm hy1 ?_
  refine z_aload_n d_M_charges_44 1 rfl rfl ?_
  refine z_getr d_M_charges_45 (q := (q + 9)) f_M_39 (hm 0 _ rfl) rfl ?_
  refine z_iconst d_M_charges_48 (v := 5) (by decide) ?_
  refine z_dup2 d_M_charges_49 rfl rfl ?_
  refine z_lald d_M_charges_50 (hm 9 _ rfl) (zin_vp rfl) ?_
  show Z _ _ _ _ _ _ _ _ _ _ _ _ _ _ _ _ [.long (ν (q + 9) 5), .int 5, .ref (ad (q + 9))] _ _
  refine z_iload_n d_M_charges_51 0 rfl rfl ?_
  refine z_i2l d_M_charges_52 ?_
  refine z_ladd d_M_charges_53 ?_
  refine z_last d_M_charges_54 (hm 9 _ rfl) (zin_vp rfl) ?_
  obtain ⟨νy2, hy2, hF⟩ := zh_let hF
  refine z_eqn hy2 ?_
  refine z_sipush d_M_charges_55 (v := 1100) (by decide) ?_
  refine z_ldc2 d_M_charges_58 k_M_232 ?_
  refine z_aload_n d_M_charges_61 1 rfl rfl ?_
  refine z_getr d_M_charges_62 (q := (q + 7)) f_M_33 (hm 0 _ rfl) rfl ?_
  refine z_bipush d_M_charges_65 (v := 33) (by decide) ?_
  refine z_iald d_M_charges_67 (hm 7 _ rfl) (zin_vp rfl) ?_
  show Z _ _ _ _ _ _ _ _ _ _ _ _ _ _ _ _ [.int (μy1 (q + 7) 33), .long 300, .int 1100] _ _
  refine z_i2l d_M_charges_68 ?_
  refine z_lmul d_M_charges_69 ?_
  refine z_aload_n d_M_charges_70 1 rfl rfl ?_
  refine z_getr d_M_charges_71 (q := (q + 7)) f_M_33 (hm 0 _ rfl) rfl ?_
  refine z_iconst d_M_charges_74 (v := 0) (by decide) ?_
  refine z_iald d_M_charges_75 (hm 7 _ rfl) (zin_vp rfl) ?_
  show Z _ _ _ _ _ _ _ _ _ _ _ _ _ _ _ _ [.int (μy1 (q + 7) 0), .long (300 * (Int32.toInt64 (μy1 (q + 7) 33))), .int 1100] _ _
  refine z_i2l d_M_charges_76 ?_
  obtain ⟨hy3, hF⟩ := zh_nel hF
  refine z_ldiv d_M_charges_77 hy3 ?_
  refine z_l2i d_M_charges_78 ?_
  refine z_iadd d_M_charges_79 ?_
  obtain ⟨y4, hy4, hF⟩ := zh_let hF
  refine z_eqi hy4 ?_
  refine z_istore_n d_M_charges_80 rfl (by decide) (L2 := [(2, .int y4), (1, .int s0), (0, .ref (ad q))]) rfl ?_
  refine z_aload_n d_M_charges_81 2 rfl rfl ?_
  refine z_aload_n d_M_charges_82 2 rfl rfl ?_
  refine z_get d_M_charges_83 f_M_200 (hm 0 _ rfl) rfl ?_
  refine z_put d_M_charges_86 f_M_234 (hm 0 _ rfl) rfl (CL_fin _ _ (fun q hq => by cases hq; rfl)) rfl rfl ?_
  obtain ⟨μy5, hy5, hF⟩ := zh_let hF
  refine z_eqm hy5 ?_
  refine z_aload_n d_M_charges_89 2 rfl rfl ?_
  refine z_getr d_M_charges_90 (q := (q + 7)) f_M_33 (hm 0 _ rfl) rfl ?_
  refine z_bipush d_M_charges_93 (v := 34) (by decide) ?_
  refine z_iald d_M_charges_95 (hm 7 _ rfl) (zin_vp rfl) ?_
  show Z _ _ _ _ _ _ _ _ _ _ _ _ _ _ _ _ [.int (μy5 (q + 7) 34)] _ _
  refine z_if_le d_M_charges_96 (tgt := 164) (by decide) (fun cy6 => ?_) (fun cy6 => ?_)
  · replace hF := zh_t cy6 hF
    refine z_sub [2, 1, 0] (L' := [(0, .ref (ad q)), (1, .int s0), (2, .int y4)]) rfl ?_
    exact z_M_charges_164 hm  hF
  · replace hF := zh_f cy6 hF
    refine z_bipush d_M_charges_99 (v := 20) (by decide) ?_
    refine z_aload_n d_M_charges_101 2 rfl rfl ?_
    refine z_getr d_M_charges_102 (q := (q + 7)) f_M_33 (hm 0 _ rfl) rfl ?_
    refine z_bipush d_M_charges_105 (v := 34) (by decide) ?_
    refine z_iald d_M_charges_107 (hm 7 _ rfl) (zin_vp rfl) ?_
    show Z _ _ _ _ _ _ _ _ _ _ _ _ _ _ _ _ [.int (μy5 (q + 7) 34), .int 20] _ _
    refine z_iconst d_M_charges_108 (v := 1) (by decide) ?_
    refine z_icmp_ne d_M_charges_109 (tgt := 123) (by decide) (fun cy7 => ?_) (fun cy7 => ?_)
    · replace hF := zh_f cy7 hF
      refine z_aload_n d_M_charges_123 2 rfl rfl ?_
      refine z_getr d_M_charges_124 (q := (q + 7)) f_M_33 (hm 0 _ rfl) rfl ?_
      refine z_iconst d_M_charges_127 (v := 3) (by decide) ?_
      refine z_iald d_M_charges_128 (hm 7 _ rfl) (zin_vp rfl) ?_
      show Z _ _ _ _ _ _ _ _ _ _ _ _ _ _ _ _ [.int (μy5 (q + 7) 3), .int 20] _ _
      refine z_iload_n d_M_charges_129 0 rfl rfl ?_
      refine z_isub d_M_charges_130 ?_
      refine z_sub [2, 1, 0] (L' := [(0, .ref (ad q)), (1, .int s0), (2, .int y4)]) rfl ?_
      exact z_M_charges_131 hm  hF
    · replace hF := zh_t cy7 hF
      refine z_aload_n d_M_charges_112 2 rfl rfl ?_
      refine z_getr d_M_charges_113 (q := (q + 7)) f_M_33 (hm 0 _ rfl) rfl ?_
      refine z_iconst d_M_charges_116 (v := 2) (by decide) ?_
      refine z_iald d_M_charges_117 (hm 7 _ rfl) (zin_vp rfl) ?_
      show Z _ _ _ _ _ _ _ _ _ _ _ _ _ _ _ _ [.int (μy5 (q + 7) 2), .int 20] _ _
      refine z_iload_n d_M_charges_118 0 rfl rfl ?_
      refine z_isub d_M_charges_119 ?_
      refine z_goto d_M_charges_120 (tgt := 131) (by decide) ?_
      refine z_sub [2, 1, 0] (L' := [(0, .ref (ad q)), (1, .int s0), (2, .int y4)]) rfl ?_
      exact z_M_charges_131 hm  hF
def e_M_charges_0 (q : Nat)   (μ : zI) (ν : zJ) : Option (zI × zJ) := (if (μ (q + 7) 1) ≤ (μ (q + 7) 33) then e_M_charges_32 q (μ (q + 7) 1) μ ν else e_M_charges_32 q (μ (q + 7) 33) μ ν)
theorem z_M_charges_0 {l : Launch} {D : va_G} {dA : Nat → ClassId} {ad : Nat → Nat} {sh : List zSE}  {q : Nat} (hm : zMo sh q)   {μ : zI} {ν : zJ} {out : (zI × zJ)} (hF : e_M_charges_0 q   μ ν = some out) : Z l D dA ad sh m_M_charges (zR 0 0 0) (zS ad) (zOv out) 0 0 0 0 [] 0 [(0, .ref (ad q))] [] μ ν := by
  unfold e_M_charges_0 at hF
  refine z_aload_n d_M_charges_0 0 rfl rfl ?_
  refine z_getr d_M_charges_1 (q := (q + 7)) f_M_33 (hm 0 _ rfl) rfl ?_
  refine z_bipush d_M_charges_4 (v := 33) (by decide) ?_
  refine z_iald d_M_charges_6 (hm 7 _ rfl) (zin_vp rfl) ?_
  show Z _ _ _ _ _ _ _ _ _ _ _ _ _ _ _ _ [.int (μ (q + 7) 33)] _ _
  refine z_aload_n d_M_charges_7 0 rfl rfl ?_
  refine z_getr d_M_charges_8 (q := (q + 7)) f_M_33 (hm 0 _ rfl) rfl ?_
  refine z_iconst d_M_charges_11 (v := 1) (by decide) ?_
  refine z_iald d_M_charges_12 (hm 7 _ rfl) (zin_vp rfl) ?_
  show Z _ _ _ _ _ _ _ _ _ _ _ _ _ _ _ _ [.int (μ (q + 7) 1), .int (μ (q + 7) 33)] _ _
  refine z_icmp_ge d_M_charges_13 (tgt := 26) (by decide) (fun cy1 => ?_) (fun cy1 => ?_)
  · replace hF := zh_t cy1 hF
    refine z_aload_n d_M_charges_26 0 rfl rfl ?_
    refine z_getr d_M_charges_27 (q := (q + 7)) f_M_33 (hm 0 _ rfl) rfl ?_
    refine z_iconst d_M_charges_30 (v := 1) (by decide) ?_
    refine z_iald d_M_charges_31 (hm 7 _ rfl) (zin_vp rfl) ?_
    show Z _ _ _ _ _ _ _ _ _ _ _ _ _ _ _ _ [.int (μ (q + 7) 1)] _ _
    exact z_M_charges_32 hm  hF
  · replace hF := zh_f cy1 hF
    refine z_aload_n d_M_charges_16 0 rfl rfl ?_
    refine z_getr d_M_charges_17 (q := (q + 7)) f_M_33 (hm 0 _ rfl) rfl ?_
    refine z_bipush d_M_charges_20 (v := 33) (by decide) ?_
    refine z_iald d_M_charges_22 (hm 7 _ rfl) (zin_vp rfl) ?_
    show Z _ _ _ _ _ _ _ _ _ _ _ _ _ _ _ _ [.int (μ (q + 7) 33)] _ _
    refine z_goto d_M_charges_23 (tgt := 32) (by decide) ?_
    exact z_M_charges_32 hm  hF
def E_M_charges (q : Nat)  (μ : zI) (ν : zJ) : Option (zI × zJ) := e_M_charges_0 q μ ν
theorem c_M_charges {l : Launch} {D : va_G} {dA : Nat → ClassId} {ad : Nat → Nat} {sh : List zSE} {μ : zI} {ν : zJ} {q : Nat} (hm : zMo sh q) {out : (zI × zJ)} (hE : E_M_charges q μ ν = some out) : zC l D dA ad sh m_M_charges 0 0 0 [.ref (ad q)] μ ν (zOv out) :=
  zC.of (by decide) (Nat.le_of_ble_eq_true rfl) (z_M_charges_0 hm hE)
def e_M_drifts_28 (q : Nat)  (x1 : Int32) (x2 : Int32) (x3 : Int32) (x4 : Int32) (s0 : Int32) (μ : zI) (ν : zJ) : Option (Int32 × zI × zJ) := some (s0, μ, ν)
theorem z_M_drifts_28 {l : Launch} {D : va_G} {dA : Nat → ClassId} {ad : Nat → Nat} {sh : List zSE}  {q : Nat} (hm : zMo sh q)  {x1 : Int32} {x2 : Int32} {x3 : Int32} {x4 : Int32} {s0 : Int32} {μ : zI} {ν : zJ} {out : (Int32 × zI × zJ)} (hF : e_M_drifts_28 q  x1 x2 x3 x4 s0 μ ν = some out) : Z l D dA ad sh m_M_drifts (zR 0 0 0) (zS ad) (zOi out) 0 0 0 0 [] 28 [(0, .ref (ad q)), (1, .int x1), (2, .int x2), (3, .int x3), (4, .int x4)] [.int s0] μ ν := by
  unfold e_M_drifts_28 at hF
  cases hF
  exact z_ireturn d_M_drifts_28 rfl rfl ⟨rfl, rfl, rfl⟩
def e_M_drifts_0 (q : Nat)  (x1 : Int32) (x2 : Int32) (x3 : Int32) (μ : zI) (ν : zJ) : Option (Int32 × zI × zJ) := zlet (α := Int32) (x1 + ((x2 - x1) / 8)) fun y1 => (if y1 < 50000 then e_M_drifts_28 q x1 x2 x3 y1 (y1 - x3) μ ν else e_M_drifts_28 q x1 x2 x3 y1 (y1 + x3) μ ν)
theorem z_M_drifts_0 {l : Launch} {D : va_G} {dA : Nat → ClassId} {ad : Nat → Nat} {sh : List zSE}  {q : Nat} (hm : zMo sh q)  {x1 : Int32} {x2 : Int32} {x3 : Int32} {μ : zI} {ν : zJ} {out : (Int32 × zI × zJ)} (hF : e_M_drifts_0 q  x1 x2 x3 μ ν = some out) : Z l D dA ad sh m_M_drifts (zR 0 0 0) (zS ad) (zOi out) 0 0 0 0 [] 0 [(0, .ref (ad q)), (1, .int x1), (2, .int x2), (3, .int x3)] [] μ ν := by
  unfold e_M_drifts_0 at hF
  refine z_iload_n d_M_drifts_0 1 rfl rfl ?_
  refine z_iload_n d_M_drifts_1 2 rfl rfl ?_
  refine z_iload_n d_M_drifts_2 1 rfl rfl ?_
  refine z_isub d_M_drifts_3 ?_
  refine z_bipush d_M_drifts_4 (v := 8) (by decide) ?_
  refine z_idiv d_M_drifts_6 (by decide) ?_
  refine z_iadd d_M_drifts_7 ?_
  obtain ⟨y1, hy1, hF⟩ := zh_let hF
  refine z_eqi hy1 ?_
  refine z_istore d_M_drifts_8 (by decide) (L2 := [(4, .int y1), (0, .ref (ad q)), (1, .int x1), (2, .int x2), (3, .int x3)]) rfl ?_
  refine z_iload d_M_drifts_10 0 rfl ?_
  refine z_ldc d_M_drifts_12 k_M_171 ?_
  refine z_icmp_lt d_M_drifts_14 (tgt := 24) (by decide) (fun cy2 => ?_) (fun cy2 => ?_)
  · replace hF := zh_t cy2 hF
    refine z_iload d_M_drifts_24 0 rfl ?_
    refine z_iload_n d_M_drifts_26 4 rfl rfl ?_
    refine z_isub d_M_drifts_27 ?_
    refine z_sub [1, 2, 3, 4, 0] (L' := [(0, .ref (ad q)), (1, .int x1), (2, .int x2), (3, .int x3), (4, .int y1)]) rfl ?_
    exact z_M_drifts_28 hm  hF
  · replace hF := zh_f cy2 hF
    refine z_iload d_M_drifts_17 0 rfl ?_
    refine z_iload_n d_M_drifts_19 4 rfl rfl ?_
    refine z_iadd d_M_drifts_20 ?_
    refine z_goto d_M_drifts_21 (tgt := 28) (by decide) ?_
    refine z_sub [1, 2, 3, 4, 0] (L' := [(0, .ref (ad q)), (1, .int x1), (2, .int x2), (3, .int x3), (4, .int y1)]) rfl ?_
    exact z_M_drifts_28 hm  hF
def E_M_drifts (q : Nat) (x1 : Int32) (x2 : Int32) (x3 : Int32) (μ : zI) (ν : zJ) : Option (Int32 × zI × zJ) := e_M_drifts_0 q x1 x2 x3 μ ν
theorem c_M_drifts {l : Launch} {D : va_G} {dA : Nat → ClassId} {ad : Nat → Nat} {sh : List zSE} {μ : zI} {ν : zJ} {q : Nat} {x1 : Int32} {x2 : Int32} {x3 : Int32} (hm : zMo sh q) {out : (Int32 × zI × zJ)} (hE : E_M_drifts q x1 x2 x3 μ ν = some out) : zC l D dA ad sh m_M_drifts 0 0 0 [.ref (ad q), .int x1, .int x2, .int x3] μ ν (zOi out) :=
  zC.of (by decide) (Nat.le_of_ble_eq_true rfl) (z_M_drifts_0 hm hE)
def e_M_isFar_33 (q : Nat)  (x1 : Int32) (s0 : Int32) (μ : zI) (ν : zJ) : Option (Int32 × zI × zJ) := (if zb s0 = true then some (s0, μ, ν) else none)
theorem z_M_isFar_33 {l : Launch} {D : va_G} {dA : Nat → ClassId} {ad : Nat → Nat} {sh : List zSE}  {q : Nat} (hm : zMo sh q)  {x1 : Int32} {s0 : Int32} {μ : zI} {ν : zJ} {out : (Int32 × zI × zJ)} (hF : e_M_isFar_33 q  x1 s0 μ ν = some out) : Z l D dA ad sh m_M_isFar (zR 0 0 0) (zS ad) (zOi out) 0 0 0 0 [] 33 [(0, .ref (ad q)), (1, .int x1)] [.int s0] μ ν := by
  unfold e_M_isFar_33 at hF
  obtain ⟨hy1, hF⟩ := zh_if hF
  cases hF
  exact z_ireturn d_M_isFar_33 rfl (zb_n hy1) ⟨rfl, rfl, rfl⟩
def e_M_isFar_28 (q : Nat)  (x1 : Int32) (μ : zI) (ν : zJ) : Option (Int32 × zI × zJ) := e_M_isFar_33 q x1 1 μ ν
theorem z_M_isFar_28 {l : Launch} {D : va_G} {dA : Nat → ClassId} {ad : Nat → Nat} {sh : List zSE}  {q : Nat} (hm : zMo sh q)  {x1 : Int32} {μ : zI} {ν : zJ} {out : (Int32 × zI × zJ)} (hF : e_M_isFar_28 q  x1 μ ν = some out) : Z l D dA ad sh m_M_isFar (zR 0 0 0) (zS ad) (zOi out) 0 0 0 0 [] 28 [(0, .ref (ad q)), (1, .int x1)] [] μ ν := by
  unfold e_M_isFar_28 at hF
  refine z_iconst d_M_isFar_28 (v := 1) (by decide) ?_
  refine z_goto d_M_isFar_29 (tgt := 33) (by decide) ?_
  exact z_M_isFar_33 hm  hF
def e_M_isFar_0 (q : Nat)  (x1 : Int32) (μ : zI) (ν : zJ) : Option (Int32 × zI × zJ) := (if (μ (q + 7) 7) < (x1 - 50000) then e_M_isFar_28 q x1 μ ν else (if (50000 - x1) ≤ (μ (q + 7) 7) then e_M_isFar_33 q x1 0 μ ν else e_M_isFar_28 q x1 μ ν))
theorem z_M_isFar_0 {l : Launch} {D : va_G} {dA : Nat → ClassId} {ad : Nat → Nat} {sh : List zSE}  {q : Nat} (hm : zMo sh q)  {x1 : Int32} {μ : zI} {ν : zJ} {out : (Int32 × zI × zJ)} (hF : e_M_isFar_0 q  x1 μ ν = some out) : Z l D dA ad sh m_M_isFar (zR 0 0 0) (zS ad) (zOi out) 0 0 0 0 [] 0 [(0, .ref (ad q)), (1, .int x1)] [] μ ν := by
  unfold e_M_isFar_0 at hF
  refine z_iload_n d_M_isFar_0 1 rfl rfl ?_
  refine z_ldc d_M_isFar_1 k_M_171 ?_
  refine z_isub d_M_isFar_3 ?_
  refine z_aload_n d_M_isFar_4 0 rfl rfl ?_
  refine z_getr d_M_isFar_5 (q := (q + 7)) f_M_33 (hm 0 _ rfl) rfl ?_
  refine z_bipush d_M_isFar_8 (v := 7) (by decide) ?_
  refine z_iald d_M_isFar_10 (hm 7 _ rfl) (zin_vp rfl) ?_
  show Z _ _ _ _ _ _ _ _ _ _ _ _ _ _ _ _ [.int (μ (q + 7) 7), .int (x1 - 50000)] _ _
  refine z_icmp_gt d_M_isFar_11 (tgt := 28) (by decide) (fun cy1 => ?_) (fun cy1 => ?_)
  · replace hF := zh_t cy1 hF
    exact z_M_isFar_28 hm  hF
  · replace hF := zh_f cy1 hF
    refine z_ldc d_M_isFar_14 k_M_171 ?_
    refine z_iload_n d_M_isFar_16 1 rfl rfl ?_
    refine z_isub d_M_isFar_17 ?_
    refine z_aload_n d_M_isFar_18 0 rfl rfl ?_
    refine z_getr d_M_isFar_19 (q := (q + 7)) f_M_33 (hm 0 _ rfl) rfl ?_
    refine z_bipush d_M_isFar_22 (v := 7) (by decide) ?_
    refine z_iald d_M_isFar_24 (hm 7 _ rfl) (zin_vp rfl) ?_
    show Z _ _ _ _ _ _ _ _ _ _ _ _ _ _ _ _ [.int (μ (q + 7) 7), .int (50000 - x1)] _ _
    refine z_icmp_le d_M_isFar_25 (tgt := 32) (by decide) (fun cy2 => ?_) (fun cy2 => ?_)
    · replace hF := zh_t cy2 hF
      refine z_iconst d_M_isFar_32 (v := 0) (by decide) ?_
      exact z_M_isFar_33 hm  hF
    · replace hF := zh_f cy2 hF
      exact z_M_isFar_28 hm  hF
def E_M_isFar (q : Nat) (x1 : Int32) (μ : zI) (ν : zJ) : Option (Int32 × zI × zJ) := e_M_isFar_0 q x1 μ ν
theorem c_M_isFar {l : Launch} {D : va_G} {dA : Nat → ClassId} {ad : Nat → Nat} {sh : List zSE} {μ : zI} {ν : zJ} {q : Nat} {x1 : Int32} (hm : zMo sh q) {out : (Int32 × zI × zJ)} (hE : E_M_isFar q x1 μ ν = some out) : zC l D dA ad sh m_M_isFar 0 0 0 [.ref (ad q), .int x1] μ ν (zOi out) :=
  zC.of (by decide) (Nat.le_of_ble_eq_true rfl) (z_M_isFar_0 hm hE)
def e_M_inverts_214 (q : Nat)  (x1 : Int32) (x2 : Int32) (x3 : Int32) (s1 : Int32) (s2 : Int32) (μ : zI) (ν : zJ) : Option (zI × zJ) := (if zin s1 146 = true then zlet (zu μ (q + 7) (Int32.toNatClampNeg s1) s2) fun μy2 => some (μy2, ν) else none)
theorem z_M_inverts_214 {l : Launch} {D : va_G} {dA : Nat → ClassId} {ad : Nat → Nat} {sh : List zSE}  {q : Nat} (hm : zMo sh q)  {x1 : Int32} {x2 : Int32} {x3 : Int32} {s1 : Int32} {s2 : Int32} {μ : zI} {ν : zJ} {out : (zI × zJ)} (hF : e_M_inverts_214 q  x1 x2 x3 s1 s2 μ ν = some out) : Z l D dA ad sh m_M_inverts (zR 1 0 0) (zS ad) (zOv out) 0 0 0 0 [] 214 [(0, .ref (ad q)), (1, .int x1), (2, .int x2), (3, .int x3)] [.int s2, .int s1, .ref (ad (q + 7))] μ ν := by
  unfold e_M_inverts_214 at hF
  obtain ⟨hy1, hF⟩ := zh_if hF
  refine z_iast d_M_inverts_214 (hm 7 _ rfl) (zin_vp hy1) ?_
  obtain ⟨μy2, hy2, hF⟩ := zh_let hF
  refine z_eqm hy2 ?_
  cases hF
  exact z_return d_M_inverts_215 rfl ⟨rfl, rfl, rfl⟩
def e_M_inverts_118 (q : Nat)  (x1 : Int32) (x2 : Int32) (s1 : Int32) (s2 : Int32) (μ : zI) (ν : zJ) : Option (zI × zJ) := (if zin s1 146 = true then zlet (zu μ (q + 7) (Int32.toNatClampNeg s1) s2) fun μy2 => (if (μy2 (q + 7) 41) < (μy2 (q + 7) 8) then zlet (α := Int32) ((μy2 q 30) - (μy2 q 32)) fun y4 => (if (x1 + (μy2 (q + 7) 11)) ≤ y4 then e_M_inverts_214 q x1 x2 y4 40 (x1 + (μy2 (q + 7) 11)) μy2 ν else e_M_inverts_214 q x1 x2 y4 40 y4 μy2 ν) else zlet (zu μy2 (q + 7) 36 0) fun μy6 => zlet (zu μy6 (q + 7) 42 0) fun μy7 => zlet (zu μy7 (q + 7) 41 0) fun μy8 => zlet (zul ν (q + 9) 6 ((ν (q + 9) 6) + 1)) fun νy9 => some (μy8, νy9)) else none)
theorem z_M_inverts_118 {l : Launch} {D : va_G} {dA : Nat → ClassId} {ad : Nat → Nat} {sh : List zSE}  {q : Nat} (hm : zMo sh q)  {x1 : Int32} {x2 : Int32} {s1 : Int32} {s2 : Int32} {μ : zI} {ν : zJ} {out : (zI × zJ)} (hF : e_M_inverts_118 q  x1 x2 s1 s2 μ ν = some out) : Z l D dA ad sh m_M_inverts (zR 1 0 0) (zS ad) (zOv out) 0 0 0 0 [] 118 [(0, .ref (ad q)), (1, .int x1), (2, .int x2)] [.int s2, .int s1, .ref (ad (q + 7))] μ ν := by
  unfold e_M_inverts_118 at hF
  obtain ⟨hy1, hF⟩ := zh_if hF
  refine z_iast d_M_inverts_118 (hm 7 _ rfl) (zin_vp hy1) ?_
  obtain ⟨μy2, hy2, hF⟩ := zh_let hF
  refine z_eqm hy2 ?_
  refine z_aload_n d_M_inverts_119 0 rfl rfl ?_
  refine z_getr d_M_inverts_120 (q := (q + 7)) f_M_33 (hm 0 _ rfl) rfl ?_
  refine z_bipush d_M_inverts_123 (v := 41) (by decide) ?_
  refine z_iald d_M_inverts_125 (hm 7 _ rfl) (zin_vp rfl) ?_
  show Z _ _ _ _ _ _ _ _ _ _ _ _ _ _ _ _ [.int (μy2 (q + 7) 41)] _ _
  refine z_aload_n d_M_inverts_126 0 rfl rfl ?_
  refine z_getr d_M_inverts_127 (q := (q + 7)) f_M_33 (hm 0 _ rfl) rfl ?_
  refine z_bipush d_M_inverts_130 (v := 8) (by decide) ?_
  refine z_iald d_M_inverts_132 (hm 7 _ rfl) (zin_vp rfl) ?_
  show Z _ _ _ _ _ _ _ _ _ _ _ _ _ _ _ _ [.int (μy2 (q + 7) 8), .int (μy2 (q + 7) 41)] _ _
  refine z_icmp_lt d_M_inverts_133 (tgt := 172) (by decide) (fun cy3 => ?_) (fun cy3 => ?_)
  · replace hF := zh_t cy3 hF
    refine z_aload_n d_M_inverts_172 0 rfl rfl ?_
    refine z_get d_M_inverts_173 f_M_200 (hm 0 _ rfl) rfl ?_
    refine z_aload_n d_M_inverts_176 0 rfl rfl ?_
    refine z_get d_M_inverts_177 f_M_234 (hm 0 _ rfl) rfl ?_
    refine z_isub d_M_inverts_180 ?_
    obtain ⟨y4, hy4, hF⟩ := zh_let hF
    refine z_eqi hy4 ?_
    refine z_istore_n d_M_inverts_181 rfl (by decide) (L2 := [(3, .int y4), (0, .ref (ad q)), (1, .int x1), (2, .int x2)]) rfl ?_
    refine z_aload_n d_M_inverts_182 1 rfl rfl ?_
    refine z_getr d_M_inverts_183 (q := (q + 7)) f_M_33 (hm 0 _ rfl) rfl ?_
    refine z_bipush d_M_inverts_186 (v := 40) (by decide) ?_
    refine z_iload_n d_M_inverts_188 0 rfl rfl ?_
    refine z_iload_n d_M_inverts_189 2 rfl rfl ?_
    refine z_aload_n d_M_inverts_190 1 rfl rfl ?_
    refine z_getr d_M_inverts_191 (q := (q + 7)) f_M_33 (hm 0 _ rfl) rfl ?_
    refine z_bipush d_M_inverts_194 (v := 11) (by decide) ?_
    refine z_iald d_M_inverts_196 (hm 7 _ rfl) (zin_vp rfl) ?_
    show Z _ _ _ _ _ _ _ _ _ _ _ _ _ _ _ _ [.int (μy2 (q + 7) 11), .int x1, .int y4, .int 40, .ref (ad (q + 7))] _ _
    refine z_iadd d_M_inverts_197 ?_
    refine z_icmp_ge d_M_inverts_198 (tgt := 205) (by decide) (fun cy5 => ?_) (fun cy5 => ?_)
    · replace hF := zh_t cy5 hF
      refine z_iload_n d_M_inverts_205 2 rfl rfl ?_
      refine z_aload_n d_M_inverts_206 1 rfl rfl ?_
      refine z_getr d_M_inverts_207 (q := (q + 7)) f_M_33 (hm 0 _ rfl) rfl ?_
      refine z_bipush d_M_inverts_210 (v := 11) (by decide) ?_
      refine z_iald d_M_inverts_212 (hm 7 _ rfl) (zin_vp rfl) ?_
      show Z _ _ _ _ _ _ _ _ _ _ _ _ _ _ _ _ [.int (μy2 (q + 7) 11), .int x1, .int 40, .ref (ad (q + 7))] _ _
      refine z_iadd d_M_inverts_213 ?_
      refine z_sub [1, 2, 3, 0] (L' := [(0, .ref (ad q)), (1, .int x1), (2, .int x2), (3, .int y4)]) rfl ?_
      exact z_M_inverts_214 hm  hF
    · replace hF := zh_f cy5 hF
      refine z_iload_n d_M_inverts_201 0 rfl rfl ?_
      refine z_goto d_M_inverts_202 (tgt := 214) (by decide) ?_
      refine z_sub [1, 2, 3, 0] (L' := [(0, .ref (ad q)), (1, .int x1), (2, .int x2), (3, .int y4)]) rfl ?_
      exact z_M_inverts_214 hm  hF
  · replace hF := zh_f cy3 hF
    refine z_aload_n d_M_inverts_136 0 rfl rfl ?_
    refine z_getr d_M_inverts_137 (q := (q + 7)) f_M_33 (hm 0 _ rfl) rfl ?_
    refine z_bipush d_M_inverts_140 (v := 36) (by decide) ?_
    refine z_iconst d_M_inverts_142 (v := 0) (by decide) ?_
    refine z_iast d_M_inverts_143 (hm 7 _ rfl) (zin_vp rfl) ?_
    obtain ⟨μy6, hy6, hF⟩ := zh_let hF
    refine z_eqm hy6 ?_
    refine z_aload_n d_M_inverts_144 0 rfl rfl ?_
    refine z_getr d_M_inverts_145 (q := (q + 7)) f_M_33 (hm 0 _ rfl) rfl ?_
    refine z_bipush d_M_inverts_148 (v := 42) (by decide) ?_
    refine z_iconst d_M_inverts_150 (v := 0) (by decide) ?_
    refine z_iast d_M_inverts_151 (hm 7 _ rfl) (zin_vp rfl) ?_
    obtain ⟨μy7, hy7, hF⟩ := zh_let hF
    refine z_eqm hy7 ?_
    refine z_aload_n d_M_inverts_152 0 rfl rfl ?_
    refine z_getr d_M_inverts_153 (q := (q + 7)) f_M_33 (hm 0 _ rfl) rfl ?_
    refine z_bipush d_M_inverts_156 (v := 41) (by decide) ?_
    refine z_iconst d_M_inverts_158 (v := 0) (by decide) ?_
    refine z_iast d_M_inverts_159 (hm 7 _ rfl) (zin_vp rfl) ?_
    obtain ⟨μy8, hy8, hF⟩ := zh_let hF
    refine z_eqm hy8 ?_
    refine z_aload_n d_M_inverts_160 0 rfl rfl ?_
    refine z_getr d_M_inverts_161 (q := (q + 9)) f_M_39 (hm 0 _ rfl) rfl ?_
    refine z_bipush d_M_inverts_164 (v := 6) (by decide) ?_
    refine z_dup2 d_M_inverts_166 rfl rfl ?_
    refine z_lald d_M_inverts_167 (hm 9 _ rfl) (zin_vp rfl) ?_
    show Z _ _ _ _ _ _ _ _ _ _ _ _ _ _ _ _ [.long (ν (q + 9) 6), .int 6, .ref (ad (q + 9))] _ _
    refine z_lconst d_M_inverts_168 (v := 1) (by decide) ?_
    refine z_ladd d_M_inverts_169 ?_
    refine z_last d_M_inverts_170 (hm 9 _ rfl) (zin_vp rfl) ?_
    obtain ⟨νy9, hy9, hF⟩ := zh_let hF
    refine z_eqn hy9 ?_
    cases hF
    exact z_return d_M_inverts_171 rfl ⟨rfl, rfl, rfl⟩
def e_M_inverts_84 (q : Nat)  (x1 : Int32) (x2 : Int32) (s1 : Int32) (s2 : Int32) (μ : zI) (ν : zJ) : Option (zI × zJ) := (if zin s1 146 = true then zlet (zu μ (q + 7) (Int32.toNatClampNeg s1) s2) fun μy2 => Option.bind (E_M_isFar q (μy2 (q + 7) 39) μy2 ν) fun ty3 => (if ty3.1 = 0 then e_M_inverts_118 q x1 x2 41 0 ty3.2.1 ty3.2.2 else e_M_inverts_118 q x1 x2 41 ((ty3.2.1 (q + 7) 41) + 1) ty3.2.1 ty3.2.2) else none)
theorem z_M_inverts_84 {l : Launch} {D : va_G} {dA : Nat → ClassId} {ad : Nat → Nat} {sh : List zSE}  {q : Nat} (hm : zMo sh q)  {x1 : Int32} {x2 : Int32} {s1 : Int32} {s2 : Int32} {μ : zI} {ν : zJ} {out : (zI × zJ)} (hF : e_M_inverts_84 q  x1 x2 s1 s2 μ ν = some out) : Z l D dA ad sh m_M_inverts (zR 1 0 0) (zS ad) (zOv out) 0 0 0 0 [] 84 [(0, .ref (ad q)), (1, .int x1), (2, .int x2)] [.int s2, .int s1, .ref (ad (q + 7))] μ ν := by
  unfold e_M_inverts_84 at hF
  obtain ⟨hy1, hF⟩ := zh_if hF
  refine z_iast d_M_inverts_84 (hm 7 _ rfl) (zin_vp hy1) ?_
  obtain ⟨μy2, hy2, hF⟩ := zh_let hF
  refine z_eqm hy2 ?_
  refine z_aload_n d_M_inverts_85 0 rfl rfl ?_
  refine z_getr d_M_inverts_86 (q := (q + 7)) f_M_33 (hm 0 _ rfl) rfl ?_
  refine z_bipush d_M_inverts_89 (v := 41) (by decide) ?_
  refine z_aload_n d_M_inverts_91 0 rfl rfl ?_
  refine z_aload_n d_M_inverts_92 0 rfl rfl ?_
  refine z_getr d_M_inverts_93 (q := (q + 7)) f_M_33 (hm 0 _ rfl) rfl ?_
  refine z_bipush d_M_inverts_96 (v := 39) (by decide) ?_
  refine z_iald d_M_inverts_98 (hm 7 _ rfl) (zin_vp rfl) ?_
  show Z _ _ _ _ _ _ _ _ _ _ _ _ _ _ _ _ [.int (μy2 (q + 7) 39), .ref (ad q), .int 41, .ref (ad (q + 7))] _ _
  obtain ⟨ty3, hty3, hF⟩ := zh_bind hF
  refine z_callV d_M_inverts_99 (c_M_isFar hm hty3) mv_M_isFar l_M_241 (fun _ _ h => h) (hm 0 _ rfl) rfl rfl ⟨Nat.le_of_ble_eq_true rfl, Nat.le_of_ble_eq_true rfl⟩ ⟨Nat.le_of_ble_eq_true rfl, Nat.le_of_ble_eq_true rfl⟩ rfl (Nat.le_of_ble_eq_true rfl) (fun r μ' ν' hq => ?_)
  obtain ⟨rfl, rfl, rfl⟩ := hq
  show Z _ _ _ _ _ _ _ _ _ _ _ 0 0 _ _ _ [.int ty3.1, .int 41, .ref (ad (q + 7))] _ _
  refine z_if_eq d_M_inverts_102 (tgt := 117) (by decide) (fun cy4 => ?_) (fun cy4 => ?_)
  · replace hF := zh_t cy4 hF
    refine z_iconst d_M_inverts_117 (v := 0) (by decide) ?_
    exact z_M_inverts_118 hm  hF
  · replace hF := zh_f cy4 hF
    refine z_aload_n d_M_inverts_105 0 rfl rfl ?_
    refine z_getr d_M_inverts_106 (q := (q + 7)) f_M_33 (hm 0 _ rfl) rfl ?_
    refine z_bipush d_M_inverts_109 (v := 41) (by decide) ?_
    refine z_iald d_M_inverts_111 (hm 7 _ rfl) (zin_vp rfl) ?_
    show Z _ _ _ _ _ _ _ _ _ _ _ _ _ _ _ _ [.int (ty3.2.1 (q + 7) 41), .int 41, .ref (ad (q + 7))] _ _
    refine z_iconst d_M_inverts_112 (v := 1) (by decide) ?_
    refine z_iadd d_M_inverts_113 ?_
    refine z_goto d_M_inverts_114 (tgt := 118) (by decide) ?_
    exact z_M_inverts_118 hm  hF
def e_M_inverts_246 (q : Nat)  (x1 : Int32) (x2 : Int32) (s1 : Int32) (s2 : Int32) (μ : zI) (ν : zJ) : Option (zI × zJ) := (if zin s1 146 = true then zlet (zu μ (q + 7) (Int32.toNatClampNeg s1) s2) fun μy2 => (if (μy2 (q + 7) 10) ≤ (μy2 (q + 7) 42) then zlet (zu μy2 (q + 7) 36 1) fun μy4 => zlet (zu μy4 (q + 7) 39 50000) fun μy5 => zlet (zu μy5 (q + 7) 41 0) fun μy6 => some (μy6, ν) else some (μy2, ν)) else none)
theorem z_M_inverts_246 {l : Launch} {D : va_G} {dA : Nat → ClassId} {ad : Nat → Nat} {sh : List zSE}  {q : Nat} (hm : zMo sh q)  {x1 : Int32} {x2 : Int32} {s1 : Int32} {s2 : Int32} {μ : zI} {ν : zJ} {out : (zI × zJ)} (hF : e_M_inverts_246 q  x1 x2 s1 s2 μ ν = some out) : Z l D dA ad sh m_M_inverts (zR 1 0 0) (zS ad) (zOv out) 0 0 0 0 [] 246 [(0, .ref (ad q)), (1, .int x1), (2, .int x2)] [.int s2, .int s1, .ref (ad (q + 7))] μ ν := by
  unfold e_M_inverts_246 at hF
  obtain ⟨hy1, hF⟩ := zh_if hF
  refine z_iast d_M_inverts_246 (hm 7 _ rfl) (zin_vp hy1) ?_
  obtain ⟨μy2, hy2, hF⟩ := zh_let hF
  refine z_eqm hy2 ?_
  refine z_aload_n d_M_inverts_247 0 rfl rfl ?_
  refine z_getr d_M_inverts_248 (q := (q + 7)) f_M_33 (hm 0 _ rfl) rfl ?_
  refine z_bipush d_M_inverts_251 (v := 42) (by decide) ?_
  refine z_iald d_M_inverts_253 (hm 7 _ rfl) (zin_vp rfl) ?_
  show Z _ _ _ _ _ _ _ _ _ _ _ _ _ _ _ _ [.int (μy2 (q + 7) 42)] _ _
  refine z_aload_n d_M_inverts_254 0 rfl rfl ?_
  refine z_getr d_M_inverts_255 (q := (q + 7)) f_M_33 (hm 0 _ rfl) rfl ?_
  refine z_bipush d_M_inverts_258 (v := 10) (by decide) ?_
  refine z_iald d_M_inverts_260 (hm 7 _ rfl) (zin_vp rfl) ?_
  show Z _ _ _ _ _ _ _ _ _ _ _ _ _ _ _ _ [.int (μy2 (q + 7) 10), .int (μy2 (q + 7) 42)] _ _
  refine z_icmp_ge d_M_inverts_261 (tgt := 265) (by decide) (fun cy3 => ?_) (fun cy3 => ?_)
  · replace hF := zh_t cy3 hF
    refine z_aload_n d_M_inverts_265 0 rfl rfl ?_
    refine z_getr d_M_inverts_266 (q := (q + 7)) f_M_33 (hm 0 _ rfl) rfl ?_
    refine z_bipush d_M_inverts_269 (v := 36) (by decide) ?_
    refine z_iconst d_M_inverts_271 (v := 1) (by decide) ?_
    refine z_iast d_M_inverts_272 (hm 7 _ rfl) (zin_vp rfl) ?_
    obtain ⟨μy4, hy4, hF⟩ := zh_let hF
    refine z_eqm hy4 ?_
    refine z_aload_n d_M_inverts_273 0 rfl rfl ?_
    refine z_getr d_M_inverts_274 (q := (q + 7)) f_M_33 (hm 0 _ rfl) rfl ?_
    refine z_bipush d_M_inverts_277 (v := 39) (by decide) ?_
    refine z_ldc d_M_inverts_279 k_M_171 ?_
    refine z_iast d_M_inverts_281 (hm 7 _ rfl) (zin_vp rfl) ?_
    obtain ⟨μy5, hy5, hF⟩ := zh_let hF
    refine z_eqm hy5 ?_
    refine z_aload_n d_M_inverts_282 0 rfl rfl ?_
    refine z_getr d_M_inverts_283 (q := (q + 7)) f_M_33 (hm 0 _ rfl) rfl ?_
    refine z_bipush d_M_inverts_286 (v := 41) (by decide) ?_
    refine z_iconst d_M_inverts_288 (v := 0) (by decide) ?_
    refine z_iast d_M_inverts_289 (hm 7 _ rfl) (zin_vp rfl) ?_
    obtain ⟨μy6, hy6, hF⟩ := zh_let hF
    refine z_eqm hy6 ?_
    cases hF
    exact z_return d_M_inverts_290 rfl ⟨rfl, rfl, rfl⟩
  · replace hF := zh_f cy3 hF
    cases hF
    exact z_return d_M_inverts_264 rfl ⟨rfl, rfl, rfl⟩
def e_M_inverts_24 (q : Nat)  (x1 : Int32) (s0 : Int32) (μ : zI) (ν : zJ) : Option (zI × zJ) := zlet (zu μ (q + 7) 40 0) fun μy1 => (if s0 = 0 then (if (μy1 (q + 7) 37) = 1 then e_M_inverts_246 q x1 s0 42 ((μy1 (q + 7) 42) + 1) μy1 ν else e_M_inverts_246 q x1 s0 42 0 μy1 ν) else (if (μy1 (q + 7) 37) = 1 then e_M_inverts_84 q x1 s0 39 50000 μy1 ν else Option.bind (E_M_drifts q (μy1 (q + 7) 39) (μy1 (q + 7) 38) (μy1 (q + 7) 9) μy1 ν) fun ty5 => e_M_inverts_84 q x1 s0 39 ty5.1 ty5.2.1 ty5.2.2))
theorem z_M_inverts_24 {l : Launch} {D : va_G} {dA : Nat → ClassId} {ad : Nat → Nat} {sh : List zSE}  {q : Nat} (hm : zMo sh q)  {x1 : Int32} {s0 : Int32} {μ : zI} {ν : zJ} {out : (zI × zJ)} (hF : e_M_inverts_24 q  x1 s0 μ ν = some out) : Z l D dA ad sh m_M_inverts (zR 1 0 0) (zS ad) (zOv out) 0 0 0 0 [] 24 [(0, .ref (ad q)), (1, .int x1)] [.int s0] μ ν := by
  unfold e_M_inverts_24 at hF
  refine z_istore_n d_M_inverts_24 rfl (by decide) (L2 := [(2, .int s0), (0, .ref (ad q)), (1, .int x1)]) rfl ?_
  refine z_aload_n d_M_inverts_25 1 rfl rfl ?_
  refine z_getr d_M_inverts_26 (q := (q + 7)) f_M_33 (hm 0 _ rfl) rfl ?_
  refine z_bipush d_M_inverts_29 (v := 40) (by decide) ?_
  refine z_iconst d_M_inverts_31 (v := 0) (by decide) ?_
  refine z_iast d_M_inverts_32 (hm 7 _ rfl) (zin_vp rfl) ?_
  obtain ⟨μy1, hy1, hF⟩ := zh_let hF
  refine z_eqm hy1 ?_
  refine z_iload_n d_M_inverts_33 0 rfl rfl ?_
  refine z_if_eq d_M_inverts_34 (tgt := 216) (by decide) (fun cy2 => ?_) (fun cy2 => ?_)
  · replace hF := zh_t cy2 hF
    refine z_aload_n d_M_inverts_216 1 rfl rfl ?_
    refine z_getr d_M_inverts_217 (q := (q + 7)) f_M_33 (hm 0 _ rfl) rfl ?_
    refine z_bipush d_M_inverts_220 (v := 42) (by decide) ?_
    refine z_aload_n d_M_inverts_222 1 rfl rfl ?_
    refine z_getr d_M_inverts_223 (q := (q + 7)) f_M_33 (hm 0 _ rfl) rfl ?_
    refine z_bipush d_M_inverts_226 (v := 37) (by decide) ?_
    refine z_iald d_M_inverts_228 (hm 7 _ rfl) (zin_vp rfl) ?_
    show Z _ _ _ _ _ _ _ _ _ _ _ _ _ _ _ _ [.int (μy1 (q + 7) 37), .int 42, .ref (ad (q + 7))] _ _
    refine z_iconst d_M_inverts_229 (v := 1) (by decide) ?_
    refine z_icmp_ne d_M_inverts_230 (tgt := 245) (by decide) (fun cy3 => ?_) (fun cy3 => ?_)
    · replace hF := zh_f cy3 hF
      refine z_iconst d_M_inverts_245 (v := 0) (by decide) ?_
      refine z_sub [1, 2, 0] (L' := [(0, .ref (ad q)), (1, .int x1), (2, .int s0)]) rfl ?_
      exact z_M_inverts_246 hm  hF
    · replace hF := zh_t cy3 hF
      refine z_aload_n d_M_inverts_233 1 rfl rfl ?_
      refine z_getr d_M_inverts_234 (q := (q + 7)) f_M_33 (hm 0 _ rfl) rfl ?_
      refine z_bipush d_M_inverts_237 (v := 42) (by decide) ?_
      refine z_iald d_M_inverts_239 (hm 7 _ rfl) (zin_vp rfl) ?_
      show Z _ _ _ _ _ _ _ _ _ _ _ _ _ _ _ _ [.int (μy1 (q + 7) 42), .int 42, .ref (ad (q + 7))] _ _
      refine z_iconst d_M_inverts_240 (v := 1) (by decide) ?_
      refine z_iadd d_M_inverts_241 ?_
      refine z_goto d_M_inverts_242 (tgt := 246) (by decide) ?_
      refine z_sub [1, 2, 0] (L' := [(0, .ref (ad q)), (1, .int x1), (2, .int s0)]) rfl ?_
      exact z_M_inverts_246 hm  hF
  · replace hF := zh_f cy2 hF
    refine z_aload_n d_M_inverts_37 1 rfl rfl ?_
    refine z_getr d_M_inverts_38 (q := (q + 7)) f_M_33 (hm 0 _ rfl) rfl ?_
    refine z_bipush d_M_inverts_41 (v := 39) (by decide) ?_
    refine z_aload_n d_M_inverts_43 1 rfl rfl ?_
    refine z_getr d_M_inverts_44 (q := (q + 7)) f_M_33 (hm 0 _ rfl) rfl ?_
    refine z_bipush d_M_inverts_47 (v := 37) (by decide) ?_
    refine z_iald d_M_inverts_49 (hm 7 _ rfl) (zin_vp rfl) ?_
    show Z _ _ _ _ _ _ _ _ _ _ _ _ _ _ _ _ [.int (μy1 (q + 7) 37), .int 39, .ref (ad (q + 7))] _ _
    refine z_iconst d_M_inverts_50 (v := 1) (by decide) ?_
    refine z_icmp_ne d_M_inverts_51 (tgt := 59) (by decide) (fun cy4 => ?_) (fun cy4 => ?_)
    · replace hF := zh_f cy4 hF
      refine z_aload_n d_M_inverts_59 1 rfl rfl ?_
      refine z_aload_n d_M_inverts_60 1 rfl rfl ?_
      refine z_getr d_M_inverts_61 (q := (q + 7)) f_M_33 (hm 0 _ rfl) rfl ?_
      refine z_bipush d_M_inverts_64 (v := 39) (by decide) ?_
      refine z_iald d_M_inverts_66 (hm 7 _ rfl) (zin_vp rfl) ?_
      show Z _ _ _ _ _ _ _ _ _ _ _ _ _ _ _ _ [.int (μy1 (q + 7) 39), .ref (ad q), .int 39, .ref (ad (q + 7))] _ _
      refine z_aload_n d_M_inverts_67 1 rfl rfl ?_
      refine z_getr d_M_inverts_68 (q := (q + 7)) f_M_33 (hm 0 _ rfl) rfl ?_
      refine z_bipush d_M_inverts_71 (v := 38) (by decide) ?_
      refine z_iald d_M_inverts_73 (hm 7 _ rfl) (zin_vp rfl) ?_
      show Z _ _ _ _ _ _ _ _ _ _ _ _ _ _ _ _ [.int (μy1 (q + 7) 38), .int (μy1 (q + 7) 39), .ref (ad q), .int 39, .ref (ad (q + 7))] _ _
      refine z_aload_n d_M_inverts_74 1 rfl rfl ?_
      refine z_getr d_M_inverts_75 (q := (q + 7)) f_M_33 (hm 0 _ rfl) rfl ?_
      refine z_bipush d_M_inverts_78 (v := 9) (by decide) ?_
      refine z_iald d_M_inverts_80 (hm 7 _ rfl) (zin_vp rfl) ?_
      show Z _ _ _ _ _ _ _ _ _ _ _ _ _ _ _ _ [.int (μy1 (q + 7) 9), .int (μy1 (q + 7) 38), .int (μy1 (q + 7) 39), .ref (ad q), .int 39, .ref (ad (q + 7))] _ _
      obtain ⟨ty5, hty5, hF⟩ := zh_bind hF
      refine z_callV d_M_inverts_81 (c_M_drifts hm hty5) mv_M_drifts l_M_237 (fun _ _ h => h) (hm 0 _ rfl) rfl rfl ⟨Nat.le_of_ble_eq_true rfl, Nat.le_of_ble_eq_true rfl⟩ ⟨Nat.le_of_ble_eq_true rfl, Nat.le_of_ble_eq_true rfl⟩ rfl (Nat.le_of_ble_eq_true rfl) (fun r μ' ν' hq => ?_)
      obtain ⟨rfl, rfl, rfl⟩ := hq
      show Z _ _ _ _ _ _ _ _ _ _ _ 0 0 _ _ _ [.int ty5.1, .int 39, .ref (ad (q + 7))] _ _
      refine z_sub [1, 2, 0] (L' := [(0, .ref (ad q)), (1, .int x1), (2, .int s0)]) rfl ?_
      exact z_M_inverts_84 hm  hF
    · replace hF := zh_t cy4 hF
      refine z_ldc d_M_inverts_54 k_M_171 ?_
      refine z_goto d_M_inverts_56 (tgt := 84) (by decide) ?_
      refine z_sub [1, 2, 0] (L' := [(0, .ref (ad q)), (1, .int x1), (2, .int s0)]) rfl ?_
      exact z_M_inverts_84 hm  hF
def e_M_inverts_0 (q : Nat)   (μ : zI) (ν : zJ) : Option (zI × zJ) := zlet (α := Int32) (μ (q + 7) 40) fun y1 => (if (μ (q + 7) 36) = 1 then e_M_inverts_24 q y1 1 μ ν else e_M_inverts_24 q y1 0 μ ν)
theorem z_M_inverts_0 {l : Launch} {D : va_G} {dA : Nat → ClassId} {ad : Nat → Nat} {sh : List zSE}  {q : Nat} (hm : zMo sh q)   {μ : zI} {ν : zJ} {out : (zI × zJ)} (hF : e_M_inverts_0 q   μ ν = some out) : Z l D dA ad sh m_M_inverts (zR 1 0 0) (zS ad) (zOv out) 0 0 0 0 [] 0 [(0, .ref (ad q))] [] μ ν := by
  unfold e_M_inverts_0 at hF
  refine z_aload_n d_M_inverts_0 0 rfl rfl ?_
  refine z_getr d_M_inverts_1 (q := (q + 7)) f_M_33 (hm 0 _ rfl) rfl ?_
  refine z_bipush d_M_inverts_4 (v := 40) (by decide) ?_
  refine z_iald d_M_inverts_6 (hm 7 _ rfl) (zin_vp rfl) ?_
  show Z _ _ _ _ _ _ _ _ _ _ _ _ _ _ _ _ [.int (μ (q + 7) 40)] _ _
  obtain ⟨y1, hy1, hF⟩ := zh_let hF
  refine z_eqi hy1 ?_
  refine z_istore_n d_M_inverts_7 rfl (by decide) (L2 := [(1, .int y1), (0, .ref (ad q))]) rfl ?_
  refine z_aload_n d_M_inverts_8 1 rfl rfl ?_
  refine z_getr d_M_inverts_9 (q := (q + 7)) f_M_33 (hm 0 _ rfl) rfl ?_
  refine z_bipush d_M_inverts_12 (v := 36) (by decide) ?_
  refine z_iald d_M_inverts_14 (hm 7 _ rfl) (zin_vp rfl) ?_
  show Z _ _ _ _ _ _ _ _ _ _ _ _ _ _ _ _ [.int (μ (q + 7) 36)] _ _
  refine z_iconst d_M_inverts_15 (v := 1) (by decide) ?_
  refine z_icmp_ne d_M_inverts_16 (tgt := 23) (by decide) (fun cy2 => ?_) (fun cy2 => ?_)
  · replace hF := zh_f cy2 hF
    refine z_iconst d_M_inverts_23 (v := 0) (by decide) ?_
    refine z_sub [1, 0] (L' := [(0, .ref (ad q)), (1, .int y1)]) rfl ?_
    exact z_M_inverts_24 hm  hF
  · replace hF := zh_t cy2 hF
    refine z_iconst d_M_inverts_19 (v := 1) (by decide) ?_
    refine z_goto d_M_inverts_20 (tgt := 24) (by decide) ?_
    refine z_sub [1, 0] (L' := [(0, .ref (ad q)), (1, .int y1)]) rfl ?_
    exact z_M_inverts_24 hm  hF
def E_M_inverts (q : Nat)  (μ : zI) (ν : zJ) : Option (zI × zJ) := e_M_inverts_0 q μ ν
theorem c_M_inverts {l : Launch} {D : va_G} {dA : Nat → ClassId} {ad : Nat → Nat} {sh : List zSE} {μ : zI} {ν : zJ} {q : Nat} (hm : zMo sh q) {out : (zI × zJ)} (hE : E_M_inverts q μ ν = some out) : zC l D dA ad sh m_M_inverts 1 0 0 [.ref (ad q)] μ ν (zOv out) :=
  zC.of (by decide) (Nat.le_of_ble_eq_true rfl) (z_M_inverts_0 hm hE)
def e_M_notes_176 (q : Nat)  (x1 : Int32) (x2 : Int32) (s1 : Int32) (μ : zI) (ν : zJ) : Option (zI × zJ) := zlet (zu μ q 28 s1) fun μy1 => some (μy1, ν)
theorem z_M_notes_176 {l : Launch} {D : va_G} {dA : Nat → ClassId} {ad : Nat → Nat} {sh : List zSE}  {q : Nat} (hm : zMo sh q)  {x1 : Int32} {x2 : Int32} {s1 : Int32} {μ : zI} {ν : zJ} {out : (zI × zJ)} (hF : e_M_notes_176 q  x1 x2 s1 μ ν = some out) : Z l D dA ad sh m_M_notes (zR 5 0 0) (zS ad) (zOv out) 0 0 0 0 [] 176 [(0, .ref (ad q)), (1, .int x1), (2, .int x2)] [.int s1, .ref (ad q)] μ ν := by
  unfold e_M_notes_176 at hF
  refine z_put d_M_notes_176 f_M_175 (hm 0 _ rfl) rfl (CL_fin _ _ (fun q hq => by cases hq; rfl)) rfl rfl ?_
  obtain ⟨μy1, hy1, hF⟩ := zh_let hF
  refine z_eqm hy1 ?_
  cases hF
  exact z_return d_M_notes_179 rfl ⟨rfl, rfl, rfl⟩
def e_M_notes_154 (q : Nat)  (x1 : Int32) (x2 : Int32) (s1 : Int32) (s2 : Int32) (μ : zI) (ν : zJ) : Option (zI × zJ) := (if zin s1 1000 = true then zlet (zu μ (q + 11) (Int32.toNatClampNeg s1) s2) fun μy2 => (if 100 ≤ (μy2 q 28) then e_M_notes_176 q x1 x2 100 μy2 ν else e_M_notes_176 q x1 x2 ((μy2 q 28) + 1) μy2 ν) else none)
theorem z_M_notes_154 {l : Launch} {D : va_G} {dA : Nat → ClassId} {ad : Nat → Nat} {sh : List zSE}  {q : Nat} (hm : zMo sh q)  {x1 : Int32} {x2 : Int32} {s1 : Int32} {s2 : Int32} {μ : zI} {ν : zJ} {out : (zI × zJ)} (hF : e_M_notes_154 q  x1 x2 s1 s2 μ ν = some out) : Z l D dA ad sh m_M_notes (zR 5 0 0) (zS ad) (zOv out) 0 0 0 0 [] 154 [(0, .ref (ad q)), (1, .int x1), (2, .int x2)] [.int s2, .int s1, .ref (ad (q + 11))] μ ν := by
  unfold e_M_notes_154 at hF
  obtain ⟨hy1, hF⟩ := zh_if hF
  refine z_iast d_M_notes_154 (hm 11 _ rfl) (zin_vp hy1) ?_
  obtain ⟨μy2, hy2, hF⟩ := zh_let hF
  refine z_eqm hy2 ?_
  refine z_aload_n d_M_notes_155 0 rfl rfl ?_
  refine z_aload_n d_M_notes_156 0 rfl rfl ?_
  refine z_get d_M_notes_157 f_M_175 (hm 0 _ rfl) rfl ?_
  refine z_bipush d_M_notes_160 (v := 100) (by decide) ?_
  refine z_icmp_ge d_M_notes_162 (tgt := 174) (by decide) (fun cy3 => ?_) (fun cy3 => ?_)
  · replace hF := zh_t cy3 hF
    refine z_bipush d_M_notes_174 (v := 100) (by decide) ?_
    exact z_M_notes_176 hm  hF
  · replace hF := zh_f cy3 hF
    refine z_aload_n d_M_notes_165 0 rfl rfl ?_
    refine z_get d_M_notes_166 f_M_175 (hm 0 _ rfl) rfl ?_
    refine z_iconst d_M_notes_169 (v := 1) (by decide) ?_
    refine z_iadd d_M_notes_170 ?_
    refine z_goto d_M_notes_171 (tgt := 176) (by decide) ?_
    exact z_M_notes_176 hm  hF
def f_M_notes_4 (q : Nat)  : Nat → Int32 → Int32 → zI → zJ → Option (zI × zJ)
  | 0, _, _, _, _ => none
  | n + 1, x1, x2, μ, ν => (if x2 < 10 then zlet (zu μ (q + 11) 0 (μ (q + 7) 26)) fun μy2 => zlet (zu μy2 (q + 11) 1 (μy2 q 30)) fun μy3 => Option.bind (E_M_bestNow q μy3 ν) fun ty4 => zlet (zu ty4.2.1 (q + 11) 2 ty4.1) fun μy5 => zlet (zu μy5 (q + 11) 3 (μy5 q 32)) fun μy6 => zlet (zu μy6 (q + 11) 4 (μy6 (q + 7) 40)) fun μy7 => zlet (zu μy7 (q + 11) 5 x1) fun μy8 => zlet (zu μy8 (q + 11) 6 (μy8 (q + 7) 39)) fun μy9 => zlet (zu μy9 (q + 11) 7 (μy9 (q + 7) 34)) fun μy10 => zlet (zu μy10 (q + 11) 8 (μy10 (q + 7) 36)) fun μy11 => (if (μy11 q 31) = 0 then e_M_notes_154 q x1 x2 9 0 μy11 ty4.2.2 else e_M_notes_154 q x1 x2 9 1 μy11 ty4.2.2) else (if zin (x2 - 10) 1000 = true then (if zin x2 1000 = true then zlet (zu μ (q + 11) (Int32.toNatClampNeg x2) (μ (q + 11) (Int32.toNatClampNeg (x2 - 10)))) fun μy15 => (f_M_notes_4 q n) x1 (x2 + (-1)) μy15 ν else none) else none))
theorem z_M_notes_4 {l : Launch} {D : va_G} {dA : Nat → ClassId} {ad : Nat → Nat} {sh : List zSE}  {q : Nat} (hm : zMo sh q)  {out : (zI × zJ)} : ∀ (n : Nat) (x1 : Int32) (x2 : Int32) (μ : zI) (ν : zJ), f_M_notes_4 q  n x1 x2 μ ν = some out → Z l D dA ad sh m_M_notes (zR 5 0 0) (zS ad) (zOv out) 0 0 0 0 [] 4 [(0, .ref (ad q)), (1, .int x1), (2, .int x2)] [] μ ν := by
  intro n
  induction n with
  | zero => intro x1 x2 μ ν hF; cases hF
  | succ n ih =>
    intro x1 x2 μ ν hF
    dsimp only [f_M_notes_4] at hF
    refine z_iload_n d_M_notes_4 2 rfl rfl ?_
    refine z_bipush d_M_notes_5 (v := 10) (by decide) ?_
    refine z_icmp_lt d_M_notes_7 (tgt := 31) (by decide) (fun cy1 => ?_) (fun cy1 => ?_)
    · replace hF := zh_t cy1 hF
      refine z_aload_n d_M_notes_31 0 rfl rfl ?_
      refine z_getr d_M_notes_32 (q := (q + 11)) f_M_46 (hm 0 _ rfl) rfl ?_
      refine z_iconst d_M_notes_35 (v := 0) (by decide) ?_
      refine z_aload_n d_M_notes_36 0 rfl rfl ?_
      refine z_getr d_M_notes_37 (q := (q + 7)) f_M_33 (hm 0 _ rfl) rfl ?_
      refine z_bipush d_M_notes_40 (v := 26) (by decide) ?_
      refine z_iald d_M_notes_42 (hm 7 _ rfl) (zin_vp rfl) ?_
      show Z _ _ _ _ _ _ _ _ _ _ _ _ _ _ _ _ [.int (μ (q + 7) 26), .int 0, .ref (ad (q + 11))] _ _
      refine z_iast d_M_notes_43 (hm 11 _ rfl) (zin_vp rfl) ?_
      obtain ⟨μy2, hy2, hF⟩ := zh_let hF
      refine z_eqm hy2 ?_
      refine z_aload_n d_M_notes_44 0 rfl rfl ?_
      refine z_getr d_M_notes_45 (q := (q + 11)) f_M_46 (hm 0 _ rfl) rfl ?_
      refine z_iconst d_M_notes_48 (v := 1) (by decide) ?_
      refine z_aload_n d_M_notes_49 0 rfl rfl ?_
      refine z_get d_M_notes_50 f_M_200 (hm 0 _ rfl) rfl ?_
      refine z_iast d_M_notes_53 (hm 11 _ rfl) (zin_vp rfl) ?_
      obtain ⟨μy3, hy3, hF⟩ := zh_let hF
      refine z_eqm hy3 ?_
      refine z_aload_n d_M_notes_54 0 rfl rfl ?_
      refine z_getr d_M_notes_55 (q := (q + 11)) f_M_46 (hm 0 _ rfl) rfl ?_
      refine z_iconst d_M_notes_58 (v := 2) (by decide) ?_
      refine z_aload_n d_M_notes_59 0 rfl rfl ?_
      obtain ⟨ty4, hty4, hF⟩ := zh_bind hF
      refine z_callV d_M_notes_60 (c_M_bestNow hm hty4) mv_M_bestNow l_M_256 (fun _ _ h => h) (hm 0 _ rfl) rfl rfl ⟨Nat.le_of_ble_eq_true rfl, Nat.le_of_ble_eq_true rfl⟩ ⟨Nat.le_of_ble_eq_true rfl, Nat.le_of_ble_eq_true rfl⟩ rfl (Nat.le_of_ble_eq_true rfl) (fun r μ' ν' hq => ?_)
      obtain ⟨rfl, rfl, rfl⟩ := hq
      show Z _ _ _ _ _ _ _ _ _ _ _ 0 0 _ _ _ [.int ty4.1, .int 2, .ref (ad (q + 11))] _ _
      refine z_iast d_M_notes_63 (hm 11 _ rfl) (zin_vp rfl) ?_
      obtain ⟨μy5, hy5, hF⟩ := zh_let hF
      refine z_eqm hy5 ?_
      refine z_aload_n d_M_notes_64 0 rfl rfl ?_
      refine z_getr d_M_notes_65 (q := (q + 11)) f_M_46 (hm 0 _ rfl) rfl ?_
      refine z_iconst d_M_notes_68 (v := 3) (by decide) ?_
      refine z_aload_n d_M_notes_69 0 rfl rfl ?_
      refine z_get d_M_notes_70 f_M_234 (hm 0 _ rfl) rfl ?_
      refine z_iast d_M_notes_73 (hm 11 _ rfl) (zin_vp rfl) ?_
      obtain ⟨μy6, hy6, hF⟩ := zh_let hF
      refine z_eqm hy6 ?_
      refine z_aload_n d_M_notes_74 0 rfl rfl ?_
      refine z_getr d_M_notes_75 (q := (q + 11)) f_M_46 (hm 0 _ rfl) rfl ?_
      refine z_iconst d_M_notes_78 (v := 4) (by decide) ?_
      refine z_aload_n d_M_notes_79 0 rfl rfl ?_
      refine z_getr d_M_notes_80 (q := (q + 7)) f_M_33 (hm 0 _ rfl) rfl ?_
      refine z_bipush d_M_notes_83 (v := 40) (by decide) ?_
      refine z_iald d_M_notes_85 (hm 7 _ rfl) (zin_vp rfl) ?_
      show Z _ _ _ _ _ _ _ _ _ _ _ _ _ _ _ _ [.int (μy6 (q + 7) 40), .int 4, .ref (ad (q + 11))] _ _
      refine z_iast d_M_notes_86 (hm 11 _ rfl) (zin_vp rfl) ?_
      obtain ⟨μy7, hy7, hF⟩ := zh_let hF
      refine z_eqm hy7 ?_
      refine z_aload_n d_M_notes_87 0 rfl rfl ?_
      refine z_getr d_M_notes_88 (q := (q + 11)) f_M_46 (hm 0 _ rfl) rfl ?_
      refine z_iconst d_M_notes_91 (v := 5) (by decide) ?_
      refine z_iload_n d_M_notes_92 1 rfl rfl ?_
      refine z_iast d_M_notes_93 (hm 11 _ rfl) (zin_vp rfl) ?_
      obtain ⟨μy8, hy8, hF⟩ := zh_let hF
      refine z_eqm hy8 ?_
      refine z_aload_n d_M_notes_94 0 rfl rfl ?_
      refine z_getr d_M_notes_95 (q := (q + 11)) f_M_46 (hm 0 _ rfl) rfl ?_
      refine z_bipush d_M_notes_98 (v := 6) (by decide) ?_
      refine z_aload_n d_M_notes_100 0 rfl rfl ?_
      refine z_getr d_M_notes_101 (q := (q + 7)) f_M_33 (hm 0 _ rfl) rfl ?_
      refine z_bipush d_M_notes_104 (v := 39) (by decide) ?_
      refine z_iald d_M_notes_106 (hm 7 _ rfl) (zin_vp rfl) ?_
      show Z _ _ _ _ _ _ _ _ _ _ _ _ _ _ _ _ [.int (μy8 (q + 7) 39), .int 6, .ref (ad (q + 11))] _ _
      refine z_iast d_M_notes_107 (hm 11 _ rfl) (zin_vp rfl) ?_
      obtain ⟨μy9, hy9, hF⟩ := zh_let hF
      refine z_eqm hy9 ?_
      refine z_aload_n d_M_notes_108 0 rfl rfl ?_
      refine z_getr d_M_notes_109 (q := (q + 11)) f_M_46 (hm 0 _ rfl) rfl ?_
      refine z_bipush d_M_notes_112 (v := 7) (by decide) ?_
      refine z_aload_n d_M_notes_114 0 rfl rfl ?_
      refine z_getr d_M_notes_115 (q := (q + 7)) f_M_33 (hm 0 _ rfl) rfl ?_
      refine z_bipush d_M_notes_118 (v := 34) (by decide) ?_
      refine z_iald d_M_notes_120 (hm 7 _ rfl) (zin_vp rfl) ?_
      show Z _ _ _ _ _ _ _ _ _ _ _ _ _ _ _ _ [.int (μy9 (q + 7) 34), .int 7, .ref (ad (q + 11))] _ _
      refine z_iast d_M_notes_121 (hm 11 _ rfl) (zin_vp rfl) ?_
      obtain ⟨μy10, hy10, hF⟩ := zh_let hF
      refine z_eqm hy10 ?_
      refine z_aload_n d_M_notes_122 0 rfl rfl ?_
      refine z_getr d_M_notes_123 (q := (q + 11)) f_M_46 (hm 0 _ rfl) rfl ?_
      refine z_bipush d_M_notes_126 (v := 8) (by decide) ?_
      refine z_aload_n d_M_notes_128 0 rfl rfl ?_
      refine z_getr d_M_notes_129 (q := (q + 7)) f_M_33 (hm 0 _ rfl) rfl ?_
      refine z_bipush d_M_notes_132 (v := 36) (by decide) ?_
      refine z_iald d_M_notes_134 (hm 7 _ rfl) (zin_vp rfl) ?_
      show Z _ _ _ _ _ _ _ _ _ _ _ _ _ _ _ _ [.int (μy10 (q + 7) 36), .int 8, .ref (ad (q + 11))] _ _
      refine z_iast d_M_notes_135 (hm 11 _ rfl) (zin_vp rfl) ?_
      obtain ⟨μy11, hy11, hF⟩ := zh_let hF
      refine z_eqm hy11 ?_
      refine z_aload_n d_M_notes_136 0 rfl rfl ?_
      refine z_getr d_M_notes_137 (q := (q + 11)) f_M_46 (hm 0 _ rfl) rfl ?_
      refine z_bipush d_M_notes_140 (v := 9) (by decide) ?_
      refine z_aload_n d_M_notes_142 0 rfl rfl ?_
      refine z_get d_M_notes_143 f_M_212 (hm 0 _ rfl) rfl ?_
      refine z_if_eq d_M_notes_146 (tgt := 153) (by decide) (fun cy12 => ?_) (fun cy12 => ?_)
      · replace hF := zh_t cy12 hF
        refine z_iconst d_M_notes_153 (v := 0) (by decide) ?_
        exact z_M_notes_154 hm  hF
      · replace hF := zh_f cy12 hF
        refine z_iconst d_M_notes_149 (v := 1) (by decide) ?_
        refine z_goto d_M_notes_150 (tgt := 154) (by decide) ?_
        exact z_M_notes_154 hm  hF
    · replace hF := zh_f cy1 hF
      refine z_aload_n d_M_notes_10 0 rfl rfl ?_
      refine z_getr d_M_notes_11 (q := (q + 11)) f_M_46 (hm 0 _ rfl) rfl ?_
      refine z_iload_n d_M_notes_14 2 rfl rfl ?_
      refine z_aload_n d_M_notes_15 0 rfl rfl ?_
      refine z_getr d_M_notes_16 (q := (q + 11)) f_M_46 (hm 0 _ rfl) rfl ?_
      refine z_iload_n d_M_notes_19 2 rfl rfl ?_
      refine z_bipush d_M_notes_20 (v := 10) (by decide) ?_
      refine z_isub d_M_notes_22 ?_
      obtain ⟨hy13, hF⟩ := zh_if hF
      refine z_iald d_M_notes_23 (hm 11 _ rfl) (zin_vp hy13) ?_
      obtain ⟨hy14, hF⟩ := zh_if hF
      refine z_iast d_M_notes_24 (hm 11 _ rfl) (zin_vp hy14) ?_
      obtain ⟨μy15, hy15, hF⟩ := zh_let hF
      refine z_eqm hy15 ?_
      refine z_iinc d_M_notes_25 (k := 2) (v := (x2 + (-1))) rfl rfl (by decide) (L2 := [(2, .int (x2 + (-1))), (0, .ref (ad q)), (1, .int x1)]) rfl ?_
      refine z_goto d_M_notes_28 (tgt := 4) (by decide) ?_
      refine z_sub [1, 2, 0] (L' := [(0, .ref (ad q)), (1, .int x1), (2, .int (x2 + (-1)))]) rfl ?_
      exact ih _ _ _ _ hF
def e_M_notes_0 (q : Nat)  (x1 : Int32) (μ : zI) (ν : zJ) : Option (zI × zJ) := f_M_notes_4 q zFuel x1 999 μ ν
theorem z_M_notes_0 {l : Launch} {D : va_G} {dA : Nat → ClassId} {ad : Nat → Nat} {sh : List zSE}  {q : Nat} (hm : zMo sh q)  {x1 : Int32} {μ : zI} {ν : zJ} {out : (zI × zJ)} (hF : e_M_notes_0 q  x1 μ ν = some out) : Z l D dA ad sh m_M_notes (zR 5 0 0) (zS ad) (zOv out) 0 0 0 0 [] 0 [(0, .ref (ad q)), (1, .int x1)] [] μ ν := by
  unfold e_M_notes_0 at hF
  refine z_sipush d_M_notes_0 (v := 999) (by decide) ?_
  refine z_istore_n d_M_notes_3 rfl (by decide) (L2 := [(2, .int 999), (0, .ref (ad q)), (1, .int x1)]) rfl ?_
  refine z_sub [1, 2, 0] (L' := [(0, .ref (ad q)), (1, .int x1), (2, .int 999)]) rfl ?_
  exact z_M_notes_4 hm  zFuel _ _ _ _ hF
def E_M_notes (q : Nat) (x1 : Int32) (μ : zI) (ν : zJ) : Option (zI × zJ) := e_M_notes_0 q x1 μ ν
theorem c_M_notes {l : Launch} {D : va_G} {dA : Nat → ClassId} {ad : Nat → Nat} {sh : List zSE} {μ : zI} {ν : zJ} {q : Nat} {x1 : Int32} (hm : zMo sh q) {out : (zI × zJ)} (hE : E_M_notes q x1 μ ν = some out) : zC l D dA ad sh m_M_notes 5 0 0 [.ref (ad q), .int x1] μ ν (zOv out) :=
  zC.of (by decide) (Nat.le_of_ble_eq_true rfl) (z_M_notes_0 hm hE)
def e_M_ticksOnce_0 (q : Nat)   (μ : zI) (ν : zJ) : Option (zI × zJ) := zlet (zu μ (q + 7) 25 ((μ (q + 7) 25) + 1)) fun μy1 => Option.bind (E_M_arrives q μy1 ν) fun ty2 => Option.bind (E_M_follows q ty2.1 ty2.2) fun ty3 => Option.bind (E_M_charges q ty3.1 ty3.2) fun ty4 => Option.bind (E_M_inverts q ty4.1 ty4.2) fun ty5 => zlet (α := Int32) (((ty5.1 q 30) - (ty5.1 q 32)) - (ty5.1 (q + 7) 40)) fun y6 => zlet (zul ty5.2 (q + 9) 0 ((ty5.2 (q + 9) 0) + (Int32.toInt64 (ty5.1 q 30)))) fun νy7 => zlet (zul νy7 (q + 9) 2 ((νy7 (q + 9) 2) + (Int32.toInt64 (ty5.1 q 32)))) fun νy8 => zlet (zul νy8 (q + 9) 3 ((νy8 (q + 9) 3) + (Int32.toInt64 (ty5.1 (q + 7) 40)))) fun νy9 => zlet (zul νy9 (q + 9) 4 ((νy9 (q + 9) 4) + (Int32.toInt64 y6))) fun νy10 => (if (ty5.1 q 29) = 0 then Option.bind (E_M_bestNow q ty5.1 νy10) fun ty12 => zlet (zul ty12.2.2 (q + 9) 1 ((νy10 (q + 9) 1) + (Int32.toInt64 ty12.1))) fun νy13 => Option.bind (E_M_notes q y6 ty12.2.1 νy13) fun ty14 => some (ty14.1, ty14.2) else some (ty5.1, νy10))
theorem z_M_ticksOnce_0 {l : Launch} {D : va_G} {dA : Nat → ClassId} {ad : Nat → Nat} {sh : List zSE}  {q : Nat} (hm : zMo sh q)   {μ : zI} {ν : zJ} {out : (zI × zJ)} (hF : e_M_ticksOnce_0 q   μ ν = some out) : Z l D dA ad sh m_M_ticksOnce (zR 6 0 0) (zS ad) (zOv out) 0 0 0 0 [] 0 [(0, .ref (ad q))] [] μ ν := by
  unfold e_M_ticksOnce_0 at hF
  refine z_aload_n d_M_ticksOnce_0 0 rfl rfl ?_
  refine z_getr d_M_ticksOnce_1 (q := (q + 7)) f_M_33 (hm 0 _ rfl) rfl ?_
  refine z_bipush d_M_ticksOnce_4 (v := 25) (by decide) ?_
  refine z_dup2 d_M_ticksOnce_6 rfl rfl ?_
  refine z_iald d_M_ticksOnce_7 (hm 7 _ rfl) (zin_vp rfl) ?_
  show Z _ _ _ _ _ _ _ _ _ _ _ _ _ _ _ _ [.int (μ (q + 7) 25), .int 25, .ref (ad (q + 7))] _ _
  refine z_iconst d_M_ticksOnce_8 (v := 1) (by decide) ?_
  refine z_iadd d_M_ticksOnce_9 ?_
  refine z_iast d_M_ticksOnce_10 (hm 7 _ rfl) (zin_vp rfl) ?_
  obtain ⟨μy1, hy1, hF⟩ := zh_let hF
  refine z_eqm hy1 ?_
  refine z_aload_n d_M_ticksOnce_11 0 rfl rfl ?_
  obtain ⟨ty2, hty2, hF⟩ := zh_bind hF
  refine z_callV d_M_ticksOnce_12 (c_M_arrives hm hty2) mv_M_arrives l_M_244 (fun _ _ h => h) (hm 0 _ rfl) rfl rfl ⟨Nat.le_of_ble_eq_true rfl, Nat.le_of_ble_eq_true rfl⟩ ⟨Nat.le_of_ble_eq_true rfl, Nat.le_of_ble_eq_true rfl⟩ rfl (Nat.le_of_ble_eq_true rfl) (fun r μ' ν' hq => ?_)
  obtain ⟨rfl, rfl, rfl⟩ := hq
  show Z _ _ _ _ _ _ _ _ _ _ _ 0 0 _ _ _ [] _ _
  refine z_aload_n d_M_ticksOnce_15 0 rfl rfl ?_
  obtain ⟨ty3, hty3, hF⟩ := zh_bind hF
  refine z_callV d_M_ticksOnce_16 (c_M_follows hm hty3) mv_M_follows l_M_247 (fun _ _ h => h) (hm 0 _ rfl) rfl rfl ⟨Nat.le_of_ble_eq_true rfl, Nat.le_of_ble_eq_true rfl⟩ ⟨Nat.le_of_ble_eq_true rfl, Nat.le_of_ble_eq_true rfl⟩ rfl (Nat.le_of_ble_eq_true rfl) (fun r μ' ν' hq => ?_)
  obtain ⟨rfl, rfl, rfl⟩ := hq
  show Z _ _ _ _ _ _ _ _ _ _ _ 0 0 _ _ _ [] _ _
  refine z_aload_n d_M_ticksOnce_19 0 rfl rfl ?_
  obtain ⟨ty4, hty4, hF⟩ := zh_bind hF
  refine z_callV d_M_ticksOnce_20 (c_M_charges hm hty4) mv_M_charges l_M_250 (fun _ _ h => h) (hm 0 _ rfl) rfl rfl ⟨Nat.le_of_ble_eq_true rfl, Nat.le_of_ble_eq_true rfl⟩ ⟨Nat.le_of_ble_eq_true rfl, Nat.le_of_ble_eq_true rfl⟩ rfl (Nat.le_of_ble_eq_true rfl) (fun r μ' ν' hq => ?_)
  obtain ⟨rfl, rfl, rfl⟩ := hq
  show Z _ _ _ _ _ _ _ _ _ _ _ 0 0 _ _ _ [] _ _
  refine z_aload_n d_M_ticksOnce_23 0 rfl rfl ?_
  obtain ⟨ty5, hty5, hF⟩ := zh_bind hF
  refine z_callV d_M_ticksOnce_24 (c_M_inverts hm hty5) mv_M_inverts l_M_253 (fun _ _ h => h) (hm 0 _ rfl) rfl rfl ⟨Nat.le_of_ble_eq_true rfl, Nat.le_of_ble_eq_true rfl⟩ ⟨Nat.le_of_ble_eq_true rfl, Nat.le_of_ble_eq_true rfl⟩ rfl (Nat.le_of_ble_eq_true rfl) (fun r μ' ν' hq => ?_)
  obtain ⟨rfl, rfl, rfl⟩ := hq
  show Z _ _ _ _ _ _ _ _ _ _ _ 0 0 _ _ _ [] _ _
  refine z_aload_n d_M_ticksOnce_27 0 rfl rfl ?_
  refine z_get d_M_ticksOnce_28 f_M_200 (hm 0 _ rfl) rfl ?_
  refine z_aload_n d_M_ticksOnce_31 0 rfl rfl ?_
  refine z_get d_M_ticksOnce_32 f_M_234 (hm 0 _ rfl) rfl ?_
  refine z_isub d_M_ticksOnce_35 ?_
  refine z_aload_n d_M_ticksOnce_36 0 rfl rfl ?_
  refine z_getr d_M_ticksOnce_37 (q := (q + 7)) f_M_33 (hm 0 _ rfl) rfl ?_
  refine z_bipush d_M_ticksOnce_40 (v := 40) (by decide) ?_
  refine z_iald d_M_ticksOnce_42 (hm 7 _ rfl) (zin_vp rfl) ?_
  show Z _ _ _ _ _ _ _ _ _ _ _ _ _ _ _ _ [.int (ty5.1 (q + 7) 40), .int ((ty5.1 q 30) - (ty5.1 q 32))] _ _
  refine z_isub d_M_ticksOnce_43 ?_
  obtain ⟨y6, hy6, hF⟩ := zh_let hF
  refine z_eqi hy6 ?_
  refine z_istore_n d_M_ticksOnce_44 rfl (by decide) (L2 := [(1, .int y6), (0, .ref (ad q))]) rfl ?_
  refine z_aload_n d_M_ticksOnce_45 1 rfl rfl ?_
  refine z_getr d_M_ticksOnce_46 (q := (q + 9)) f_M_39 (hm 0 _ rfl) rfl ?_
  refine z_iconst d_M_ticksOnce_49 (v := 0) (by decide) ?_
  refine z_dup2 d_M_ticksOnce_50 rfl rfl ?_
  refine z_lald d_M_ticksOnce_51 (hm 9 _ rfl) (zin_vp rfl) ?_
  show Z _ _ _ _ _ _ _ _ _ _ _ _ _ _ _ _ [.long (ty5.2 (q + 9) 0), .int 0, .ref (ad (q + 9))] _ _
  refine z_aload_n d_M_ticksOnce_52 1 rfl rfl ?_
  refine z_get d_M_ticksOnce_53 f_M_200 (hm 0 _ rfl) rfl ?_
  refine z_i2l d_M_ticksOnce_56 ?_
  refine z_ladd d_M_ticksOnce_57 ?_
  refine z_last d_M_ticksOnce_58 (hm 9 _ rfl) (zin_vp rfl) ?_
  obtain ⟨νy7, hy7, hF⟩ := zh_let hF
  refine z_eqn hy7 ?_
  refine z_aload_n d_M_ticksOnce_59 1 rfl rfl ?_
  refine z_getr d_M_ticksOnce_60 (q := (q + 9)) f_M_39 (hm 0 _ rfl) rfl ?_
  refine z_iconst d_M_ticksOnce_63 (v := 2) (by decide) ?_
  refine z_dup2 d_M_ticksOnce_64 rfl rfl ?_
  refine z_lald d_M_ticksOnce_65 (hm 9 _ rfl) (zin_vp rfl) ?_
  show Z _ _ _ _ _ _ _ _ _ _ _ _ _ _ _ _ [.long (νy7 (q + 9) 2), .int 2, .ref (ad (q + 9))] _ _
  refine z_aload_n d_M_ticksOnce_66 1 rfl rfl ?_
  refine z_get d_M_ticksOnce_67 f_M_234 (hm 0 _ rfl) rfl ?_
  refine z_i2l d_M_ticksOnce_70 ?_
  refine z_ladd d_M_ticksOnce_71 ?_
  refine z_last d_M_ticksOnce_72 (hm 9 _ rfl) (zin_vp rfl) ?_
  obtain ⟨νy8, hy8, hF⟩ := zh_let hF
  refine z_eqn hy8 ?_
  refine z_aload_n d_M_ticksOnce_73 1 rfl rfl ?_
  refine z_getr d_M_ticksOnce_74 (q := (q + 9)) f_M_39 (hm 0 _ rfl) rfl ?_
  refine z_iconst d_M_ticksOnce_77 (v := 3) (by decide) ?_
  refine z_dup2 d_M_ticksOnce_78 rfl rfl ?_
  refine z_lald d_M_ticksOnce_79 (hm 9 _ rfl) (zin_vp rfl) ?_
  show Z _ _ _ _ _ _ _ _ _ _ _ _ _ _ _ _ [.long (νy8 (q + 9) 3), .int 3, .ref (ad (q + 9))] _ _
  refine z_aload_n d_M_ticksOnce_80 1 rfl rfl ?_
  refine z_getr d_M_ticksOnce_81 (q := (q + 7)) f_M_33 (hm 0 _ rfl) rfl ?_
  refine z_bipush d_M_ticksOnce_84 (v := 40) (by decide) ?_
  refine z_iald d_M_ticksOnce_86 (hm 7 _ rfl) (zin_vp rfl) ?_
  show Z _ _ _ _ _ _ _ _ _ _ _ _ _ _ _ _ [.int (ty5.1 (q + 7) 40), .long (νy8 (q + 9) 3), .int 3, .ref (ad (q + 9))] _ _
  refine z_i2l d_M_ticksOnce_87 ?_
  refine z_ladd d_M_ticksOnce_88 ?_
  refine z_last d_M_ticksOnce_89 (hm 9 _ rfl) (zin_vp rfl) ?_
  obtain ⟨νy9, hy9, hF⟩ := zh_let hF
  refine z_eqn hy9 ?_
  refine z_aload_n d_M_ticksOnce_90 1 rfl rfl ?_
  refine z_getr d_M_ticksOnce_91 (q := (q + 9)) f_M_39 (hm 0 _ rfl) rfl ?_
  refine z_iconst d_M_ticksOnce_94 (v := 4) (by decide) ?_
  refine z_dup2 d_M_ticksOnce_95 rfl rfl ?_
  refine z_lald d_M_ticksOnce_96 (hm 9 _ rfl) (zin_vp rfl) ?_
  show Z _ _ _ _ _ _ _ _ _ _ _ _ _ _ _ _ [.long (νy9 (q + 9) 4), .int 4, .ref (ad (q + 9))] _ _
  refine z_iload_n d_M_ticksOnce_97 0 rfl rfl ?_
  refine z_i2l d_M_ticksOnce_98 ?_
  refine z_ladd d_M_ticksOnce_99 ?_
  refine z_last d_M_ticksOnce_100 (hm 9 _ rfl) (zin_vp rfl) ?_
  obtain ⟨νy10, hy10, hF⟩ := zh_let hF
  refine z_eqn hy10 ?_
  refine z_aload_n d_M_ticksOnce_101 1 rfl rfl ?_
  refine z_get d_M_ticksOnce_102 f_M_178 (hm 0 _ rfl) rfl ?_
  refine z_if_eq d_M_ticksOnce_105 (tgt := 109) (by decide) (fun cy11 => ?_) (fun cy11 => ?_)
  · replace hF := zh_t cy11 hF
    refine z_aload_n d_M_ticksOnce_109 1 rfl rfl ?_
    refine z_getr d_M_ticksOnce_110 (q := (q + 9)) f_M_39 (hm 0 _ rfl) rfl ?_
    refine z_iconst d_M_ticksOnce_113 (v := 1) (by decide) ?_
    refine z_dup2 d_M_ticksOnce_114 rfl rfl ?_
    refine z_lald d_M_ticksOnce_115 (hm 9 _ rfl) (zin_vp rfl) ?_
    show Z _ _ _ _ _ _ _ _ _ _ _ _ _ _ _ _ [.long (νy10 (q + 9) 1), .int 1, .ref (ad (q + 9))] _ _
    refine z_aload_n d_M_ticksOnce_116 1 rfl rfl ?_
    obtain ⟨ty12, hty12, hF⟩ := zh_bind hF
    refine z_callV d_M_ticksOnce_117 (c_M_bestNow hm hty12) mv_M_bestNow l_M_256 (fun _ _ h => h) (hm 0 _ rfl) rfl rfl ⟨Nat.le_of_ble_eq_true rfl, Nat.le_of_ble_eq_true rfl⟩ ⟨Nat.le_of_ble_eq_true rfl, Nat.le_of_ble_eq_true rfl⟩ rfl (Nat.le_of_ble_eq_true rfl) (fun r μ' ν' hq => ?_)
    obtain ⟨rfl, rfl, rfl⟩ := hq
    show Z _ _ _ _ _ _ _ _ _ _ _ 0 0 _ _ _ [.int ty12.1, .long (νy10 (q + 9) 1), .int 1, .ref (ad (q + 9))] _ _
    refine z_i2l d_M_ticksOnce_120 ?_
    refine z_ladd d_M_ticksOnce_121 ?_
    refine z_last d_M_ticksOnce_122 (hm 9 _ rfl) (zin_vp rfl) ?_
    obtain ⟨νy13, hy13, hF⟩ := zh_let hF
    refine z_eqn hy13 ?_
    refine z_aload_n d_M_ticksOnce_123 1 rfl rfl ?_
    refine z_iload_n d_M_ticksOnce_124 0 rfl rfl ?_
    obtain ⟨ty14, hty14, hF⟩ := zh_bind hF
    refine z_callV d_M_ticksOnce_125 (c_M_notes hm hty14) mv_M_notes l_M_259 (fun _ _ h => h) (hm 0 _ rfl) rfl rfl ⟨Nat.le_of_ble_eq_true rfl, Nat.le_of_ble_eq_true rfl⟩ ⟨Nat.le_of_ble_eq_true rfl, Nat.le_of_ble_eq_true rfl⟩ rfl (Nat.le_of_ble_eq_true rfl) (fun r μ' ν' hq => ?_)
    obtain ⟨rfl, rfl, rfl⟩ := hq
    show Z _ _ _ _ _ _ _ _ _ _ _ 0 0 _ _ _ [] _ _
    cases hF
    exact z_return d_M_ticksOnce_128 rfl ⟨rfl, rfl, rfl⟩
  · replace hF := zh_f cy11 hF
    cases hF
    exact z_return d_M_ticksOnce_108 rfl ⟨rfl, rfl, rfl⟩
def E_M_ticksOnce (q : Nat)  (μ : zI) (ν : zJ) : Option (zI × zJ) := e_M_ticksOnce_0 q μ ν
theorem c_M_ticksOnce {l : Launch} {D : va_G} {dA : Nat → ClassId} {ad : Nat → Nat} {sh : List zSE} {μ : zI} {ν : zJ} {q : Nat} (hm : zMo sh q) {out : (zI × zJ)} (hE : E_M_ticksOnce q μ ν = some out) : zC l D dA ad sh m_M_ticksOnce 6 0 0 [.ref (ad q)] μ ν (zOv out) :=
  zC.of (by decide) (Nat.le_of_ble_eq_true rfl) (z_M_ticksOnce_0 hm hE)
def e_M_ticks_39 (q : Nat)  (x1 : Int32) (μ : zI) (ν : zJ) : Option (Int32 × zI × zJ) := some ((-1), μ, ν)
theorem z_M_ticks_39 {l : Launch} {D : va_G} {dA : Nat → ClassId} {ad : Nat → Nat} {sh : List zSE}  {q : Nat} (hm : zMo sh q)  {x1 : Int32} {μ : zI} {ν : zJ} {out : (Int32 × zI × zJ)} (hF : e_M_ticks_39 q  x1 μ ν = some out) : Z l D dA ad sh m_M_ticks (zR 7 0 0) (zS ad) (zOi out) 0 0 0 0 [] 39 [(0, .ref (ad q)), (1, .int x1)] [] μ ν := by
  unfold e_M_ticks_39 at hF
  refine z_iconst d_M_ticks_39 (v := (-1)) (by decide) ?_
  cases hF
  exact z_ireturn d_M_ticks_40 rfl rfl ⟨rfl, rfl, rfl⟩
def f_M_ticks_51 (q : Nat)  : Nat → Int32 → Int64 → Int32 → zI → zJ → Option (Int32 × zI × zJ)
  | 0, _, _, _, _, _ => none
  | n + 1, x1, w2, x4, μ, ν => (if x1 ≤ x4 then some ((Int64.toInt32 ((ν (q + 9) 0) - w2)), μ, ν) else Option.bind (E_M_ticksOnce q μ ν) fun ty2 => (f_M_ticks_51 q n) x1 w2 (x4 + 1) ty2.1 ty2.2)
theorem z_M_ticks_51 {l : Launch} {D : va_G} {dA : Nat → ClassId} {ad : Nat → Nat} {sh : List zSE}  {q : Nat} (hm : zMo sh q)  {out : (Int32 × zI × zJ)} : ∀ (n : Nat) (x1 : Int32) (w2 : Int64) (x4 : Int32) (μ : zI) (ν : zJ), f_M_ticks_51 q  n x1 w2 x4 μ ν = some out → Z l D dA ad sh m_M_ticks (zR 7 0 0) (zS ad) (zOi out) 0 0 0 0 [] 51 [(0, .ref (ad q)), (1, .int x1), (2, .long w2), (4, .int x4)] [] μ ν := by
  intro n
  induction n with
  | zero => intro x1 w2 x4 μ ν hF; cases hF
  | succ n ih =>
    intro x1 w2 x4 μ ν hF
    dsimp only [f_M_ticks_51] at hF
    refine z_iload d_M_ticks_51 3 rfl ?_
    refine z_iload_n d_M_ticks_53 1 rfl rfl ?_
    refine z_icmp_ge d_M_ticks_54 (tgt := 67) (by decide) (fun cy1 => ?_) (fun cy1 => ?_)
    · replace hF := zh_t cy1 hF
      refine z_aload_n d_M_ticks_67 0 rfl rfl ?_
      refine z_getr d_M_ticks_68 (q := (q + 9)) f_M_39 (hm 0 _ rfl) rfl ?_
      refine z_iconst d_M_ticks_71 (v := 0) (by decide) ?_
      refine z_lald d_M_ticks_72 (hm 9 _ rfl) (zin_vp rfl) ?_
      show Z _ _ _ _ _ _ _ _ _ _ _ _ _ _ _ _ [.long (ν (q + 9) 0)] _ _
      refine z_lload_n d_M_ticks_73 2 rfl rfl ?_
      refine z_lsub d_M_ticks_74 ?_
      refine z_l2i d_M_ticks_75 ?_
      cases hF
      exact z_ireturn d_M_ticks_76 rfl rfl ⟨rfl, rfl, rfl⟩
    · replace hF := zh_f cy1 hF
      refine z_aload_n d_M_ticks_57 0 rfl rfl ?_
      obtain ⟨ty2, hty2, hF⟩ := zh_bind hF
      refine z_callV d_M_ticks_58 (c_M_ticksOnce hm hty2) mv_M_ticksOnce l_M_262 (fun _ _ h => h) (hm 0 _ rfl) rfl rfl ⟨Nat.le_of_ble_eq_true rfl, Nat.le_of_ble_eq_true rfl⟩ ⟨Nat.le_of_ble_eq_true rfl, Nat.le_of_ble_eq_true rfl⟩ rfl (Nat.le_of_ble_eq_true rfl) (fun r μ' ν' hq => ?_)
      obtain ⟨rfl, rfl, rfl⟩ := hq
      show Z _ _ _ _ _ _ _ _ _ _ _ 0 0 _ _ _ [] _ _
      refine z_iinc d_M_ticks_61 (k := 3) (v := (x4 + 1)) rfl rfl (by decide) (L2 := [(4, .int (x4 + 1)), (0, .ref (ad q)), (1, .int x1), (2, .long w2)]) rfl ?_
      refine z_goto d_M_ticks_64 (tgt := 51) (by decide) ?_
      refine z_sub [1, 2, 3, 0] (L' := [(0, .ref (ad q)), (1, .int x1), (2, .long w2), (4, .int (x4 + 1))]) rfl ?_
      exact ih _ _ _ _ _ hF
def e_M_ticks_0 (q : Nat)  (x1 : Int32) (μ : zI) (ν : zJ) : Option (Int32 × zI × zJ) := zlet (zu μ q 0 0) fun μy1 => (if x1 < 1 then e_M_ticks_39 q x1 μy1 ν else (if 500 < x1 then e_M_ticks_39 q x1 μy1 ν else (if (μy1 q 9) = 0 then e_M_ticks_39 q x1 μy1 ν else (if ((μy1 (q + 7) 25) + x1) ≤ 9999 then zlet (α := Int64) (ν (q + 9) 0) fun y6 => f_M_ticks_51 q zFuel x1 y6 0 μy1 ν else e_M_ticks_39 q x1 μy1 ν))))
theorem z_M_ticks_0 {l : Launch} {D : va_G} {dA : Nat → ClassId} {ad : Nat → Nat} {sh : List zSE}  {q : Nat} (hm : zMo sh q)  {x1 : Int32} {μ : zI} {ν : zJ} {out : (Int32 × zI × zJ)} (hF : e_M_ticks_0 q  x1 μ ν = some out) : Z l D dA ad sh m_M_ticks (zR 7 0 0) (zS ad) (zOi out) 0 0 0 0 [] 0 [(0, .ref (ad q)), (1, .int x1)] [] μ ν := by
  unfold e_M_ticks_0 at hF
  refine z_aload_n d_M_ticks_0 0 rfl rfl ?_
  refine z_iconst d_M_ticks_1 (v := 0) (by decide) ?_
  refine z_put d_M_ticks_2 f_M_55 (hm 0 _ rfl) rfl (CL_fin _ _ (fun q hq => by cases hq; rfl)) rfl rfl ?_
  obtain ⟨μy1, hy1, hF⟩ := zh_let hF
  refine z_eqm hy1 ?_
  refine z_iload_n d_M_ticks_5 1 rfl rfl ?_
  refine z_iconst d_M_ticks_6 (v := 1) (by decide) ?_
  refine z_icmp_lt d_M_ticks_7 (tgt := 39) (by decide) (fun cy2 => ?_) (fun cy2 => ?_)
  · replace hF := zh_t cy2 hF
    exact z_M_ticks_39 hm  hF
  · replace hF := zh_f cy2 hF
    refine z_iload_n d_M_ticks_10 1 rfl rfl ?_
    refine z_sipush d_M_ticks_11 (v := 500) (by decide) ?_
    refine z_icmp_gt d_M_ticks_14 (tgt := 39) (by decide) (fun cy3 => ?_) (fun cy3 => ?_)
    · replace hF := zh_t cy3 hF
      exact z_M_ticks_39 hm  hF
    · replace hF := zh_f cy3 hF
      refine z_aload_n d_M_ticks_17 0 rfl rfl ?_
      refine z_get d_M_ticks_18 f_M_168 (hm 0 _ rfl) rfl ?_
      refine z_if_eq d_M_ticks_21 (tgt := 39) (by decide) (fun cy4 => ?_) (fun cy4 => ?_)
      · replace hF := zh_t cy4 hF
        exact z_M_ticks_39 hm  hF
      · replace hF := zh_f cy4 hF
        refine z_aload_n d_M_ticks_24 0 rfl rfl ?_
        refine z_getr d_M_ticks_25 (q := (q + 7)) f_M_33 (hm 0 _ rfl) rfl ?_
        refine z_bipush d_M_ticks_28 (v := 25) (by decide) ?_
        refine z_iald d_M_ticks_30 (hm 7 _ rfl) (zin_vp rfl) ?_
        show Z _ _ _ _ _ _ _ _ _ _ _ _ _ _ _ _ [.int (μy1 (q + 7) 25)] _ _
        refine z_iload_n d_M_ticks_31 1 rfl rfl ?_
        refine z_iadd d_M_ticks_32 ?_
        refine z_sipush d_M_ticks_33 (v := 9999) (by decide) ?_
        refine z_icmp_le d_M_ticks_36 (tgt := 41) (by decide) (fun cy5 => ?_) (fun cy5 => ?_)
        · replace hF := zh_t cy5 hF
          refine z_aload_n d_M_ticks_41 0 rfl rfl ?_
          refine z_getr d_M_ticks_42 (q := (q + 9)) f_M_39 (hm 0 _ rfl) rfl ?_
          refine z_iconst d_M_ticks_45 (v := 0) (by decide) ?_
          refine z_lald d_M_ticks_46 (hm 9 _ rfl) (zin_vp rfl) ?_
          show Z _ _ _ _ _ _ _ _ _ _ _ _ _ _ _ _ [.long (ν (q + 9) 0)] _ _
          obtain ⟨y6, hy6, hF⟩ := zh_let hF
          refine z_eql hy6 ?_
          refine z_lstore_n d_M_ticks_47 rfl (by decide) (L2 := [(2, .long y6), (0, .ref (ad q)), (1, .int x1)]) rfl ?_
          refine z_iconst d_M_ticks_48 (v := 0) (by decide) ?_
          refine z_istore d_M_ticks_49 (by decide) (L2 := [(4, .int 0), (2, .long y6), (0, .ref (ad q)), (1, .int x1)]) rfl ?_
          refine z_sub [2, 3, 1, 0] (L' := [(0, .ref (ad q)), (1, .int x1), (2, .long y6), (4, .int 0)]) rfl ?_
          exact z_M_ticks_51 hm  zFuel _ _ _ _ _ hF
        · replace hF := zh_f cy5 hF
          exact z_M_ticks_39 hm  hF
def E_M_ticks (q : Nat) (x1 : Int32) (μ : zI) (ν : zJ) : Option (Int32 × zI × zJ) := e_M_ticks_0 q x1 μ ν
theorem c_M_ticks {l : Launch} {D : va_G} {dA : Nat → ClassId} {ad : Nat → Nat} {sh : List zSE} {μ : zI} {ν : zJ} {q : Nat} {x1 : Int32} (hm : zMo sh q) {out : (Int32 × zI × zJ)} (hE : E_M_ticks q x1 μ ν = some out) : zC l D dA ad sh m_M_ticks 7 0 0 [.ref (ad q), .int x1] μ ν (zOi out) :=
  zC.of (by decide) (Nat.le_of_ble_eq_true rfl) (z_M_ticks_0 hm hE)
def e_M_isModule_17 (q : Nat)  (x1 : Int32) (s0 : Int32) (μ : zI) (ν : zJ) : Option (Int32 × zI × zJ) := (if zb s0 = true then some (s0, μ, ν) else none)
theorem z_M_isModule_17 {l : Launch} {D : va_G} {dA : Nat → ClassId} {ad : Nat → Nat} {sh : List zSE}  {q : Nat} (hm : zMo sh q)  {x1 : Int32} {s0 : Int32} {μ : zI} {ν : zJ} {out : (Int32 × zI × zJ)} (hF : e_M_isModule_17 q  x1 s0 μ ν = some out) : Z l D dA ad sh m_M_isModule (zR 0 0 0) (zS ad) (zOi out) 0 0 0 0 [] 17 [(0, .ref (ad q)), (1, .int x1)] [.int s0] μ ν := by
  unfold e_M_isModule_17 at hF
  obtain ⟨hy1, hF⟩ := zh_if hF
  cases hF
  exact z_ireturn d_M_isModule_17 rfl (zb_n hy1) ⟨rfl, rfl, rfl⟩
def e_M_isModule_16 (q : Nat)  (x1 : Int32) (μ : zI) (ν : zJ) : Option (Int32 × zI × zJ) := e_M_isModule_17 q x1 0 μ ν
theorem z_M_isModule_16 {l : Launch} {D : va_G} {dA : Nat → ClassId} {ad : Nat → Nat} {sh : List zSE}  {q : Nat} (hm : zMo sh q)  {x1 : Int32} {μ : zI} {ν : zJ} {out : (Int32 × zI × zJ)} (hF : e_M_isModule_16 q  x1 μ ν = some out) : Z l D dA ad sh m_M_isModule (zR 0 0 0) (zS ad) (zOi out) 0 0 0 0 [] 16 [(0, .ref (ad q)), (1, .int x1)] [] μ ν := by
  unfold e_M_isModule_16 at hF
  refine z_iconst d_M_isModule_16 (v := 0) (by decide) ?_
  exact z_M_isModule_17 hm  hF
def e_M_isModule_0 (q : Nat)  (x1 : Int32) (μ : zI) (ν : zJ) : Option (Int32 × zI × zJ) := (if x1 < 0 then e_M_isModule_16 q x1 μ ν else (if (μ q 9) ≤ x1 then e_M_isModule_16 q x1 μ ν else e_M_isModule_17 q x1 1 μ ν))
theorem z_M_isModule_0 {l : Launch} {D : va_G} {dA : Nat → ClassId} {ad : Nat → Nat} {sh : List zSE}  {q : Nat} (hm : zMo sh q)  {x1 : Int32} {μ : zI} {ν : zJ} {out : (Int32 × zI × zJ)} (hF : e_M_isModule_0 q  x1 μ ν = some out) : Z l D dA ad sh m_M_isModule (zR 0 0 0) (zS ad) (zOi out) 0 0 0 0 [] 0 [(0, .ref (ad q)), (1, .int x1)] [] μ ν := by
  unfold e_M_isModule_0 at hF
  refine z_iload_n d_M_isModule_0 1 rfl rfl ?_
  refine z_if_lt d_M_isModule_1 (tgt := 16) (by decide) (fun cy1 => ?_) (fun cy1 => ?_)
  · replace hF := zh_t cy1 hF
    exact z_M_isModule_16 hm  hF
  · replace hF := zh_f cy1 hF
    refine z_iload_n d_M_isModule_4 1 rfl rfl ?_
    refine z_aload_n d_M_isModule_5 0 rfl rfl ?_
    refine z_get d_M_isModule_6 f_M_168 (hm 0 _ rfl) rfl ?_
    refine z_icmp_ge d_M_isModule_9 (tgt := 16) (by decide) (fun cy2 => ?_) (fun cy2 => ?_)
    · replace hF := zh_t cy2 hF
      exact z_M_isModule_16 hm  hF
    · replace hF := zh_f cy2 hF
      refine z_iconst d_M_isModule_12 (v := 1) (by decide) ?_
      refine z_goto d_M_isModule_13 (tgt := 17) (by decide) ?_
      exact z_M_isModule_17 hm  hF
def E_M_isModule (q : Nat) (x1 : Int32) (μ : zI) (ν : zJ) : Option (Int32 × zI × zJ) := e_M_isModule_0 q x1 μ ν
theorem c_M_isModule {l : Launch} {D : va_G} {dA : Nat → ClassId} {ad : Nat → Nat} {sh : List zSE} {μ : zI} {ν : zJ} {q : Nat} {x1 : Int32} (hm : zMo sh q) {out : (Int32 × zI × zJ)} (hE : E_M_isModule q x1 μ ν = some out) : zC l D dA ad sh m_M_isModule 0 0 0 [.ref (ad q), .int x1] μ ν (zOi out) :=
  zC.of (by decide) (Nat.le_of_ble_eq_true rfl) (z_M_isModule_0 hm hE)
def e_M_light_23 (q : Nat)  (x1 : Int32) (x2 : Int32) (μ : zI) (ν : zJ) : Option (Int32 × zI × zJ) := some ((-1), μ, ν)
theorem z_M_light_23 {l : Launch} {D : va_G} {dA : Nat → ClassId} {ad : Nat → Nat} {sh : List zSE}  {q : Nat} (hm : zMo sh q)  {x1 : Int32} {x2 : Int32} {μ : zI} {ν : zJ} {out : (Int32 × zI × zJ)} (hF : e_M_light_23 q  x1 x2 μ ν = some out) : Z l D dA ad sh m_M_light (zR 1 0 0) (zS ad) (zOi out) 0 0 0 0 [] 23 [(0, .ref (ad q)), (1, .int x1), (2, .int x2)] [] μ ν := by
  unfold e_M_light_23 at hF
  refine z_iconst d_M_light_23 (v := (-1)) (by decide) ?_
  cases hF
  exact z_ireturn d_M_light_24 rfl rfl ⟨rfl, rfl, rfl⟩
def e_M_light_0 (q : Nat)  (x1 : Int32) (x2 : Int32) (μ : zI) (ν : zJ) : Option (Int32 × zI × zJ) := zlet (zu μ q 0 0) fun μy1 => Option.bind (E_M_isModule q x1 μy1 ν) fun ty2 => (if ty2.1 = 0 then e_M_light_23 q x1 x2 ty2.2.1 ty2.2.2 else (if x2 < 0 then e_M_light_23 q x1 x2 ty2.2.1 ty2.2.2 else (if x2 ≤ 100 then (if zin (19 + x1) 146 = true then zlet (α := Int32) (ty2.2.1 (q + 7) (Int32.toNatClampNeg (19 + x1))) fun y7 => Option.bind (E_M_lights q x1 x2 ty2.2.1 ty2.2.2) fun ty8 => some (y7, ty8.1, ty8.2) else none) else e_M_light_23 q x1 x2 ty2.2.1 ty2.2.2)))
theorem z_M_light_0 {l : Launch} {D : va_G} {dA : Nat → ClassId} {ad : Nat → Nat} {sh : List zSE}  {q : Nat} (hm : zMo sh q)  {x1 : Int32} {x2 : Int32} {μ : zI} {ν : zJ} {out : (Int32 × zI × zJ)} (hF : e_M_light_0 q  x1 x2 μ ν = some out) : Z l D dA ad sh m_M_light (zR 1 0 0) (zS ad) (zOi out) 0 0 0 0 [] 0 [(0, .ref (ad q)), (1, .int x1), (2, .int x2)] [] μ ν := by
  unfold e_M_light_0 at hF
  refine z_aload_n d_M_light_0 0 rfl rfl ?_
  refine z_iconst d_M_light_1 (v := 0) (by decide) ?_
  refine z_put d_M_light_2 f_M_55 (hm 0 _ rfl) rfl (CL_fin _ _ (fun q hq => by cases hq; rfl)) rfl rfl ?_
  obtain ⟨μy1, hy1, hF⟩ := zh_let hF
  refine z_eqm hy1 ?_
  refine z_aload_n d_M_light_5 0 rfl rfl ?_
  refine z_iload_n d_M_light_6 1 rfl rfl ?_
  obtain ⟨ty2, hty2, hF⟩ := zh_bind hF
  refine z_callV d_M_light_7 (c_M_isModule hm hty2) mv_M_isModule l_M_265 (fun _ _ h => h) (hm 0 _ rfl) rfl rfl ⟨Nat.le_of_ble_eq_true rfl, Nat.le_of_ble_eq_true rfl⟩ ⟨Nat.le_of_ble_eq_true rfl, Nat.le_of_ble_eq_true rfl⟩ rfl (Nat.le_of_ble_eq_true rfl) (fun r μ' ν' hq => ?_)
  obtain ⟨rfl, rfl, rfl⟩ := hq
  show Z _ _ _ _ _ _ _ _ _ _ _ 0 0 _ _ _ [.int ty2.1] _ _
  refine z_if_eq d_M_light_10 (tgt := 23) (by decide) (fun cy3 => ?_) (fun cy3 => ?_)
  · replace hF := zh_t cy3 hF
    exact z_M_light_23 hm  hF
  · replace hF := zh_f cy3 hF
    refine z_iload_n d_M_light_13 2 rfl rfl ?_
    refine z_if_lt d_M_light_14 (tgt := 23) (by decide) (fun cy4 => ?_) (fun cy4 => ?_)
    · replace hF := zh_t cy4 hF
      exact z_M_light_23 hm  hF
    · replace hF := zh_f cy4 hF
      refine z_iload_n d_M_light_17 2 rfl rfl ?_
      refine z_bipush d_M_light_18 (v := 100) (by decide) ?_
      refine z_icmp_le d_M_light_20 (tgt := 25) (by decide) (fun cy5 => ?_) (fun cy5 => ?_)
      · replace hF := zh_t cy5 hF
        refine z_aload_n d_M_light_25 0 rfl rfl ?_
        refine z_getr d_M_light_26 (q := (q + 7)) f_M_33 (hm 0 _ rfl) rfl ?_
        refine z_bipush d_M_light_29 (v := 19) (by decide) ?_
        refine z_iload_n d_M_light_31 1 rfl rfl ?_
        refine z_iadd d_M_light_32 ?_
        obtain ⟨hy6, hF⟩ := zh_if hF
        refine z_iald d_M_light_33 (hm 7 _ rfl) (zin_vp hy6) ?_
        obtain ⟨y7, hy7, hF⟩ := zh_let hF
        refine z_eqi hy7 ?_
        refine z_istore_n d_M_light_34 rfl (by decide) (L2 := [(3, .int y7), (0, .ref (ad q)), (1, .int x1), (2, .int x2)]) rfl ?_
        refine z_aload_n d_M_light_35 1 rfl rfl ?_
        refine z_iload_n d_M_light_36 2 rfl rfl ?_
        refine z_iload_n d_M_light_37 3 rfl rfl ?_
        obtain ⟨ty8, hty8, hF⟩ := zh_bind hF
        refine z_callV d_M_light_38 (c_M_lights hm hty8) mv_M_lights l_M_194 (fun _ _ h => h) (hm 0 _ rfl) rfl rfl ⟨Nat.le_of_ble_eq_true rfl, Nat.le_of_ble_eq_true rfl⟩ ⟨Nat.le_of_ble_eq_true rfl, Nat.le_of_ble_eq_true rfl⟩ rfl (Nat.le_of_ble_eq_true rfl) (fun r μ' ν' hq => ?_)
        obtain ⟨rfl, rfl, rfl⟩ := hq
        show Z _ _ _ _ _ _ _ _ _ _ _ 0 0 _ _ _ [] _ _
        refine z_iload_n d_M_light_41 0 rfl rfl ?_
        cases hF
        exact z_ireturn d_M_light_42 rfl rfl ⟨rfl, rfl, rfl⟩
      · replace hF := zh_f cy5 hF
        exact z_M_light_23 hm  hF
def E_M_light (q : Nat) (x1 : Int32) (x2 : Int32) (μ : zI) (ν : zJ) : Option (Int32 × zI × zJ) := e_M_light_0 q x1 x2 μ ν
theorem c_M_light {l : Launch} {D : va_G} {dA : Nat → ClassId} {ad : Nat → Nat} {sh : List zSE} {μ : zI} {ν : zJ} {q : Nat} {x1 : Int32} {x2 : Int32} (hm : zMo sh q) {out : (Int32 × zI × zJ)} (hE : E_M_light q x1 x2 μ ν = some out) : zC l D dA ad sh m_M_light 1 0 0 [.ref (ad q), .int x1, .int x2] μ ν (zOi out) :=
  zC.of (by decide) (Nat.le_of_ble_eq_true rfl) (z_M_light_0 hm hE)
def e_M_grid_14 (q : Nat)  (x1 : Int32) (μ : zI) (ν : zJ) : Option (Int32 × zI × zJ) := some ((-1), μ, ν)
theorem z_M_grid_14 {l : Launch} {D : va_G} {dA : Nat → ClassId} {ad : Nat → Nat} {sh : List zSE}  {q : Nat} (hm : zMo sh q)  {x1 : Int32} {μ : zI} {ν : zJ} {out : (Int32 × zI × zJ)} (hF : e_M_grid_14 q  x1 μ ν = some out) : Z l D dA ad sh m_M_grid (zR 0 0 0) (zS ad) (zOi out) 0 0 0 0 [] 14 [(0, .ref (ad q)), (1, .int x1)] [] μ ν := by
  unfold e_M_grid_14 at hF
  refine z_iconst d_M_grid_14 (v := (-1)) (by decide) ?_
  cases hF
  exact z_ireturn d_M_grid_15 rfl rfl ⟨rfl, rfl, rfl⟩
def e_M_grid_0 (q : Nat)  (x1 : Int32) (μ : zI) (ν : zJ) : Option (Int32 × zI × zJ) := zlet (zu μ q 0 0) fun μy1 => (if x1 < 0 then e_M_grid_14 q x1 μy1 ν else (if x1 ≤ 1 then zlet (α := Int32) (μy1 (q + 7) 37) fun y4 => zlet (zu μy1 (q + 7) 37 x1) fun μy5 => some (y4, μy5, ν) else e_M_grid_14 q x1 μy1 ν))
theorem z_M_grid_0 {l : Launch} {D : va_G} {dA : Nat → ClassId} {ad : Nat → Nat} {sh : List zSE}  {q : Nat} (hm : zMo sh q)  {x1 : Int32} {μ : zI} {ν : zJ} {out : (Int32 × zI × zJ)} (hF : e_M_grid_0 q  x1 μ ν = some out) : Z l D dA ad sh m_M_grid (zR 0 0 0) (zS ad) (zOi out) 0 0 0 0 [] 0 [(0, .ref (ad q)), (1, .int x1)] [] μ ν := by
  unfold e_M_grid_0 at hF
  refine z_aload_n d_M_grid_0 0 rfl rfl ?_
  refine z_iconst d_M_grid_1 (v := 0) (by decide) ?_
  refine z_put d_M_grid_2 f_M_55 (hm 0 _ rfl) rfl (CL_fin _ _ (fun q hq => by cases hq; rfl)) rfl rfl ?_
  obtain ⟨μy1, hy1, hF⟩ := zh_let hF
  refine z_eqm hy1 ?_
  refine z_iload_n d_M_grid_5 1 rfl rfl ?_
  refine z_if_lt d_M_grid_6 (tgt := 14) (by decide) (fun cy2 => ?_) (fun cy2 => ?_)
  · replace hF := zh_t cy2 hF
    exact z_M_grid_14 hm  hF
  · replace hF := zh_f cy2 hF
    refine z_iload_n d_M_grid_9 1 rfl rfl ?_
    refine z_iconst d_M_grid_10 (v := 1) (by decide) ?_
    refine z_icmp_le d_M_grid_11 (tgt := 16) (by decide) (fun cy3 => ?_) (fun cy3 => ?_)
    · replace hF := zh_t cy3 hF
      refine z_aload_n d_M_grid_16 0 rfl rfl ?_
      refine z_getr d_M_grid_17 (q := (q + 7)) f_M_33 (hm 0 _ rfl) rfl ?_
      refine z_bipush d_M_grid_20 (v := 37) (by decide) ?_
      refine z_iald d_M_grid_22 (hm 7 _ rfl) (zin_vp rfl) ?_
      show Z _ _ _ _ _ _ _ _ _ _ _ _ _ _ _ _ [.int (μy1 (q + 7) 37)] _ _
      obtain ⟨y4, hy4, hF⟩ := zh_let hF
      refine z_eqi hy4 ?_
      refine z_istore_n d_M_grid_23 rfl (by decide) (L2 := [(2, .int y4), (0, .ref (ad q)), (1, .int x1)]) rfl ?_
      refine z_aload_n d_M_grid_24 1 rfl rfl ?_
      refine z_getr d_M_grid_25 (q := (q + 7)) f_M_33 (hm 0 _ rfl) rfl ?_
      refine z_bipush d_M_grid_28 (v := 37) (by decide) ?_
      refine z_iload_n d_M_grid_30 2 rfl rfl ?_
      refine z_iast d_M_grid_31 (hm 7 _ rfl) (zin_vp rfl) ?_
      obtain ⟨μy5, hy5, hF⟩ := zh_let hF
      refine z_eqm hy5 ?_
      refine z_iload_n d_M_grid_32 0 rfl rfl ?_
      cases hF
      exact z_ireturn d_M_grid_33 rfl rfl ⟨rfl, rfl, rfl⟩
    · replace hF := zh_f cy3 hF
      exact z_M_grid_14 hm  hF
def E_M_grid (q : Nat) (x1 : Int32) (μ : zI) (ν : zJ) : Option (Int32 × zI × zJ) := e_M_grid_0 q x1 μ ν
theorem c_M_grid {l : Launch} {D : va_G} {dA : Nat → ClassId} {ad : Nat → Nat} {sh : List zSE} {μ : zI} {ν : zJ} {q : Nat} {x1 : Int32} (hm : zMo sh q) {out : (Int32 × zI × zJ)} (hE : E_M_grid q x1 μ ν = some out) : zC l D dA ad sh m_M_grid 0 0 0 [.ref (ad q), .int x1] μ ν (zOi out) :=
  zC.of (by decide) (Nat.le_of_ble_eq_true rfl) (z_M_grid_0 hm hE)
def e_M_tune_17 (q : Nat)  (x1 : Int32) (μ : zI) (ν : zJ) : Option (Int32 × zI × zJ) := some ((-1), μ, ν)
theorem z_M_tune_17 {l : Launch} {D : va_G} {dA : Nat → ClassId} {ad : Nat → Nat} {sh : List zSE}  {q : Nat} (hm : zMo sh q)  {x1 : Int32} {μ : zI} {ν : zJ} {out : (Int32 × zI × zJ)} (hF : e_M_tune_17 q  x1 μ ν = some out) : Z l D dA ad sh m_M_tune (zR 0 0 0) (zS ad) (zOi out) 0 0 0 0 [] 17 [(0, .ref (ad q)), (1, .int x1)] [] μ ν := by
  unfold e_M_tune_17 at hF
  refine z_iconst d_M_tune_17 (v := (-1)) (by decide) ?_
  cases hF
  exact z_ireturn d_M_tune_18 rfl rfl ⟨rfl, rfl, rfl⟩
def e_M_tune_0 (q : Nat)  (x1 : Int32) (μ : zI) (ν : zJ) : Option (Int32 × zI × zJ) := zlet (zu μ q 0 0) fun μy1 => (if x1 < 45000 then e_M_tune_17 q x1 μy1 ν else (if x1 ≤ 55000 then zlet (α := Int32) (μy1 (q + 7) 38) fun y4 => zlet (zu μy1 (q + 7) 38 x1) fun μy5 => some (y4, μy5, ν) else e_M_tune_17 q x1 μy1 ν))
theorem z_M_tune_0 {l : Launch} {D : va_G} {dA : Nat → ClassId} {ad : Nat → Nat} {sh : List zSE}  {q : Nat} (hm : zMo sh q)  {x1 : Int32} {μ : zI} {ν : zJ} {out : (Int32 × zI × zJ)} (hF : e_M_tune_0 q  x1 μ ν = some out) : Z l D dA ad sh m_M_tune (zR 0 0 0) (zS ad) (zOi out) 0 0 0 0 [] 0 [(0, .ref (ad q)), (1, .int x1)] [] μ ν := by
  unfold e_M_tune_0 at hF
  refine z_aload_n d_M_tune_0 0 rfl rfl ?_
  refine z_iconst d_M_tune_1 (v := 0) (by decide) ?_
  refine z_put d_M_tune_2 f_M_55 (hm 0 _ rfl) rfl (CL_fin _ _ (fun q hq => by cases hq; rfl)) rfl rfl ?_
  obtain ⟨μy1, hy1, hF⟩ := zh_let hF
  refine z_eqm hy1 ?_
  refine z_iload_n d_M_tune_5 1 rfl rfl ?_
  refine z_ldc d_M_tune_6 k_M_145 ?_
  refine z_icmp_lt d_M_tune_8 (tgt := 17) (by decide) (fun cy2 => ?_) (fun cy2 => ?_)
  · replace hF := zh_t cy2 hF
    exact z_M_tune_17 hm  hF
  · replace hF := zh_f cy2 hF
    refine z_iload_n d_M_tune_11 1 rfl rfl ?_
    refine z_ldc d_M_tune_12 k_M_146 ?_
    refine z_icmp_le d_M_tune_14 (tgt := 19) (by decide) (fun cy3 => ?_) (fun cy3 => ?_)
    · replace hF := zh_t cy3 hF
      refine z_aload_n d_M_tune_19 0 rfl rfl ?_
      refine z_getr d_M_tune_20 (q := (q + 7)) f_M_33 (hm 0 _ rfl) rfl ?_
      refine z_bipush d_M_tune_23 (v := 38) (by decide) ?_
      refine z_iald d_M_tune_25 (hm 7 _ rfl) (zin_vp rfl) ?_
      show Z _ _ _ _ _ _ _ _ _ _ _ _ _ _ _ _ [.int (μy1 (q + 7) 38)] _ _
      obtain ⟨y4, hy4, hF⟩ := zh_let hF
      refine z_eqi hy4 ?_
      refine z_istore_n d_M_tune_26 rfl (by decide) (L2 := [(2, .int y4), (0, .ref (ad q)), (1, .int x1)]) rfl ?_
      refine z_aload_n d_M_tune_27 1 rfl rfl ?_
      refine z_getr d_M_tune_28 (q := (q + 7)) f_M_33 (hm 0 _ rfl) rfl ?_
      refine z_bipush d_M_tune_31 (v := 38) (by decide) ?_
      refine z_iload_n d_M_tune_33 2 rfl rfl ?_
      refine z_iast d_M_tune_34 (hm 7 _ rfl) (zin_vp rfl) ?_
      obtain ⟨μy5, hy5, hF⟩ := zh_let hF
      refine z_eqm hy5 ?_
      refine z_iload_n d_M_tune_35 0 rfl rfl ?_
      cases hF
      exact z_ireturn d_M_tune_36 rfl rfl ⟨rfl, rfl, rfl⟩
    · replace hF := zh_f cy3 hF
      exact z_M_tune_17 hm  hF
def E_M_tune (q : Nat) (x1 : Int32) (μ : zI) (ν : zJ) : Option (Int32 × zI × zJ) := e_M_tune_0 q x1 μ ν
theorem c_M_tune {l : Launch} {D : va_G} {dA : Nat → ClassId} {ad : Nat → Nat} {sh : List zSE} {μ : zI} {ν : zJ} {q : Nat} {x1 : Int32} (hm : zMo sh q) {out : (Int32 × zI × zJ)} (hE : E_M_tune q x1 μ ν = some out) : zC l D dA ad sh m_M_tune 0 0 0 [.ref (ad q), .int x1] μ ν (zOi out) :=
  zC.of (by decide) (Nat.le_of_ble_eq_true rfl) (z_M_tune_0 hm hE)
def e_M_scan_0 (q : Nat)   (μ : zI) (ν : zJ) : Option (Int32 × zI × zJ) := zlet (zu μ q 0 0) fun μy1 => (if (μy1 q 9) = 0 then some ((-1), μy1, ν) else (if (μy1 (q + 7) 31) = 1 then some (0, μy1, ν) else Option.bind (E_M_startsScan q μy1 ν) fun ty4 => some (1, ty4.1, ty4.2)))
theorem z_M_scan_0 {l : Launch} {D : va_G} {dA : Nat → ClassId} {ad : Nat → Nat} {sh : List zSE}  {q : Nat} (hm : zMo sh q)   {μ : zI} {ν : zJ} {out : (Int32 × zI × zJ)} (hF : e_M_scan_0 q   μ ν = some out) : Z l D dA ad sh m_M_scan (zR 1 0 0) (zS ad) (zOi out) 0 0 0 0 [] 0 [(0, .ref (ad q))] [] μ ν := by
  unfold e_M_scan_0 at hF
  refine z_aload_n d_M_scan_0 0 rfl rfl ?_
  refine z_iconst d_M_scan_1 (v := 0) (by decide) ?_
  refine z_put d_M_scan_2 f_M_55 (hm 0 _ rfl) rfl (CL_fin _ _ (fun q hq => by cases hq; rfl)) rfl rfl ?_
  obtain ⟨μy1, hy1, hF⟩ := zh_let hF
  refine z_eqm hy1 ?_
  refine z_aload_n d_M_scan_5 0 rfl rfl ?_
  refine z_get d_M_scan_6 f_M_168 (hm 0 _ rfl) rfl ?_
  refine z_if_ne d_M_scan_9 (tgt := 14) (by decide) (fun cy2 => ?_) (fun cy2 => ?_)
  · replace hF := zh_f cy2 hF
    refine z_aload_n d_M_scan_14 0 rfl rfl ?_
    refine z_getr d_M_scan_15 (q := (q + 7)) f_M_33 (hm 0 _ rfl) rfl ?_
    refine z_bipush d_M_scan_18 (v := 31) (by decide) ?_
    refine z_iald d_M_scan_20 (hm 7 _ rfl) (zin_vp rfl) ?_
    show Z _ _ _ _ _ _ _ _ _ _ _ _ _ _ _ _ [.int (μy1 (q + 7) 31)] _ _
    refine z_iconst d_M_scan_21 (v := 1) (by decide) ?_
    refine z_icmp_ne d_M_scan_22 (tgt := 27) (by decide) (fun cy3 => ?_) (fun cy3 => ?_)
    · replace hF := zh_f cy3 hF
      refine z_aload_n d_M_scan_27 0 rfl rfl ?_
      obtain ⟨ty4, hty4, hF⟩ := zh_bind hF
      refine z_callV d_M_scan_28 (c_M_startsScan hm hty4) mv_M_startsScan l_M_229 (fun _ _ h => h) (hm 0 _ rfl) rfl rfl ⟨Nat.le_of_ble_eq_true rfl, Nat.le_of_ble_eq_true rfl⟩ ⟨Nat.le_of_ble_eq_true rfl, Nat.le_of_ble_eq_true rfl⟩ rfl (Nat.le_of_ble_eq_true rfl) (fun r μ' ν' hq => ?_)
      obtain ⟨rfl, rfl, rfl⟩ := hq
      show Z _ _ _ _ _ _ _ _ _ _ _ 0 0 _ _ _ [] _ _
      refine z_iconst d_M_scan_31 (v := 1) (by decide) ?_
      cases hF
      exact z_ireturn d_M_scan_32 rfl rfl ⟨rfl, rfl, rfl⟩
    · replace hF := zh_t cy3 hF
      refine z_iconst d_M_scan_25 (v := 0) (by decide) ?_
      cases hF
      exact z_ireturn d_M_scan_26 rfl rfl ⟨rfl, rfl, rfl⟩
  · replace hF := zh_t cy2 hF
    refine z_iconst d_M_scan_12 (v := (-1)) (by decide) ?_
    cases hF
    exact z_ireturn d_M_scan_13 rfl rfl ⟨rfl, rfl, rfl⟩
def E_M_scan (q : Nat)  (μ : zI) (ν : zJ) : Option (Int32 × zI × zJ) := e_M_scan_0 q μ ν
theorem c_M_scan {l : Launch} {D : va_G} {dA : Nat → ClassId} {ad : Nat → Nat} {sh : List zSE} {μ : zI} {ν : zJ} {q : Nat} (hm : zMo sh q) {out : (Int32 × zI × zJ)} (hE : E_M_scan q μ ν = some out) : zC l D dA ad sh m_M_scan 1 0 0 [.ref (ad q)] μ ν (zOi out) :=
  zC.of (by decide) (Nat.le_of_ble_eq_true rfl) (z_M_scan_0 hm hE)
def e_M_told_25 (q : Nat)  (x1 : Int32) (s0 : Int32) (μ : zI) (ν : zJ) : Option (Int32 × zI × zJ) := some (s0, μ, ν)
theorem z_M_told_25 {l : Launch} {D : va_G} {dA : Nat → ClassId} {ad : Nat → Nat} {sh : List zSE}  {q : Nat} (hm : zMo sh q)  {x1 : Int32} {s0 : Int32} {μ : zI} {ν : zJ} {out : (Int32 × zI × zJ)} (hF : e_M_told_25 q  x1 s0 μ ν = some out) : Z l D dA ad sh m_M_told (zR 0 0 0) (zS ad) (zOi out) 0 0 0 0 [] 25 [(0, .ref (ad q)), (1, .int x1)] [.int s0] μ ν := by
  unfold e_M_told_25 at hF
  cases hF
  exact z_ireturn d_M_told_25 rfl rfl ⟨rfl, rfl, rfl⟩
def e_M_told_24 (q : Nat)  (x1 : Int32) (μ : zI) (ν : zJ) : Option (Int32 × zI × zJ) := e_M_told_25 q x1 (-1) μ ν
theorem z_M_told_24 {l : Launch} {D : va_G} {dA : Nat → ClassId} {ad : Nat → Nat} {sh : List zSE}  {q : Nat} (hm : zMo sh q)  {x1 : Int32} {μ : zI} {ν : zJ} {out : (Int32 × zI × zJ)} (hF : e_M_told_24 q  x1 μ ν = some out) : Z l D dA ad sh m_M_told (zR 0 0 0) (zS ad) (zOi out) 0 0 0 0 [] 24 [(0, .ref (ad q)), (1, .int x1)] [] μ ν := by
  unfold e_M_told_24 at hF
  refine z_iconst d_M_told_24 (v := (-1)) (by decide) ?_
  exact z_M_told_25 hm  hF
def e_M_told_0 (q : Nat)  (x1 : Int32) (μ : zI) (ν : zJ) : Option (Int32 × zI × zJ) := zlet (zu μ q 0 0) fun μy1 => (if x1 < 0 then e_M_told_24 q x1 μy1 ν else (if 18 < x1 then e_M_told_24 q x1 μy1 ν else (if zin x1 146 = true then e_M_told_25 q x1 (μy1 (q + 7) (Int32.toNatClampNeg x1)) μy1 ν else none)))
theorem z_M_told_0 {l : Launch} {D : va_G} {dA : Nat → ClassId} {ad : Nat → Nat} {sh : List zSE}  {q : Nat} (hm : zMo sh q)  {x1 : Int32} {μ : zI} {ν : zJ} {out : (Int32 × zI × zJ)} (hF : e_M_told_0 q  x1 μ ν = some out) : Z l D dA ad sh m_M_told (zR 0 0 0) (zS ad) (zOi out) 0 0 0 0 [] 0 [(0, .ref (ad q)), (1, .int x1)] [] μ ν := by
  unfold e_M_told_0 at hF
  refine z_aload_n d_M_told_0 0 rfl rfl ?_
  refine z_iconst d_M_told_1 (v := 0) (by decide) ?_
  refine z_put d_M_told_2 f_M_55 (hm 0 _ rfl) rfl (CL_fin _ _ (fun q hq => by cases hq; rfl)) rfl rfl ?_
  obtain ⟨μy1, hy1, hF⟩ := zh_let hF
  refine z_eqm hy1 ?_
  refine z_iload_n d_M_told_5 1 rfl rfl ?_
  refine z_if_lt d_M_told_6 (tgt := 24) (by decide) (fun cy2 => ?_) (fun cy2 => ?_)
  · replace hF := zh_t cy2 hF
    exact z_M_told_24 hm  hF
  · replace hF := zh_f cy2 hF
    refine z_iload_n d_M_told_9 1 rfl rfl ?_
    refine z_bipush d_M_told_10 (v := 18) (by decide) ?_
    refine z_icmp_gt d_M_told_12 (tgt := 24) (by decide) (fun cy3 => ?_) (fun cy3 => ?_)
    · replace hF := zh_t cy3 hF
      exact z_M_told_24 hm  hF
    · replace hF := zh_f cy3 hF
      refine z_aload_n d_M_told_15 0 rfl rfl ?_
      refine z_getr d_M_told_16 (q := (q + 7)) f_M_33 (hm 0 _ rfl) rfl ?_
      refine z_iload_n d_M_told_19 1 rfl rfl ?_
      obtain ⟨hy4, hF⟩ := zh_if hF
      refine z_iald d_M_told_20 (hm 7 _ rfl) (zin_vp hy4) ?_
      refine z_goto d_M_told_21 (tgt := 25) (by decide) ?_
      exact z_M_told_25 hm  hF
def E_M_told (q : Nat) (x1 : Int32) (μ : zI) (ν : zJ) : Option (Int32 × zI × zJ) := e_M_told_0 q x1 μ ν
theorem c_M_told {l : Launch} {D : va_G} {dA : Nat → ClassId} {ad : Nat → Nat} {sh : List zSE} {μ : zI} {ν : zJ} {q : Nat} {x1 : Int32} (hm : zMo sh q) {out : (Int32 × zI × zJ)} (hE : E_M_told q x1 μ ν = some out) : zC l D dA ad sh m_M_told 0 0 0 [.ref (ad q), .int x1] μ ν (zOi out) :=
  zC.of (by decide) (Nat.le_of_ble_eq_true rfl) (z_M_told_0 hm hE)
def e_M_settle_37 (q : Nat)  (x1 : Int32) (x2 : Int32) (μ : zI) (ν : zJ) : Option (Int32 × zI × zJ) := some ((-1), μ, ν)
theorem z_M_settle_37 {l : Launch} {D : va_G} {dA : Nat → ClassId} {ad : Nat → Nat} {sh : List zSE}  {q : Nat} (hm : zMo sh q)  {x1 : Int32} {x2 : Int32} {μ : zI} {ν : zJ} {out : (Int32 × zI × zJ)} (hF : e_M_settle_37 q  x1 x2 μ ν = some out) : Z l D dA ad sh m_M_settle (zR 1 0 0) (zS ad) (zOi out) 0 0 0 0 [] 37 [(0, .ref (ad q)), (1, .int x1), (2, .int x2)] [] μ ν := by
  unfold e_M_settle_37 at hF
  refine z_iconst d_M_settle_37 (v := (-1)) (by decide) ?_
  cases hF
  exact z_ireturn d_M_settle_38 rfl rfl ⟨rfl, rfl, rfl⟩
def e_M_settle_21 (q : Nat)  (x1 : Int32) (x2 : Int32) (μ : zI) (ν : zJ) : Option (Int32 × zI × zJ) := Option.bind (E_M_leastOf x1 μ ν) fun ty1 => (if x2 < ty1.1 then e_M_settle_37 q x1 x2 ty1.2.1 ty1.2.2 else Option.bind (E_M_mostOf x1 ty1.2.1 ty1.2.2) fun ty3 => (if x2 ≤ ty3.1 then (if zin x1 146 = true then zlet (α := Int32) (ty3.2.1 (q + 7) (Int32.toNatClampNeg x1)) fun y6 => (if zin x1 146 = true then zlet (zu ty3.2.1 (q + 7) (Int32.toNatClampNeg x1) x2) fun μy8 => some (y6, μy8, ty3.2.2) else none) else none) else e_M_settle_37 q x1 x2 ty3.2.1 ty3.2.2))
theorem z_M_settle_21 {l : Launch} {D : va_G} {dA : Nat → ClassId} {ad : Nat → Nat} {sh : List zSE}  {q : Nat} (hm : zMo sh q)  {x1 : Int32} {x2 : Int32} {μ : zI} {ν : zJ} {out : (Int32 × zI × zJ)} (hF : e_M_settle_21 q  x1 x2 μ ν = some out) : Z l D dA ad sh m_M_settle (zR 1 0 0) (zS ad) (zOi out) 0 0 0 0 [] 21 [(0, .ref (ad q)), (1, .int x1), (2, .int x2)] [] μ ν := by
  unfold e_M_settle_21 at hF
  refine z_iload_n d_M_settle_21 2 rfl rfl ?_
  refine z_iload_n d_M_settle_22 1 rfl rfl ?_
  obtain ⟨ty1, hty1, hF⟩ := zh_bind hF
  refine z_callS d_M_settle_23 (c_M_leastOf  hty1) ms_M_leastOf l_M_118 (fun _ _ h => h) rfl ⟨Nat.le_of_ble_eq_true rfl, Nat.le_of_ble_eq_true rfl⟩ ⟨Nat.le_of_ble_eq_true rfl, Nat.le_of_ble_eq_true rfl⟩ rfl (Nat.le_of_ble_eq_true rfl) (fun r μ' ν' hq => ?_)
  obtain ⟨rfl, rfl, rfl⟩ := hq
  show Z _ _ _ _ _ _ _ _ _ _ _ 0 0 _ _ _ [.int ty1.1, .int x2] _ _
  refine z_icmp_lt d_M_settle_26 (tgt := 37) (by decide) (fun cy2 => ?_) (fun cy2 => ?_)
  · replace hF := zh_t cy2 hF
    exact z_M_settle_37 hm  hF
  · replace hF := zh_f cy2 hF
    refine z_iload_n d_M_settle_29 2 rfl rfl ?_
    refine z_iload_n d_M_settle_30 1 rfl rfl ?_
    obtain ⟨ty3, hty3, hF⟩ := zh_bind hF
    refine z_callS d_M_settle_31 (c_M_mostOf  hty3) ms_M_mostOf l_M_122 (fun _ _ h => h) rfl ⟨Nat.le_of_ble_eq_true rfl, Nat.le_of_ble_eq_true rfl⟩ ⟨Nat.le_of_ble_eq_true rfl, Nat.le_of_ble_eq_true rfl⟩ rfl (Nat.le_of_ble_eq_true rfl) (fun r μ' ν' hq => ?_)
    obtain ⟨rfl, rfl, rfl⟩ := hq
    show Z _ _ _ _ _ _ _ _ _ _ _ 0 0 _ _ _ [.int ty3.1, .int x2] _ _
    refine z_icmp_le d_M_settle_34 (tgt := 39) (by decide) (fun cy4 => ?_) (fun cy4 => ?_)
    · replace hF := zh_t cy4 hF
      refine z_aload_n d_M_settle_39 0 rfl rfl ?_
      refine z_getr d_M_settle_40 (q := (q + 7)) f_M_33 (hm 0 _ rfl) rfl ?_
      refine z_iload_n d_M_settle_43 1 rfl rfl ?_
      obtain ⟨hy5, hF⟩ := zh_if hF
      refine z_iald d_M_settle_44 (hm 7 _ rfl) (zin_vp hy5) ?_
      obtain ⟨y6, hy6, hF⟩ := zh_let hF
      refine z_eqi hy6 ?_
      refine z_istore_n d_M_settle_45 rfl (by decide) (L2 := [(3, .int y6), (0, .ref (ad q)), (1, .int x1), (2, .int x2)]) rfl ?_
      refine z_aload_n d_M_settle_46 1 rfl rfl ?_
      refine z_getr d_M_settle_47 (q := (q + 7)) f_M_33 (hm 0 _ rfl) rfl ?_
      refine z_iload_n d_M_settle_50 2 rfl rfl ?_
      refine z_iload_n d_M_settle_51 3 rfl rfl ?_
      obtain ⟨hy7, hF⟩ := zh_if hF
      refine z_iast d_M_settle_52 (hm 7 _ rfl) (zin_vp hy7) ?_
      obtain ⟨μy8, hy8, hF⟩ := zh_let hF
      refine z_eqm hy8 ?_
      refine z_iload_n d_M_settle_53 0 rfl rfl ?_
      cases hF
      exact z_ireturn d_M_settle_54 rfl rfl ⟨rfl, rfl, rfl⟩
    · replace hF := zh_f cy4 hF
      exact z_M_settle_37 hm  hF
def e_M_settle_0 (q : Nat)  (x1 : Int32) (x2 : Int32) (μ : zI) (ν : zJ) : Option (Int32 × zI × zJ) := zlet (zu μ q 0 0) fun μy1 => (if x1 = 1 then e_M_settle_21 q x1 x2 μy1 ν else (if x1 < 4 then e_M_settle_37 q x1 x2 μy1 ν else (if 18 < x1 then e_M_settle_37 q x1 x2 μy1 ν else e_M_settle_21 q x1 x2 μy1 ν)))
theorem z_M_settle_0 {l : Launch} {D : va_G} {dA : Nat → ClassId} {ad : Nat → Nat} {sh : List zSE}  {q : Nat} (hm : zMo sh q)  {x1 : Int32} {x2 : Int32} {μ : zI} {ν : zJ} {out : (Int32 × zI × zJ)} (hF : e_M_settle_0 q  x1 x2 μ ν = some out) : Z l D dA ad sh m_M_settle (zR 1 0 0) (zS ad) (zOi out) 0 0 0 0 [] 0 [(0, .ref (ad q)), (1, .int x1), (2, .int x2)] [] μ ν := by
  unfold e_M_settle_0 at hF
  refine z_aload_n d_M_settle_0 0 rfl rfl ?_
  refine z_iconst d_M_settle_1 (v := 0) (by decide) ?_
  refine z_put d_M_settle_2 f_M_55 (hm 0 _ rfl) rfl (CL_fin _ _ (fun q hq => by cases hq; rfl)) rfl rfl ?_
  obtain ⟨μy1, hy1, hF⟩ := zh_let hF
  refine z_eqm hy1 ?_
  refine z_iload_n d_M_settle_5 1 rfl rfl ?_
  refine z_iconst d_M_settle_6 (v := 1) (by decide) ?_
  refine z_icmp_eq d_M_settle_7 (tgt := 21) (by decide) (fun cy2 => ?_) (fun cy2 => ?_)
  · replace hF := zh_t cy2 hF
    exact z_M_settle_21 hm  hF
  · replace hF := zh_f cy2 hF
    refine z_iload_n d_M_settle_10 1 rfl rfl ?_
    refine z_iconst d_M_settle_11 (v := 4) (by decide) ?_
    refine z_icmp_lt d_M_settle_12 (tgt := 37) (by decide) (fun cy3 => ?_) (fun cy3 => ?_)
    · replace hF := zh_t cy3 hF
      exact z_M_settle_37 hm  hF
    · replace hF := zh_f cy3 hF
      refine z_iload_n d_M_settle_15 1 rfl rfl ?_
      refine z_bipush d_M_settle_16 (v := 18) (by decide) ?_
      refine z_icmp_gt d_M_settle_18 (tgt := 37) (by decide) (fun cy4 => ?_) (fun cy4 => ?_)
      · replace hF := zh_t cy4 hF
        exact z_M_settle_37 hm  hF
      · replace hF := zh_f cy4 hF
        exact z_M_settle_21 hm  hF
def E_M_settle (q : Nat) (x1 : Int32) (x2 : Int32) (μ : zI) (ν : zJ) : Option (Int32 × zI × zJ) := e_M_settle_0 q x1 x2 μ ν
theorem c_M_settle {l : Launch} {D : va_G} {dA : Nat → ClassId} {ad : Nat → Nat} {sh : List zSE} {μ : zI} {ν : zJ} {q : Nat} {x1 : Int32} {x2 : Int32} (hm : zMo sh q) {out : (Int32 × zI × zJ)} (hE : E_M_settle q x1 x2 μ ν = some out) : zC l D dA ad sh m_M_settle 1 0 0 [.ref (ad q), .int x1, .int x2] μ ν (zOi out) :=
  zC.of (by decide) (Nat.le_of_ble_eq_true rfl) (z_M_settle_0 hm hE)
def e_M_module_0 (q : Nat)  (x1 : Int32) (x2 : Int32) (μ : zI) (ν : zJ) : Option (Int32 × zI × zJ) := zlet (zu μ q 0 0) fun μy1 => Option.bind (E_M_isModule q x1 μy1 ν) fun ty2 => (if ty2.1 = 0 then zlet (zu ty2.2.1 q 0 1) fun μy13 => some (0, μy13, ty2.2.2) else (if x2 = 0 then (if zin x1 12 = true then some ((ty2.2.1 (q + 4) (Int32.toNatClampNeg x1)), ty2.2.1, ty2.2.2) else none) else (if x2 = 1 then (if zin x1 12 = true then some ((ty2.2.1 (q + 5) (Int32.toNatClampNeg x1)), ty2.2.1, ty2.2.2) else none) else (if x2 = 2 then (if zin (19 + x1) 146 = true then some ((ty2.2.1 (q + 7) (Int32.toNatClampNeg (19 + x1))), ty2.2.1, ty2.2.2) else none) else (if x2 = 3 then Option.bind (E_M_litOf q x1 ty2.2.1 ty2.2.2) fun ty11 => some (ty11.1, ty11.2.1, ty11.2.2) else zlet (zu ty2.2.1 q 0 2) fun μy12 => some (0, μy12, ty2.2.2))))))
theorem z_M_module_0 {l : Launch} {D : va_G} {dA : Nat → ClassId} {ad : Nat → Nat} {sh : List zSE}  {q : Nat} (hm : zMo sh q)  {x1 : Int32} {x2 : Int32} {μ : zI} {ν : zJ} {out : (Int32 × zI × zJ)} (hF : e_M_module_0 q  x1 x2 μ ν = some out) : Z l D dA ad sh m_M_module (zR 1 0 0) (zS ad) (zOi out) 0 0 0 0 [] 0 [(0, .ref (ad q)), (1, .int x1), (2, .int x2)] [] μ ν := by
  unfold e_M_module_0 at hF
  refine z_aload_n d_M_module_0 0 rfl rfl ?_
  refine z_iconst d_M_module_1 (v := 0) (by decide) ?_
  refine z_put d_M_module_2 f_M_55 (hm 0 _ rfl) rfl (CL_fin _ _ (fun q hq => by cases hq; rfl)) rfl rfl ?_
  obtain ⟨μy1, hy1, hF⟩ := zh_let hF
  refine z_eqm hy1 ?_
  refine z_aload_n d_M_module_5 0 rfl rfl ?_
  refine z_iload_n d_M_module_6 1 rfl rfl ?_
  obtain ⟨ty2, hty2, hF⟩ := zh_bind hF
  refine z_callV d_M_module_7 (c_M_isModule hm hty2) mv_M_isModule l_M_265 (fun _ _ h => h) (hm 0 _ rfl) rfl rfl ⟨Nat.le_of_ble_eq_true rfl, Nat.le_of_ble_eq_true rfl⟩ ⟨Nat.le_of_ble_eq_true rfl, Nat.le_of_ble_eq_true rfl⟩ rfl (Nat.le_of_ble_eq_true rfl) (fun r μ' ν' hq => ?_)
  obtain ⟨rfl, rfl, rfl⟩ := hq
  show Z _ _ _ _ _ _ _ _ _ _ _ 0 0 _ _ _ [.int ty2.1] _ _
  refine z_if_ne d_M_module_10 (tgt := 20) (by decide) (fun cy3 => ?_) (fun cy3 => ?_)
  · replace hF := zh_f cy3 hF
    refine z_iload_n d_M_module_20 2 rfl rfl ?_
    by_cases cy4 : x2 = 0
    · replace hF := zh_t cy4 hF
      refine z_tabIn d_M_module_21 (tgt := 52) 0 cy4 (by decide) (by decide) (off := 31) (by decide) (by decide) ?_
      refine z_aload_n d_M_module_52 0 rfl rfl ?_
      refine z_getr d_M_module_53 (q := (q + 4)) f_M_20 (hm 0 _ rfl) rfl ?_
      refine z_iload_n d_M_module_56 1 rfl rfl ?_
      obtain ⟨hy8, hF⟩ := zh_if hF
      refine z_iald d_M_module_57 (hm 4 _ rfl) (zin_vp hy8) ?_
      cases hF
      exact z_ireturn d_M_module_58 rfl rfl ⟨rfl, rfl, rfl⟩
    · replace hF := zh_f cy4 hF
      by_cases cy5 : x2 = 1
      · replace hF := zh_t cy5 hF
        refine z_tabIn d_M_module_21 (tgt := 59) 1 cy5 (by decide) (by decide) (off := 38) (by decide) (by decide) ?_
        refine z_aload_n d_M_module_59 0 rfl rfl ?_
        refine z_getr d_M_module_60 (q := (q + 5)) f_M_23 (hm 0 _ rfl) rfl ?_
        refine z_iload_n d_M_module_63 1 rfl rfl ?_
        obtain ⟨hy9, hF⟩ := zh_if hF
        refine z_iald d_M_module_64 (hm 5 _ rfl) (zin_vp hy9) ?_
        cases hF
        exact z_ireturn d_M_module_65 rfl rfl ⟨rfl, rfl, rfl⟩
      · replace hF := zh_f cy5 hF
        by_cases cy6 : x2 = 2
        · replace hF := zh_t cy6 hF
          refine z_tabIn d_M_module_21 (tgt := 66) 2 cy6 (by decide) (by decide) (off := 45) (by decide) (by decide) ?_
          refine z_aload_n d_M_module_66 0 rfl rfl ?_
          refine z_getr d_M_module_67 (q := (q + 7)) f_M_33 (hm 0 _ rfl) rfl ?_
          refine z_bipush d_M_module_70 (v := 19) (by decide) ?_
          refine z_iload_n d_M_module_72 1 rfl rfl ?_
          refine z_iadd d_M_module_73 ?_
          obtain ⟨hy10, hF⟩ := zh_if hF
          refine z_iald d_M_module_74 (hm 7 _ rfl) (zin_vp hy10) ?_
          cases hF
          exact z_ireturn d_M_module_75 rfl rfl ⟨rfl, rfl, rfl⟩
        · replace hF := zh_f cy6 hF
          by_cases cy7 : x2 = 3
          · replace hF := zh_t cy7 hF
            refine z_tabIn d_M_module_21 (tgt := 76) 3 cy7 (by decide) (by decide) (off := 55) (by decide) (by decide) ?_
            refine z_aload_n d_M_module_76 0 rfl rfl ?_
            refine z_iload_n d_M_module_77 1 rfl rfl ?_
            obtain ⟨ty11, hty11, hF⟩ := zh_bind hF
            refine z_callV d_M_module_78 (c_M_litOf hm hty11) mv_M_litOf l_M_182 (fun _ _ h => h) (hm 0 _ rfl) rfl rfl ⟨Nat.le_of_ble_eq_true rfl, Nat.le_of_ble_eq_true rfl⟩ ⟨Nat.le_of_ble_eq_true rfl, Nat.le_of_ble_eq_true rfl⟩ rfl (Nat.le_of_ble_eq_true rfl) (fun r μ' ν' hq => ?_)
            obtain ⟨rfl, rfl, rfl⟩ := hq
            show Z _ _ _ _ _ _ _ _ _ _ _ 0 0 _ _ _ [.int ty11.1] _ _
            cases hF
            exact z_ireturn d_M_module_81 rfl rfl ⟨rfl, rfl, rfl⟩
          · replace hF := zh_f cy7 hF
            refine z_tabOut d_M_module_21 (tgt := 82) [0, 1, 2, 3] (List.forall_mem_cons.mpr ⟨cy4, List.forall_mem_cons.mpr ⟨cy5, List.forall_mem_cons.mpr ⟨cy6, List.forall_mem_cons.mpr ⟨cy7, fun _ h => absurd h List.not_mem_nil⟩⟩⟩⟩) (by decide) (by decide) ?_
            refine z_aload_n d_M_module_82 0 rfl rfl ?_
            refine z_iconst d_M_module_83 (v := 2) (by decide) ?_
            refine z_put d_M_module_84 f_M_55 (hm 0 _ rfl) rfl (CL_fin _ _ (fun q hq => by cases hq; rfl)) rfl rfl ?_
            obtain ⟨μy12, hy12, hF⟩ := zh_let hF
            refine z_eqm hy12 ?_
            refine z_iconst d_M_module_87 (v := 0) (by decide) ?_
            cases hF
            exact z_ireturn d_M_module_88 rfl rfl ⟨rfl, rfl, rfl⟩
  · replace hF := zh_t cy3 hF
    refine z_aload_n d_M_module_13 0 rfl rfl ?_
    refine z_iconst d_M_module_14 (v := 1) (by decide) ?_
    refine z_put d_M_module_15 f_M_55 (hm 0 _ rfl) rfl (CL_fin _ _ (fun q hq => by cases hq; rfl)) rfl rfl ?_
    obtain ⟨μy13, hy13, hF⟩ := zh_let hF
    refine z_eqm hy13 ?_
    refine z_iconst d_M_module_18 (v := 0) (by decide) ?_
    cases hF
    exact z_ireturn d_M_module_19 rfl rfl ⟨rfl, rfl, rfl⟩
def E_M_module (q : Nat) (x1 : Int32) (x2 : Int32) (μ : zI) (ν : zJ) : Option (Int32 × zI × zJ) := e_M_module_0 q x1 x2 μ ν
theorem c_M_module {l : Launch} {D : va_G} {dA : Nat → ClassId} {ad : Nat → Nat} {sh : List zSE} {μ : zI} {ν : zJ} {q : Nat} {x1 : Int32} {x2 : Int32} (hm : zMo sh q) {out : (Int32 × zI × zJ)} (hE : E_M_module q x1 x2 μ ν = some out) : zC l D dA ad sh m_M_module 1 0 0 [.ref (ad q), .int x1, .int x2] μ ν (zOi out) :=
  zC.of (by decide) (Nat.le_of_ble_eq_true rfl) (z_M_module_0 hm hE)
def e_M_isPoint_16   (x0 : Int32) (s0 : Int32) (μ : zI) (ν : zJ) : Option (Int32 × zI × zJ) := (if zb s0 = true then some (s0, μ, ν) else none)
theorem z_M_isPoint_16 {l : Launch} {D : va_G} {dA : Nat → ClassId} {ad : Nat → Nat} {sh : List zSE}    {x0 : Int32} {s0 : Int32} {μ : zI} {ν : zJ} {out : (Int32 × zI × zJ)} (hF : e_M_isPoint_16   x0 s0 μ ν = some out) : Z l D dA ad sh m_M_isPoint (zR 0 0 0) (zS ad) (zOi out) 0 0 0 0 [] 16 [(0, .int x0)] [.int s0] μ ν := by
  unfold e_M_isPoint_16 at hF
  obtain ⟨hy1, hF⟩ := zh_if hF
  cases hF
  exact z_ireturn d_M_isPoint_16 rfl (zb_n hy1) ⟨rfl, rfl, rfl⟩
def e_M_isPoint_15   (x0 : Int32) (μ : zI) (ν : zJ) : Option (Int32 × zI × zJ) := e_M_isPoint_16 x0 0 μ ν
theorem z_M_isPoint_15 {l : Launch} {D : va_G} {dA : Nat → ClassId} {ad : Nat → Nat} {sh : List zSE}    {x0 : Int32} {μ : zI} {ν : zJ} {out : (Int32 × zI × zJ)} (hF : e_M_isPoint_15   x0 μ ν = some out) : Z l D dA ad sh m_M_isPoint (zR 0 0 0) (zS ad) (zOi out) 0 0 0 0 [] 15 [(0, .int x0)] [] μ ν := by
  unfold e_M_isPoint_15 at hF
  refine z_iconst d_M_isPoint_15 (v := 0) (by decide) ?_
  exact z_M_isPoint_16   hF
def e_M_isPoint_0   (x0 : Int32) (μ : zI) (ν : zJ) : Option (Int32 × zI × zJ) := (if x0 < 0 then e_M_isPoint_15 x0 μ ν else (if 1000 ≤ x0 then e_M_isPoint_15 x0 μ ν else e_M_isPoint_16 x0 1 μ ν))
theorem z_M_isPoint_0 {l : Launch} {D : va_G} {dA : Nat → ClassId} {ad : Nat → Nat} {sh : List zSE}    {x0 : Int32} {μ : zI} {ν : zJ} {out : (Int32 × zI × zJ)} (hF : e_M_isPoint_0   x0 μ ν = some out) : Z l D dA ad sh m_M_isPoint (zR 0 0 0) (zS ad) (zOi out) 0 0 0 0 [] 0 [(0, .int x0)] [] μ ν := by
  unfold e_M_isPoint_0 at hF
  refine z_iload_n d_M_isPoint_0 0 rfl rfl ?_
  refine z_if_lt d_M_isPoint_1 (tgt := 15) (by decide) (fun cy1 => ?_) (fun cy1 => ?_)
  · replace hF := zh_t cy1 hF
    exact z_M_isPoint_15   hF
  · replace hF := zh_f cy1 hF
    refine z_iload_n d_M_isPoint_4 0 rfl rfl ?_
    refine z_sipush d_M_isPoint_5 (v := 1000) (by decide) ?_
    refine z_icmp_ge d_M_isPoint_8 (tgt := 15) (by decide) (fun cy2 => ?_) (fun cy2 => ?_)
    · replace hF := zh_t cy2 hF
      exact z_M_isPoint_15   hF
    · replace hF := zh_f cy2 hF
      refine z_iconst d_M_isPoint_11 (v := 1) (by decide) ?_
      refine z_goto d_M_isPoint_12 (tgt := 16) (by decide) ?_
      exact z_M_isPoint_16   hF
def E_M_isPoint  (x0 : Int32) (μ : zI) (ν : zJ) : Option (Int32 × zI × zJ) := e_M_isPoint_0 x0 μ ν
theorem c_M_isPoint {l : Launch} {D : va_G} {dA : Nat → ClassId} {ad : Nat → Nat} {sh : List zSE} {μ : zI} {ν : zJ} {x0 : Int32}  {out : (Int32 × zI × zJ)} (hE : E_M_isPoint x0 μ ν = some out) : zC l D dA ad sh m_M_isPoint 0 0 0 [.int x0] μ ν (zOi out) :=
  zC.of (by decide) (Nat.le_of_ble_eq_true rfl) (z_M_isPoint_0  hE)
def e_M_volts_21 (q : Nat)  (x1 : Int32) (s0 : Int32) (μ : zI) (ν : zJ) : Option (Int32 × zI × zJ) := some (s0, μ, ν)
theorem z_M_volts_21 {l : Launch} {D : va_G} {dA : Nat → ClassId} {ad : Nat → Nat} {sh : List zSE}  {q : Nat} (hm : zMo sh q)  {x1 : Int32} {s0 : Int32} {μ : zI} {ν : zJ} {out : (Int32 × zI × zJ)} (hF : e_M_volts_21 q  x1 s0 μ ν = some out) : Z l D dA ad sh m_M_volts (zR 2 0 0) (zS ad) (zOi out) 0 0 0 0 [] 21 [(0, .ref (ad q)), (1, .int x1)] [.int s0] μ ν := by
  unfold e_M_volts_21 at hF
  cases hF
  exact z_ireturn d_M_volts_21 rfl rfl ⟨rfl, rfl, rfl⟩
def e_M_volts_0 (q : Nat)  (x1 : Int32) (μ : zI) (ν : zJ) : Option (Int32 × zI × zJ) := zlet (zu μ q 0 0) fun μy1 => Option.bind (E_M_isPoint x1 μy1 ν) fun ty2 => (if ty2.1 = 0 then e_M_volts_21 q x1 (-1) ty2.2.1 ty2.2.2 else Option.bind (E_M_voltsAt q x1 ty2.2.1 ty2.2.2) fun ty4 => e_M_volts_21 q x1 ty4.1 ty4.2.1 ty4.2.2)
theorem z_M_volts_0 {l : Launch} {D : va_G} {dA : Nat → ClassId} {ad : Nat → Nat} {sh : List zSE}  {q : Nat} (hm : zMo sh q)  {x1 : Int32} {μ : zI} {ν : zJ} {out : (Int32 × zI × zJ)} (hF : e_M_volts_0 q  x1 μ ν = some out) : Z l D dA ad sh m_M_volts (zR 2 0 0) (zS ad) (zOi out) 0 0 0 0 [] 0 [(0, .ref (ad q)), (1, .int x1)] [] μ ν := by
  unfold e_M_volts_0 at hF
  refine z_aload_n d_M_volts_0 0 rfl rfl ?_
  refine z_iconst d_M_volts_1 (v := 0) (by decide) ?_
  refine z_put d_M_volts_2 f_M_55 (hm 0 _ rfl) rfl (CL_fin _ _ (fun q hq => by cases hq; rfl)) rfl rfl ?_
  obtain ⟨μy1, hy1, hF⟩ := zh_let hF
  refine z_eqm hy1 ?_
  refine z_iload_n d_M_volts_5 1 rfl rfl ?_
  obtain ⟨ty2, hty2, hF⟩ := zh_bind hF
  refine z_callS d_M_volts_6 (c_M_isPoint  hty2) ms_M_isPoint l_M_268 (fun _ _ h => h) rfl ⟨Nat.le_of_ble_eq_true rfl, Nat.le_of_ble_eq_true rfl⟩ ⟨Nat.le_of_ble_eq_true rfl, Nat.le_of_ble_eq_true rfl⟩ rfl (Nat.le_of_ble_eq_true rfl) (fun r μ' ν' hq => ?_)
  obtain ⟨rfl, rfl, rfl⟩ := hq
  show Z _ _ _ _ _ _ _ _ _ _ _ 0 0 _ _ _ [.int ty2.1] _ _
  refine z_if_eq d_M_volts_9 (tgt := 20) (by decide) (fun cy3 => ?_) (fun cy3 => ?_)
  · replace hF := zh_t cy3 hF
    refine z_iconst d_M_volts_20 (v := (-1)) (by decide) ?_
    exact z_M_volts_21 hm  hF
  · replace hF := zh_f cy3 hF
    refine z_aload_n d_M_volts_12 0 rfl rfl ?_
    refine z_iload_n d_M_volts_13 1 rfl rfl ?_
    obtain ⟨ty4, hty4, hF⟩ := zh_bind hF
    refine z_callV d_M_volts_14 (c_M_voltsAt hm hty4) mv_M_voltsAt l_M_185 (fun _ _ h => h) (hm 0 _ rfl) rfl rfl ⟨Nat.le_of_ble_eq_true rfl, Nat.le_of_ble_eq_true rfl⟩ ⟨Nat.le_of_ble_eq_true rfl, Nat.le_of_ble_eq_true rfl⟩ rfl (Nat.le_of_ble_eq_true rfl) (fun r μ' ν' hq => ?_)
    obtain ⟨rfl, rfl, rfl⟩ := hq
    show Z _ _ _ _ _ _ _ _ _ _ _ 0 0 _ _ _ [.int ty4.1] _ _
    refine z_goto d_M_volts_17 (tgt := 21) (by decide) ?_
    exact z_M_volts_21 hm  hF
def E_M_volts (q : Nat) (x1 : Int32) (μ : zI) (ν : zJ) : Option (Int32 × zI × zJ) := e_M_volts_0 q x1 μ ν
theorem c_M_volts {l : Launch} {D : va_G} {dA : Nat → ClassId} {ad : Nat → Nat} {sh : List zSE} {μ : zI} {ν : zJ} {q : Nat} {x1 : Int32} (hm : zMo sh q) {out : (Int32 × zI × zJ)} (hE : E_M_volts q x1 μ ν = some out) : zC l D dA ad sh m_M_volts 2 0 0 [.ref (ad q), .int x1] μ ν (zOi out) :=
  zC.of (by decide) (Nat.le_of_ble_eq_true rfl) (z_M_volts_0 hm hE)
def e_M_power_21 (q : Nat)  (x1 : Int32) (s0 : Int32) (μ : zI) (ν : zJ) : Option (Int32 × zI × zJ) := some (s0, μ, ν)
theorem z_M_power_21 {l : Launch} {D : va_G} {dA : Nat → ClassId} {ad : Nat → Nat} {sh : List zSE}  {q : Nat} (hm : zMo sh q)  {x1 : Int32} {s0 : Int32} {μ : zI} {ν : zJ} {out : (Int32 × zI × zJ)} (hF : e_M_power_21 q  x1 s0 μ ν = some out) : Z l D dA ad sh m_M_power (zR 3 0 0) (zS ad) (zOi out) 0 0 0 0 [] 21 [(0, .ref (ad q)), (1, .int x1)] [.int s0] μ ν := by
  unfold e_M_power_21 at hF
  cases hF
  exact z_ireturn d_M_power_21 rfl rfl ⟨rfl, rfl, rfl⟩
def e_M_power_0 (q : Nat)  (x1 : Int32) (μ : zI) (ν : zJ) : Option (Int32 × zI × zJ) := zlet (zu μ q 0 0) fun μy1 => Option.bind (E_M_isPoint x1 μy1 ν) fun ty2 => (if ty2.1 = 0 then e_M_power_21 q x1 (-1) ty2.2.1 ty2.2.2 else Option.bind (E_M_powerAt q x1 ty2.2.1 ty2.2.2) fun ty4 => e_M_power_21 q x1 ty4.1 ty4.2.1 ty4.2.2)
theorem z_M_power_0 {l : Launch} {D : va_G} {dA : Nat → ClassId} {ad : Nat → Nat} {sh : List zSE}  {q : Nat} (hm : zMo sh q)  {x1 : Int32} {μ : zI} {ν : zJ} {out : (Int32 × zI × zJ)} (hF : e_M_power_0 q  x1 μ ν = some out) : Z l D dA ad sh m_M_power (zR 3 0 0) (zS ad) (zOi out) 0 0 0 0 [] 0 [(0, .ref (ad q)), (1, .int x1)] [] μ ν := by
  unfold e_M_power_0 at hF
  refine z_aload_n d_M_power_0 0 rfl rfl ?_
  refine z_iconst d_M_power_1 (v := 0) (by decide) ?_
  refine z_put d_M_power_2 f_M_55 (hm 0 _ rfl) rfl (CL_fin _ _ (fun q hq => by cases hq; rfl)) rfl rfl ?_
  obtain ⟨μy1, hy1, hF⟩ := zh_let hF
  refine z_eqm hy1 ?_
  refine z_iload_n d_M_power_5 1 rfl rfl ?_
  obtain ⟨ty2, hty2, hF⟩ := zh_bind hF
  refine z_callS d_M_power_6 (c_M_isPoint  hty2) ms_M_isPoint l_M_268 (fun _ _ h => h) rfl ⟨Nat.le_of_ble_eq_true rfl, Nat.le_of_ble_eq_true rfl⟩ ⟨Nat.le_of_ble_eq_true rfl, Nat.le_of_ble_eq_true rfl⟩ rfl (Nat.le_of_ble_eq_true rfl) (fun r μ' ν' hq => ?_)
  obtain ⟨rfl, rfl, rfl⟩ := hq
  show Z _ _ _ _ _ _ _ _ _ _ _ 0 0 _ _ _ [.int ty2.1] _ _
  refine z_if_eq d_M_power_9 (tgt := 20) (by decide) (fun cy3 => ?_) (fun cy3 => ?_)
  · replace hF := zh_t cy3 hF
    refine z_iconst d_M_power_20 (v := (-1)) (by decide) ?_
    exact z_M_power_21 hm  hF
  · replace hF := zh_f cy3 hF
    refine z_aload_n d_M_power_12 0 rfl rfl ?_
    refine z_iload_n d_M_power_13 1 rfl rfl ?_
    obtain ⟨ty4, hty4, hF⟩ := zh_bind hF
    refine z_callV d_M_power_14 (c_M_powerAt hm hty4) mv_M_powerAt l_M_188 (fun _ _ h => h) (hm 0 _ rfl) rfl rfl ⟨Nat.le_of_ble_eq_true rfl, Nat.le_of_ble_eq_true rfl⟩ ⟨Nat.le_of_ble_eq_true rfl, Nat.le_of_ble_eq_true rfl⟩ rfl (Nat.le_of_ble_eq_true rfl) (fun r μ' ν' hq => ?_)
    obtain ⟨rfl, rfl, rfl⟩ := hq
    show Z _ _ _ _ _ _ _ _ _ _ _ 0 0 _ _ _ [.int ty4.1] _ _
    refine z_goto d_M_power_17 (tgt := 21) (by decide) ?_
    exact z_M_power_21 hm  hF
def E_M_power (q : Nat) (x1 : Int32) (μ : zI) (ν : zJ) : Option (Int32 × zI × zJ) := e_M_power_0 q x1 μ ν
theorem c_M_power {l : Launch} {D : va_G} {dA : Nat → ClassId} {ad : Nat → Nat} {sh : List zSE} {μ : zI} {ν : zJ} {q : Nat} {x1 : Int32} (hm : zMo sh q) {out : (Int32 × zI × zJ)} (hE : E_M_power q x1 μ ν = some out) : zC l D dA ad sh m_M_power 3 0 0 [.ref (ad q), .int x1] μ ν (zOi out) :=
  zC.of (by decide) (Nat.le_of_ble_eq_true rfl) (z_M_power_0 hm hE)
def e_M_slope_35 (q : Nat)  (x1 : Int32) (s0 : Int32) (μ : zI) (ν : zJ) : Option (Int32 × zI × zJ) := some (s0, μ, ν)
theorem z_M_slope_35 {l : Launch} {D : va_G} {dA : Nat → ClassId} {ad : Nat → Nat} {sh : List zSE}  {q : Nat} (hm : zMo sh q)  {x1 : Int32} {s0 : Int32} {μ : zI} {ν : zJ} {out : (Int32 × zI × zJ)} (hF : e_M_slope_35 q  x1 s0 μ ν = some out) : Z l D dA ad sh m_M_slope (zR 3 0 0) (zS ad) (zOi out) 0 0 0 0 [] 35 [(0, .ref (ad q)), (1, .int x1)] [.int s0] μ ν := by
  unfold e_M_slope_35 at hF
  cases hF
  exact z_ireturn d_M_slope_35 rfl rfl ⟨rfl, rfl, rfl⟩
def e_M_slope_32 (q : Nat)  (x1 : Int32) (μ : zI) (ν : zJ) : Option (Int32 × zI × zJ) := e_M_slope_35 q x1 (-9999999) μ ν
theorem z_M_slope_32 {l : Launch} {D : va_G} {dA : Nat → ClassId} {ad : Nat → Nat} {sh : List zSE}  {q : Nat} (hm : zMo sh q)  {x1 : Int32} {μ : zI} {ν : zJ} {out : (Int32 × zI × zJ)} (hF : e_M_slope_32 q  x1 μ ν = some out) : Z l D dA ad sh m_M_slope (zR 3 0 0) (zS ad) (zOi out) 0 0 0 0 [] 32 [(0, .ref (ad q)), (1, .int x1)] [] μ ν := by
  unfold e_M_slope_32 at hF
  refine z_ldcw d_M_slope_32 k_M_271 ?_
  exact z_M_slope_35 hm  hF
def e_M_slope_0 (q : Nat)  (x1 : Int32) (μ : zI) (ν : zJ) : Option (Int32 × zI × zJ) := zlet (zu μ q 0 0) fun μy1 => (if x1 < 0 then e_M_slope_32 q x1 μy1 ν else (if 999 ≤ x1 then e_M_slope_32 q x1 μy1 ν else Option.bind (E_M_powerAt q (x1 + 1) μy1 ν) fun ty4 => Option.bind (E_M_powerAt q x1 ty4.2.1 ty4.2.2) fun ty5 => e_M_slope_35 q x1 (ty4.1 - ty5.1) ty5.2.1 ty5.2.2))
theorem z_M_slope_0 {l : Launch} {D : va_G} {dA : Nat → ClassId} {ad : Nat → Nat} {sh : List zSE}  {q : Nat} (hm : zMo sh q)  {x1 : Int32} {μ : zI} {ν : zJ} {out : (Int32 × zI × zJ)} (hF : e_M_slope_0 q  x1 μ ν = some out) : Z l D dA ad sh m_M_slope (zR 3 0 0) (zS ad) (zOi out) 0 0 0 0 [] 0 [(0, .ref (ad q)), (1, .int x1)] [] μ ν := by
  unfold e_M_slope_0 at hF
  refine z_aload_n d_M_slope_0 0 rfl rfl ?_
  refine z_iconst d_M_slope_1 (v := 0) (by decide) ?_
  refine z_put d_M_slope_2 f_M_55 (hm 0 _ rfl) rfl (CL_fin _ _ (fun q hq => by cases hq; rfl)) rfl rfl ?_
  obtain ⟨μy1, hy1, hF⟩ := zh_let hF
  refine z_eqm hy1 ?_
  refine z_iload_n d_M_slope_5 1 rfl rfl ?_
  refine z_if_lt d_M_slope_6 (tgt := 32) (by decide) (fun cy2 => ?_) (fun cy2 => ?_)
  · replace hF := zh_t cy2 hF
    exact z_M_slope_32 hm  hF
  · replace hF := zh_f cy2 hF
    refine z_iload_n d_M_slope_9 1 rfl rfl ?_
    refine z_sipush d_M_slope_10 (v := 999) (by decide) ?_
    refine z_icmp_ge d_M_slope_13 (tgt := 32) (by decide) (fun cy3 => ?_) (fun cy3 => ?_)
    · replace hF := zh_t cy3 hF
      exact z_M_slope_32 hm  hF
    · replace hF := zh_f cy3 hF
      refine z_aload_n d_M_slope_16 0 rfl rfl ?_
      refine z_iload_n d_M_slope_17 1 rfl rfl ?_
      refine z_iconst d_M_slope_18 (v := 1) (by decide) ?_
      refine z_iadd d_M_slope_19 ?_
      obtain ⟨ty4, hty4, hF⟩ := zh_bind hF
      refine z_callV d_M_slope_20 (c_M_powerAt hm hty4) mv_M_powerAt l_M_188 (fun _ _ h => h) (hm 0 _ rfl) rfl rfl ⟨Nat.le_of_ble_eq_true rfl, Nat.le_of_ble_eq_true rfl⟩ ⟨Nat.le_of_ble_eq_true rfl, Nat.le_of_ble_eq_true rfl⟩ rfl (Nat.le_of_ble_eq_true rfl) (fun r μ' ν' hq => ?_)
      obtain ⟨rfl, rfl, rfl⟩ := hq
      show Z _ _ _ _ _ _ _ _ _ _ _ 0 0 _ _ _ [.int ty4.1] _ _
      refine z_aload_n d_M_slope_23 0 rfl rfl ?_
      refine z_iload_n d_M_slope_24 1 rfl rfl ?_
      obtain ⟨ty5, hty5, hF⟩ := zh_bind hF
      refine z_callV d_M_slope_25 (c_M_powerAt hm hty5) mv_M_powerAt l_M_188 (fun _ _ h => h) (hm 0 _ rfl) rfl rfl ⟨Nat.le_of_ble_eq_true rfl, Nat.le_of_ble_eq_true rfl⟩ ⟨Nat.le_of_ble_eq_true rfl, Nat.le_of_ble_eq_true rfl⟩ rfl (Nat.le_of_ble_eq_true rfl) (fun r μ' ν' hq => ?_)
      obtain ⟨rfl, rfl, rfl⟩ := hq
      show Z _ _ _ _ _ _ _ _ _ _ _ 0 0 _ _ _ [.int ty5.1, .int ty4.1] _ _
      refine z_isub d_M_slope_28 ?_
      refine z_goto d_M_slope_29 (tgt := 35) (by decide) ?_
      exact z_M_slope_35 hm  hF
def E_M_slope (q : Nat) (x1 : Int32) (μ : zI) (ν : zJ) : Option (Int32 × zI × zJ) := e_M_slope_0 q x1 μ ν
theorem c_M_slope {l : Launch} {D : va_G} {dA : Nat → ClassId} {ad : Nat → Nat} {sh : List zSE} {μ : zI} {ν : zJ} {q : Nat} {x1 : Int32} (hm : zMo sh q) {out : (Int32 × zI × zJ)} (hE : E_M_slope q x1 μ ν = some out) : zC l D dA ad sh m_M_slope 3 0 0 [.ref (ad q), .int x1] μ ν (zOi out) :=
  zC.of (by decide) (Nat.le_of_ble_eq_true rfl) (z_M_slope_0 hm hE)
def e_M_topsTo_130 (q : Nat) (r4 : Int32 → Int32 → Int32 → zI → zJ → Option (Int32 × zI × zJ)) (x1 : Int32) (x2 : Int32) (x3 : Int32) (x4 : Int32) (x5 : Int32) (x6 : Int32) (s0 : Int32) (s1 : Int32) (μ : zI) (ν : zJ) : Option (Int32 × zI × zJ) := zlet (α := Int32) (s0 + s1) fun y1 => zlet (α := Int32) (x5 + 1) fun y2 => r4 x1 y1 y2 μ ν
theorem z_M_topsTo_130 {l : Launch} {D : va_G} {dA : Nat → ClassId} {ad : Nat → Nat} {sh : List zSE}  {q : Nat} (hm : zMo sh q) {r4 : Int32 → Int32 → Int32 → zI → zJ → Option (Int32 × zI × zJ)} {x1 : Int32} {x2 : Int32} {x3 : Int32} {x4 : Int32} {x5 : Int32} {x6 : Int32} {s0 : Int32} {s1 : Int32} {μ : zI} {ν : zJ} {out : (Int32 × zI × zJ)} (hr4 : ∀ (x1 : Int32) (x2 : Int32) (x3 : Int32) (μ : zI) (ν : zJ), r4 x1 x2 x3 μ ν = some out → Z l D dA ad sh m_M_topsTo (zR 3 0 0) (zS ad) (zOi out) 0 0 0 0 [] 4 [(0, .ref (ad q)), (1, .int x1), (2, .int x2), (3, .int x3)] [] μ ν) (hF : e_M_topsTo_130 q r4 x1 x2 x3 x4 x5 x6 s0 s1 μ ν = some out) : Z l D dA ad sh m_M_topsTo (zR 3 0 0) (zS ad) (zOi out) 0 0 0 0 [] 130 [(0, .ref (ad q)), (1, .int x1), (2, .int x2), (3, .int x3), (4, .int x4), (5, .int x5), (6, .int x6)] [.int s1, .int s0] μ ν := by
  unfold e_M_topsTo_130 at hF
  refine z_iadd d_M_topsTo_130 ?_
  obtain ⟨y1, hy1, hF⟩ := zh_let hF
  refine z_eqi hy1 ?_
  refine z_istore_n d_M_topsTo_131 rfl (by decide) (L2 := [(2, .int y1), (0, .ref (ad q)), (1, .int x1), (3, .int x3), (4, .int x4), (5, .int x5), (6, .int x6)]) rfl ?_
  refine z_iload d_M_topsTo_132 5 rfl ?_
  refine z_iconst d_M_topsTo_134 (v := 1) (by decide) ?_
  refine z_iadd d_M_topsTo_135 ?_
  obtain ⟨y2, hy2, hF⟩ := zh_let hF
  refine z_eqi hy2 ?_
  refine z_istore_n d_M_topsTo_136 rfl (by decide) (L2 := [(3, .int y2), (2, .int y1), (0, .ref (ad q)), (1, .int x1), (4, .int x4), (5, .int x5), (6, .int x6)]) rfl ?_
  refine z_goto d_M_topsTo_137 (tgt := 4) (by decide) ?_
  refine z_sub [2, 3, 1, 0] (L' := [(0, .ref (ad q)), (1, .int x1), (2, .int y1), (3, .int y2)]) rfl ?_
  exact hr4 _ _ _ _ _ hF
def e_M_topsTo_119 (q : Nat) (r4 : Int32 → Int32 → Int32 → zI → zJ → Option (Int32 × zI × zJ)) (x1 : Int32) (x2 : Int32) (x3 : Int32) (x4 : Int32) (x5 : Int32) (x6 : Int32) (μ : zI) (ν : zJ) : Option (Int32 × zI × zJ) := (if x6 = 0 then e_M_topsTo_130 q r4 x1 x2 x3 x4 x5 x6 x2 0 μ ν else e_M_topsTo_130 q r4 x1 x2 x3 x4 x5 x6 x2 1 μ ν)
theorem z_M_topsTo_119 {l : Launch} {D : va_G} {dA : Nat → ClassId} {ad : Nat → Nat} {sh : List zSE}  {q : Nat} (hm : zMo sh q) {r4 : Int32 → Int32 → Int32 → zI → zJ → Option (Int32 × zI × zJ)} {x1 : Int32} {x2 : Int32} {x3 : Int32} {x4 : Int32} {x5 : Int32} {x6 : Int32} {μ : zI} {ν : zJ} {out : (Int32 × zI × zJ)} (hr4 : ∀ (x1 : Int32) (x2 : Int32) (x3 : Int32) (μ : zI) (ν : zJ), r4 x1 x2 x3 μ ν = some out → Z l D dA ad sh m_M_topsTo (zR 3 0 0) (zS ad) (zOi out) 0 0 0 0 [] 4 [(0, .ref (ad q)), (1, .int x1), (2, .int x2), (3, .int x3)] [] μ ν) (hF : e_M_topsTo_119 q r4 x1 x2 x3 x4 x5 x6 μ ν = some out) : Z l D dA ad sh m_M_topsTo (zR 3 0 0) (zS ad) (zOi out) 0 0 0 0 [] 119 [(0, .ref (ad q)), (1, .int x1), (2, .int x2), (3, .int x3), (4, .int x4), (5, .int x5), (6, .int x6)] [] μ ν := by
  unfold e_M_topsTo_119 at hF
  refine z_iload_n d_M_topsTo_119 2 rfl rfl ?_
  refine z_iload d_M_topsTo_120 6 rfl ?_
  refine z_if_eq d_M_topsTo_122 (tgt := 129) (by decide) (fun cy1 => ?_) (fun cy1 => ?_)
  · replace hF := zh_t cy1 hF
    refine z_iconst d_M_topsTo_129 (v := 0) (by decide) ?_
    exact z_M_topsTo_130 hm hr4 hF
  · replace hF := zh_f cy1 hF
    refine z_iconst d_M_topsTo_125 (v := 1) (by decide) ?_
    refine z_goto d_M_topsTo_126 (tgt := 130) (by decide) ?_
    exact z_M_topsTo_130 hm hr4 hF
def e_M_topsTo_88 (q : Nat) (r4 : Int32 → Int32 → Int32 → zI → zJ → Option (Int32 × zI × zJ)) (x1 : Int32) (x2 : Int32) (x3 : Int32) (x4 : Int32) (x5 : Int32) (s0 : Int32) (μ : zI) (ν : zJ) : Option (Int32 × zI × zJ) := (if s0 = 0 then e_M_topsTo_119 q r4 x1 x2 x3 x4 x5 s0 μ ν else (if x2 = x1 then zlet (zu μ q 33 x3) fun μy3 => zlet (zu μy3 q 34 ((x5 - x3) + 1)) fun μy4 => some ((x2 + 1), μy4, ν) else e_M_topsTo_119 q r4 x1 x2 x3 x4 x5 s0 μ ν))
theorem z_M_topsTo_88 {l : Launch} {D : va_G} {dA : Nat → ClassId} {ad : Nat → Nat} {sh : List zSE}  {q : Nat} (hm : zMo sh q) {r4 : Int32 → Int32 → Int32 → zI → zJ → Option (Int32 × zI × zJ)} {x1 : Int32} {x2 : Int32} {x3 : Int32} {x4 : Int32} {x5 : Int32} {s0 : Int32} {μ : zI} {ν : zJ} {out : (Int32 × zI × zJ)} (hr4 : ∀ (x1 : Int32) (x2 : Int32) (x3 : Int32) (μ : zI) (ν : zJ), r4 x1 x2 x3 μ ν = some out → Z l D dA ad sh m_M_topsTo (zR 3 0 0) (zS ad) (zOi out) 0 0 0 0 [] 4 [(0, .ref (ad q)), (1, .int x1), (2, .int x2), (3, .int x3)] [] μ ν) (hF : e_M_topsTo_88 q r4 x1 x2 x3 x4 x5 s0 μ ν = some out) : Z l D dA ad sh m_M_topsTo (zR 3 0 0) (zS ad) (zOi out) 0 0 0 0 [] 88 [(0, .ref (ad q)), (1, .int x1), (2, .int x2), (3, .int x3), (4, .int x4), (5, .int x5)] [.int s0] μ ν := by
  unfold e_M_topsTo_88 at hF
  refine z_istore d_M_topsTo_88 (by decide) (L2 := [(6, .int s0), (0, .ref (ad q)), (1, .int x1), (2, .int x2), (3, .int x3), (4, .int x4), (5, .int x5)]) rfl ?_
  refine z_iload d_M_topsTo_90 0 rfl ?_
  refine z_if_eq d_M_topsTo_92 (tgt := 119) (by decide) (fun cy1 => ?_) (fun cy1 => ?_)
  · replace hF := zh_t cy1 hF
    refine z_sub [1, 2, 3, 4, 5, 6, 0] (L' := [(0, .ref (ad q)), (1, .int x1), (2, .int x2), (3, .int x3), (4, .int x4), (5, .int x5), (6, .int s0)]) rfl ?_
    exact z_M_topsTo_119 hm hr4 hF
  · replace hF := zh_f cy1 hF
    refine z_iload_n d_M_topsTo_95 3 rfl rfl ?_
    refine z_iload_n d_M_topsTo_96 2 rfl rfl ?_
    refine z_icmp_ne d_M_topsTo_97 (tgt := 119) (by decide) (fun cy2 => ?_) (fun cy2 => ?_)
    · replace hF := zh_f cy2 hF
      refine z_sub [1, 2, 3, 4, 5, 6, 0] (L' := [(0, .ref (ad q)), (1, .int x1), (2, .int x2), (3, .int x3), (4, .int x4), (5, .int x5), (6, .int s0)]) rfl ?_
      exact z_M_topsTo_119 hm hr4 hF
    · replace hF := zh_t cy2 hF
      refine z_aload_n d_M_topsTo_100 1 rfl rfl ?_
      refine z_iload_n d_M_topsTo_101 4 rfl rfl ?_
      refine z_put d_M_topsTo_102 f_M_272 (hm 0 _ rfl) rfl (CL_fin _ _ (fun q hq => by cases hq; rfl)) rfl rfl ?_
      obtain ⟨μy3, hy3, hF⟩ := zh_let hF
      refine z_eqm hy3 ?_
      refine z_aload_n d_M_topsTo_105 1 rfl rfl ?_
      refine z_iload d_M_topsTo_106 6 rfl ?_
      refine z_iload_n d_M_topsTo_108 4 rfl rfl ?_
      refine z_isub d_M_topsTo_109 ?_
      refine z_iconst d_M_topsTo_110 (v := 1) (by decide) ?_
      refine z_iadd d_M_topsTo_111 ?_
      refine z_put d_M_topsTo_112 f_M_275 (hm 0 _ rfl) rfl (CL_fin _ _ (fun q hq => by cases hq; rfl)) rfl rfl ?_
      obtain ⟨μy4, hy4, hF⟩ := zh_let hF
      refine z_eqm hy4 ?_
      refine z_iload_n d_M_topsTo_115 3 rfl rfl ?_
      refine z_iconst d_M_topsTo_116 (v := 1) (by decide) ?_
      refine z_iadd d_M_topsTo_117 ?_
      cases hF
      exact z_ireturn d_M_topsTo_118 rfl rfl ⟨rfl, rfl, rfl⟩
def e_M_topsTo_83 (q : Nat) (r4 : Int32 → Int32 → Int32 → zI → zJ → Option (Int32 × zI × zJ)) (x1 : Int32) (x2 : Int32) (x3 : Int32) (x4 : Int32) (x5 : Int32) (μ : zI) (ν : zJ) : Option (Int32 × zI × zJ) := e_M_topsTo_88 q r4 x1 x2 x3 x4 x5 1 μ ν
theorem z_M_topsTo_83 {l : Launch} {D : va_G} {dA : Nat → ClassId} {ad : Nat → Nat} {sh : List zSE}  {q : Nat} (hm : zMo sh q) {r4 : Int32 → Int32 → Int32 → zI → zJ → Option (Int32 × zI × zJ)} {x1 : Int32} {x2 : Int32} {x3 : Int32} {x4 : Int32} {x5 : Int32} {μ : zI} {ν : zJ} {out : (Int32 × zI × zJ)} (hr4 : ∀ (x1 : Int32) (x2 : Int32) (x3 : Int32) (μ : zI) (ν : zJ), r4 x1 x2 x3 μ ν = some out → Z l D dA ad sh m_M_topsTo (zR 3 0 0) (zS ad) (zOi out) 0 0 0 0 [] 4 [(0, .ref (ad q)), (1, .int x1), (2, .int x2), (3, .int x3)] [] μ ν) (hF : e_M_topsTo_83 q r4 x1 x2 x3 x4 x5 μ ν = some out) : Z l D dA ad sh m_M_topsTo (zR 3 0 0) (zS ad) (zOi out) 0 0 0 0 [] 83 [(0, .ref (ad q)), (1, .int x1), (2, .int x2), (3, .int x3), (4, .int x4), (5, .int x5)] [] μ ν := by
  unfold e_M_topsTo_83 at hF
  refine z_iconst d_M_topsTo_83 (v := 1) (by decide) ?_
  refine z_goto d_M_topsTo_84 (tgt := 88) (by decide) ?_
  exact z_M_topsTo_88 hm hr4 hF
def e_M_topsTo_87 (q : Nat) (r4 : Int32 → Int32 → Int32 → zI → zJ → Option (Int32 × zI × zJ)) (x1 : Int32) (x2 : Int32) (x3 : Int32) (x4 : Int32) (x5 : Int32) (μ : zI) (ν : zJ) : Option (Int32 × zI × zJ) := e_M_topsTo_88 q r4 x1 x2 x3 x4 x5 0 μ ν
theorem z_M_topsTo_87 {l : Launch} {D : va_G} {dA : Nat → ClassId} {ad : Nat → Nat} {sh : List zSE}  {q : Nat} (hm : zMo sh q) {r4 : Int32 → Int32 → Int32 → zI → zJ → Option (Int32 × zI × zJ)} {x1 : Int32} {x2 : Int32} {x3 : Int32} {x4 : Int32} {x5 : Int32} {μ : zI} {ν : zJ} {out : (Int32 × zI × zJ)} (hr4 : ∀ (x1 : Int32) (x2 : Int32) (x3 : Int32) (μ : zI) (ν : zJ), r4 x1 x2 x3 μ ν = some out → Z l D dA ad sh m_M_topsTo (zR 3 0 0) (zS ad) (zOi out) 0 0 0 0 [] 4 [(0, .ref (ad q)), (1, .int x1), (2, .int x2), (3, .int x3)] [] μ ν) (hF : e_M_topsTo_87 q r4 x1 x2 x3 x4 x5 μ ν = some out) : Z l D dA ad sh m_M_topsTo (zR 3 0 0) (zS ad) (zOi out) 0 0 0 0 [] 87 [(0, .ref (ad q)), (1, .int x1), (2, .int x2), (3, .int x3), (4, .int x4), (5, .int x5)] [] μ ν := by
  unfold e_M_topsTo_87 at hF
  refine z_iconst d_M_topsTo_87 (v := 0) (by decide) ?_
  exact z_M_topsTo_88 hm hr4 hF
def e_M_topsTo_50 (q : Nat) (r4 : Int32 → Int32 → Int32 → zI → zJ → Option (Int32 × zI × zJ)) (x1 : Int32) (x2 : Int32) (x3 : Int32) (x4 : Int32) (x5 : Int32) (μ : zI) (ν : zJ) : Option (Int32 × zI × zJ) := Option.bind (E_M_powerAt q (x3 - 1) μ ν) fun ty1 => (if x4 ≤ ty1.1 then e_M_topsTo_87 q r4 x1 x2 x3 x4 x5 ty1.2.1 ty1.2.2 else (if x5 = 999 then e_M_topsTo_83 q r4 x1 x2 x3 x4 x5 ty1.2.1 ty1.2.2 else Option.bind (E_M_powerAt q (x5 + 1) ty1.2.1 ty1.2.2) fun ty4 => (if x4 ≤ ty4.1 then e_M_topsTo_87 q r4 x1 x2 x3 x4 x5 ty4.2.1 ty4.2.2 else e_M_topsTo_83 q r4 x1 x2 x3 x4 x5 ty4.2.1 ty4.2.2)))
theorem z_M_topsTo_50 {l : Launch} {D : va_G} {dA : Nat → ClassId} {ad : Nat → Nat} {sh : List zSE}  {q : Nat} (hm : zMo sh q) {r4 : Int32 → Int32 → Int32 → zI → zJ → Option (Int32 × zI × zJ)} {x1 : Int32} {x2 : Int32} {x3 : Int32} {x4 : Int32} {x5 : Int32} {μ : zI} {ν : zJ} {out : (Int32 × zI × zJ)} (hr4 : ∀ (x1 : Int32) (x2 : Int32) (x3 : Int32) (μ : zI) (ν : zJ), r4 x1 x2 x3 μ ν = some out → Z l D dA ad sh m_M_topsTo (zR 3 0 0) (zS ad) (zOi out) 0 0 0 0 [] 4 [(0, .ref (ad q)), (1, .int x1), (2, .int x2), (3, .int x3)] [] μ ν) (hF : e_M_topsTo_50 q r4 x1 x2 x3 x4 x5 μ ν = some out) : Z l D dA ad sh m_M_topsTo (zR 3 0 0) (zS ad) (zOi out) 0 0 0 0 [] 50 [(0, .ref (ad q)), (1, .int x1), (2, .int x2), (3, .int x3), (4, .int x4), (5, .int x5)] [] μ ν := by
  unfold e_M_topsTo_50 at hF
  refine z_iload d_M_topsTo_50 4 rfl ?_
  refine z_aload_n d_M_topsTo_52 0 rfl rfl ?_
  refine z_iload_n d_M_topsTo_53 3 rfl rfl ?_
  refine z_iconst d_M_topsTo_54 (v := 1) (by decide) ?_
  refine z_isub d_M_topsTo_55 ?_
  obtain ⟨ty1, hty1, hF⟩ := zh_bind hF
  refine z_callV d_M_topsTo_56 (c_M_powerAt hm hty1) mv_M_powerAt l_M_188 (fun _ _ h => h) (hm 0 _ rfl) rfl rfl ⟨Nat.le_of_ble_eq_true rfl, Nat.le_of_ble_eq_true rfl⟩ ⟨Nat.le_of_ble_eq_true rfl, Nat.le_of_ble_eq_true rfl⟩ rfl (Nat.le_of_ble_eq_true rfl) (fun r μ' ν' hq => ?_)
  obtain ⟨rfl, rfl, rfl⟩ := hq
  show Z _ _ _ _ _ _ _ _ _ _ _ 0 0 _ _ _ [.int ty1.1, .int x4] _ _
  refine z_icmp_le d_M_topsTo_59 (tgt := 87) (by decide) (fun cy2 => ?_) (fun cy2 => ?_)
  · replace hF := zh_t cy2 hF
    exact z_M_topsTo_87 hm hr4 hF
  · replace hF := zh_f cy2 hF
    refine z_iload d_M_topsTo_62 5 rfl ?_
    refine z_sipush d_M_topsTo_64 (v := 999) (by decide) ?_
    refine z_icmp_eq d_M_topsTo_67 (tgt := 83) (by decide) (fun cy3 => ?_) (fun cy3 => ?_)
    · replace hF := zh_t cy3 hF
      exact z_M_topsTo_83 hm hr4 hF
    · replace hF := zh_f cy3 hF
      refine z_iload d_M_topsTo_70 4 rfl ?_
      refine z_aload_n d_M_topsTo_72 0 rfl rfl ?_
      refine z_iload d_M_topsTo_73 5 rfl ?_
      refine z_iconst d_M_topsTo_75 (v := 1) (by decide) ?_
      refine z_iadd d_M_topsTo_76 ?_
      obtain ⟨ty4, hty4, hF⟩ := zh_bind hF
      refine z_callV d_M_topsTo_77 (c_M_powerAt hm hty4) mv_M_powerAt l_M_188 (fun _ _ h => h) (hm 0 _ rfl) rfl rfl ⟨Nat.le_of_ble_eq_true rfl, Nat.le_of_ble_eq_true rfl⟩ ⟨Nat.le_of_ble_eq_true rfl, Nat.le_of_ble_eq_true rfl⟩ rfl (Nat.le_of_ble_eq_true rfl) (fun r μ' ν' hq => ?_)
      obtain ⟨rfl, rfl, rfl⟩ := hq
      show Z _ _ _ _ _ _ _ _ _ _ _ 0 0 _ _ _ [.int ty4.1, .int x4] _ _
      refine z_icmp_le d_M_topsTo_80 (tgt := 87) (by decide) (fun cy5 => ?_) (fun cy5 => ?_)
      · replace hF := zh_t cy5 hF
        exact z_M_topsTo_87 hm hr4 hF
      · replace hF := zh_f cy5 hF
        exact z_M_topsTo_83 hm hr4 hF
def f_M_topsTo_21 (q : Nat) (r4 : Int32 → Int32 → Int32 → zI → zJ → Option (Int32 × zI × zJ)) : Nat → Int32 → Int32 → Int32 → Int32 → Int32 → zI → zJ → Option (Int32 × zI × zJ)
  | 0, _, _, _, _, _, _, _ => none
  | n + 1, x1, x2, x3, x4, x5, μ, ν => (if 1000 ≤ (x5 + 1) then e_M_topsTo_50 q r4 x1 x2 x3 x4 x5 μ ν else Option.bind (E_M_powerAt q (x5 + 1) μ ν) fun ty2 => (if ty2.1 = x4 then (f_M_topsTo_21 q r4 n) x1 x2 x3 x4 (x5 + 1) ty2.2.1 ty2.2.2 else e_M_topsTo_50 q r4 x1 x2 x3 x4 x5 ty2.2.1 ty2.2.2))
theorem z_M_topsTo_21 {l : Launch} {D : va_G} {dA : Nat → ClassId} {ad : Nat → Nat} {sh : List zSE}  {q : Nat} (hm : zMo sh q) {r4 : Int32 → Int32 → Int32 → zI → zJ → Option (Int32 × zI × zJ)} {out : (Int32 × zI × zJ)} (hr4 : ∀ (x1 : Int32) (x2 : Int32) (x3 : Int32) (μ : zI) (ν : zJ), r4 x1 x2 x3 μ ν = some out → Z l D dA ad sh m_M_topsTo (zR 3 0 0) (zS ad) (zOi out) 0 0 0 0 [] 4 [(0, .ref (ad q)), (1, .int x1), (2, .int x2), (3, .int x3)] [] μ ν) : ∀ (n : Nat) (x1 : Int32) (x2 : Int32) (x3 : Int32) (x4 : Int32) (x5 : Int32) (μ : zI) (ν : zJ), f_M_topsTo_21 q r4 n x1 x2 x3 x4 x5 μ ν = some out → Z l D dA ad sh m_M_topsTo (zR 3 0 0) (zS ad) (zOi out) 0 0 0 0 [] 21 [(0, .ref (ad q)), (1, .int x1), (2, .int x2), (3, .int x3), (4, .int x4), (5, .int x5)] [] μ ν := by
  intro n
  induction n with
  | zero => intro x1 x2 x3 x4 x5 μ ν hF; cases hF
  | succ n ih =>
    intro x1 x2 x3 x4 x5 μ ν hF
    dsimp only [f_M_topsTo_21] at hF
    refine z_iload d_M_topsTo_21 5 rfl ?_
    refine z_iconst d_M_topsTo_23 (v := 1) (by decide) ?_
    refine z_iadd d_M_topsTo_24 ?_
    refine z_sipush d_M_topsTo_25 (v := 1000) (by decide) ?_
    refine z_icmp_ge d_M_topsTo_28 (tgt := 50) (by decide) (fun cy1 => ?_) (fun cy1 => ?_)
    · replace hF := zh_t cy1 hF
      exact z_M_topsTo_50 hm hr4 hF
    · replace hF := zh_f cy1 hF
      refine z_aload_n d_M_topsTo_31 0 rfl rfl ?_
      refine z_iload d_M_topsTo_32 5 rfl ?_
      refine z_iconst d_M_topsTo_34 (v := 1) (by decide) ?_
      refine z_iadd d_M_topsTo_35 ?_
      obtain ⟨ty2, hty2, hF⟩ := zh_bind hF
      refine z_callV d_M_topsTo_36 (c_M_powerAt hm hty2) mv_M_powerAt l_M_188 (fun _ _ h => h) (hm 0 _ rfl) rfl rfl ⟨Nat.le_of_ble_eq_true rfl, Nat.le_of_ble_eq_true rfl⟩ ⟨Nat.le_of_ble_eq_true rfl, Nat.le_of_ble_eq_true rfl⟩ rfl (Nat.le_of_ble_eq_true rfl) (fun r μ' ν' hq => ?_)
      obtain ⟨rfl, rfl, rfl⟩ := hq
      show Z _ _ _ _ _ _ _ _ _ _ _ 0 0 _ _ _ [.int ty2.1] _ _
      refine z_iload d_M_topsTo_39 4 rfl ?_
      refine z_icmp_ne d_M_topsTo_41 (tgt := 50) (by decide) (fun cy3 => ?_) (fun cy3 => ?_)
      · replace hF := zh_f cy3 hF
        exact z_M_topsTo_50 hm hr4 hF
      · replace hF := zh_t cy3 hF
        refine z_iinc d_M_topsTo_44 (k := 5) (v := (x5 + 1)) rfl rfl (by decide) (L2 := [(5, .int (x5 + 1)), (0, .ref (ad q)), (1, .int x1), (2, .int x2), (3, .int x3), (4, .int x4)]) rfl ?_
        refine z_goto d_M_topsTo_47 (tgt := 21) (by decide) ?_
        refine z_sub [1, 2, 3, 4, 5, 0] (L' := [(0, .ref (ad q)), (1, .int x1), (2, .int x2), (3, .int x3), (4, .int x4), (5, .int (x5 + 1))]) rfl ?_
        exact ih _ _ _ _ _ _ _ hF
def f_M_topsTo_4 (q : Nat)  : Nat → Int32 → Int32 → Int32 → zI → zJ → Option (Int32 × zI × zJ)
  | 0, _, _, _, _, _ => none
  | n + 1, x1, x2, x3, μ, ν => (if 1000 ≤ x3 then some (x2, μ, ν) else Option.bind (E_M_powerAt q x3 μ ν) fun ty2 => zlet (α := Int32) ty2.1 fun y3 => f_M_topsTo_21 q (f_M_topsTo_4 q n) zFuel x1 x2 x3 y3 x3 ty2.2.1 ty2.2.2)
theorem z_M_topsTo_4 {l : Launch} {D : va_G} {dA : Nat → ClassId} {ad : Nat → Nat} {sh : List zSE}  {q : Nat} (hm : zMo sh q)  {out : (Int32 × zI × zJ)} : ∀ (n : Nat) (x1 : Int32) (x2 : Int32) (x3 : Int32) (μ : zI) (ν : zJ), f_M_topsTo_4 q  n x1 x2 x3 μ ν = some out → Z l D dA ad sh m_M_topsTo (zR 3 0 0) (zS ad) (zOi out) 0 0 0 0 [] 4 [(0, .ref (ad q)), (1, .int x1), (2, .int x2), (3, .int x3)] [] μ ν := by
  intro n
  induction n with
  | zero => intro x1 x2 x3 μ ν hF; cases hF
  | succ n ih =>
    intro x1 x2 x3 μ ν hF
    dsimp only [f_M_topsTo_4] at hF
    refine z_iload_n d_M_topsTo_4 3 rfl rfl ?_
    refine z_sipush d_M_topsTo_5 (v := 1000) (by decide) ?_
    refine z_icmp_ge d_M_topsTo_8 (tgt := 140) (by decide) (fun cy1 => ?_) (fun cy1 => ?_)
    · replace hF := zh_t cy1 hF
      refine z_iload_n d_M_topsTo_140 2 rfl rfl ?_
      cases hF
      exact z_ireturn d_M_topsTo_141 rfl rfl ⟨rfl, rfl, rfl⟩
    · replace hF := zh_f cy1 hF
      refine z_aload_n d_M_topsTo_11 0 rfl rfl ?_
      refine z_iload_n d_M_topsTo_12 3 rfl rfl ?_
      obtain ⟨ty2, hty2, hF⟩ := zh_bind hF
      refine z_callV d_M_topsTo_13 (c_M_powerAt hm hty2) mv_M_powerAt l_M_188 (fun _ _ h => h) (hm 0 _ rfl) rfl rfl ⟨Nat.le_of_ble_eq_true rfl, Nat.le_of_ble_eq_true rfl⟩ ⟨Nat.le_of_ble_eq_true rfl, Nat.le_of_ble_eq_true rfl⟩ rfl (Nat.le_of_ble_eq_true rfl) (fun r μ' ν' hq => ?_)
      obtain ⟨rfl, rfl, rfl⟩ := hq
      show Z _ _ _ _ _ _ _ _ _ _ _ 0 0 _ _ _ [.int ty2.1] _ _
      obtain ⟨y3, hy3, hF⟩ := zh_let hF
      refine z_eqi hy3 ?_
      refine z_istore d_M_topsTo_16 (by decide) (L2 := [(4, .int y3), (0, .ref (ad q)), (1, .int x1), (2, .int x2), (3, .int x3)]) rfl ?_
      refine z_iload_n d_M_topsTo_18 4 rfl rfl ?_
      refine z_istore d_M_topsTo_19 (by decide) (L2 := [(5, .int x3), (4, .int y3), (0, .ref (ad q)), (1, .int x1), (2, .int x2), (3, .int x3)]) rfl ?_
      refine z_sub [2, 3, 4, 5, 1, 0] (L' := [(0, .ref (ad q)), (1, .int x1), (2, .int x2), (3, .int x3), (4, .int y3), (5, .int x3)]) rfl ?_
      exact z_M_topsTo_21 hm (fun a0 a1 a2 a3 a4 => ih a0 a1 a2 a3 a4) zFuel _ _ _ _ _ _ _ hF
def e_M_topsTo_0 (q : Nat)  (x1 : Int32) (μ : zI) (ν : zJ) : Option (Int32 × zI × zJ) := f_M_topsTo_4 q zFuel x1 0 1 μ ν
theorem z_M_topsTo_0 {l : Launch} {D : va_G} {dA : Nat → ClassId} {ad : Nat → Nat} {sh : List zSE}  {q : Nat} (hm : zMo sh q)  {x1 : Int32} {μ : zI} {ν : zJ} {out : (Int32 × zI × zJ)} (hF : e_M_topsTo_0 q  x1 μ ν = some out) : Z l D dA ad sh m_M_topsTo (zR 3 0 0) (zS ad) (zOi out) 0 0 0 0 [] 0 [(0, .ref (ad q)), (1, .int x1)] [] μ ν := by
  unfold e_M_topsTo_0 at hF
  refine z_iconst d_M_topsTo_0 (v := 0) (by decide) ?_
  refine z_istore_n d_M_topsTo_1 rfl (by decide) (L2 := [(2, .int 0), (0, .ref (ad q)), (1, .int x1)]) rfl ?_
  refine z_iconst d_M_topsTo_2 (v := 1) (by decide) ?_
  refine z_istore_n d_M_topsTo_3 rfl (by decide) (L2 := [(3, .int 1), (2, .int 0), (0, .ref (ad q)), (1, .int x1)]) rfl ?_
  refine z_sub [2, 3, 1, 0] (L' := [(0, .ref (ad q)), (1, .int x1), (2, .int 0), (3, .int 1)]) rfl ?_
  exact z_M_topsTo_4 hm  zFuel _ _ _ _ _ hF
def E_M_topsTo (q : Nat) (x1 : Int32) (μ : zI) (ν : zJ) : Option (Int32 × zI × zJ) := e_M_topsTo_0 q x1 μ ν
theorem c_M_topsTo {l : Launch} {D : va_G} {dA : Nat → ClassId} {ad : Nat → Nat} {sh : List zSE} {μ : zI} {ν : zJ} {q : Nat} {x1 : Int32} (hm : zMo sh q) {out : (Int32 × zI × zJ)} (hE : E_M_topsTo q x1 μ ν = some out) : zC l D dA ad sh m_M_topsTo 3 0 0 [.ref (ad q), .int x1] μ ν (zOi out) :=
  zC.of (by decide) (Nat.le_of_ble_eq_true rfl) (z_M_topsTo_0 hm hE)
def e_M_tops_0 (q : Nat)   (μ : zI) (ν : zJ) : Option (Int32 × zI × zJ) := zlet (zu μ q 0 0) fun μy1 => Option.bind (E_M_topsTo q (-1) μy1 ν) fun ty2 => some (ty2.1, ty2.2.1, ty2.2.2)
theorem z_M_tops_0 {l : Launch} {D : va_G} {dA : Nat → ClassId} {ad : Nat → Nat} {sh : List zSE}  {q : Nat} (hm : zMo sh q)   {μ : zI} {ν : zJ} {out : (Int32 × zI × zJ)} (hF : e_M_tops_0 q   μ ν = some out) : Z l D dA ad sh m_M_tops (zR 4 0 0) (zS ad) (zOi out) 0 0 0 0 [] 0 [(0, .ref (ad q))] [] μ ν := by
  unfold e_M_tops_0 at hF
  refine z_aload_n d_M_tops_0 0 rfl rfl ?_
  refine z_iconst d_M_tops_1 (v := 0) (by decide) ?_
  refine z_put d_M_tops_2 f_M_55 (hm 0 _ rfl) rfl (CL_fin _ _ (fun q hq => by cases hq; rfl)) rfl rfl ?_
  obtain ⟨μy1, hy1, hF⟩ := zh_let hF
  refine z_eqm hy1 ?_
  refine z_aload_n d_M_tops_5 0 rfl rfl ?_
  refine z_iconst d_M_tops_6 (v := (-1)) (by decide) ?_
  obtain ⟨ty2, hty2, hF⟩ := zh_bind hF
  refine z_callV d_M_tops_7 (c_M_topsTo hm hty2) mv_M_topsTo l_M_278 (fun _ _ h => h) (hm 0 _ rfl) rfl rfl ⟨Nat.le_of_ble_eq_true rfl, Nat.le_of_ble_eq_true rfl⟩ ⟨Nat.le_of_ble_eq_true rfl, Nat.le_of_ble_eq_true rfl⟩ rfl (Nat.le_of_ble_eq_true rfl) (fun r μ' ν' hq => ?_)
  obtain ⟨rfl, rfl, rfl⟩ := hq
  show Z _ _ _ _ _ _ _ _ _ _ _ 0 0 _ _ _ [.int ty2.1] _ _
  cases hF
  exact z_ireturn d_M_tops_10 rfl rfl ⟨rfl, rfl, rfl⟩
def E_M_tops (q : Nat)  (μ : zI) (ν : zJ) : Option (Int32 × zI × zJ) := e_M_tops_0 q μ ν
theorem c_M_tops {l : Launch} {D : va_G} {dA : Nat → ClassId} {ad : Nat → Nat} {sh : List zSE} {μ : zI} {ν : zJ} {q : Nat} (hm : zMo sh q) {out : (Int32 × zI × zJ)} (hE : E_M_tops q μ ν = some out) : zC l D dA ad sh m_M_tops 4 0 0 [.ref (ad q)] μ ν (zOi out) :=
  zC.of (by decide) (Nat.le_of_ble_eq_true rfl) (z_M_tops_0 hm hE)
def e_M_top_18 (q : Nat)  (x1 : Int32) (x2 : Int32) (μ : zI) (ν : zJ) : Option (Int32 × zI × zJ) := some ((-1), μ, ν)
theorem z_M_top_18 {l : Launch} {D : va_G} {dA : Nat → ClassId} {ad : Nat → Nat} {sh : List zSE}  {q : Nat} (hm : zMo sh q)  {x1 : Int32} {x2 : Int32} {μ : zI} {ν : zJ} {out : (Int32 × zI × zJ)} (hF : e_M_top_18 q  x1 x2 μ ν = some out) : Z l D dA ad sh m_M_top (zR 4 0 0) (zS ad) (zOi out) 0 0 0 0 [] 18 [(0, .ref (ad q)), (1, .int x1), (2, .int x2)] [] μ ν := by
  unfold e_M_top_18 at hF
  refine z_iconst d_M_top_18 (v := (-1)) (by decide) ?_
  cases hF
  exact z_ireturn d_M_top_19 rfl rfl ⟨rfl, rfl, rfl⟩
def e_M_top_63 (q : Nat)  (x1 : Int32) (x2 : Int32) (s0 : Int32) (μ : zI) (ν : zJ) : Option (Int32 × zI × zJ) := some (s0, μ, ν)
theorem z_M_top_63 {l : Launch} {D : va_G} {dA : Nat → ClassId} {ad : Nat → Nat} {sh : List zSE}  {q : Nat} (hm : zMo sh q)  {x1 : Int32} {x2 : Int32} {s0 : Int32} {μ : zI} {ν : zJ} {out : (Int32 × zI × zJ)} (hF : e_M_top_63 q  x1 x2 s0 μ ν = some out) : Z l D dA ad sh m_M_top (zR 4 0 0) (zS ad) (zOi out) 0 0 0 0 [] 63 [(0, .ref (ad q)), (1, .int x1), (2, .int x2)] [.int s0] μ ν := by
  unfold e_M_top_63 at hF
  cases hF
  exact z_ireturn d_M_top_63 rfl rfl ⟨rfl, rfl, rfl⟩
def e_M_top_0 (q : Nat)  (x1 : Int32) (x2 : Int32) (μ : zI) (ν : zJ) : Option (Int32 × zI × zJ) := zlet (zu μ q 0 0) fun μy1 => (if x1 < 0 then e_M_top_18 q x1 x2 μy1 ν else (if x2 < 0 then e_M_top_18 q x1 x2 μy1 ν else (if x2 ≤ 2 then Option.bind (E_M_topsTo q x1 μy1 ν) fun ty5 => (if x1 < ty5.1 then (if x2 = 0 then e_M_top_63 q x1 x2 (ty5.2.1 q 33) ty5.2.1 ty5.2.2 else (if x2 = 1 then Option.bind (E_M_powerAt q (ty5.2.1 q 33) ty5.2.1 ty5.2.2) fun ty9 => e_M_top_63 q x1 x2 ty9.1 ty9.2.1 ty9.2.2 else e_M_top_63 q x1 x2 (ty5.2.1 q 34) ty5.2.1 ty5.2.2)) else some ((-2), ty5.2.1, ty5.2.2)) else e_M_top_18 q x1 x2 μy1 ν)))
theorem z_M_top_0 {l : Launch} {D : va_G} {dA : Nat → ClassId} {ad : Nat → Nat} {sh : List zSE}  {q : Nat} (hm : zMo sh q)  {x1 : Int32} {x2 : Int32} {μ : zI} {ν : zJ} {out : (Int32 × zI × zJ)} (hF : e_M_top_0 q  x1 x2 μ ν = some out) : Z l D dA ad sh m_M_top (zR 4 0 0) (zS ad) (zOi out) 0 0 0 0 [] 0 [(0, .ref (ad q)), (1, .int x1), (2, .int x2)] [] μ ν := by
  unfold e_M_top_0 at hF
  refine z_aload_n d_M_top_0 0 rfl rfl ?_
  refine z_iconst d_M_top_1 (v := 0) (by decide) ?_
  refine z_put d_M_top_2 f_M_55 (hm 0 _ rfl) rfl (CL_fin _ _ (fun q hq => by cases hq; rfl)) rfl rfl ?_
  obtain ⟨μy1, hy1, hF⟩ := zh_let hF
  refine z_eqm hy1 ?_
  refine z_iload_n d_M_top_5 1 rfl rfl ?_
  refine z_if_lt d_M_top_6 (tgt := 18) (by decide) (fun cy2 => ?_) (fun cy2 => ?_)
  · replace hF := zh_t cy2 hF
    exact z_M_top_18 hm  hF
  · replace hF := zh_f cy2 hF
    refine z_iload_n d_M_top_9 2 rfl rfl ?_
    refine z_if_lt d_M_top_10 (tgt := 18) (by decide) (fun cy3 => ?_) (fun cy3 => ?_)
    · replace hF := zh_t cy3 hF
      exact z_M_top_18 hm  hF
    · replace hF := zh_f cy3 hF
      refine z_iload_n d_M_top_13 2 rfl rfl ?_
      refine z_iconst d_M_top_14 (v := 2) (by decide) ?_
      refine z_icmp_le d_M_top_15 (tgt := 20) (by decide) (fun cy4 => ?_) (fun cy4 => ?_)
      · replace hF := zh_t cy4 hF
        refine z_aload_n d_M_top_20 0 rfl rfl ?_
        refine z_iload_n d_M_top_21 1 rfl rfl ?_
        obtain ⟨ty5, hty5, hF⟩ := zh_bind hF
        refine z_callV d_M_top_22 (c_M_topsTo hm hty5) mv_M_topsTo l_M_278 (fun _ _ h => h) (hm 0 _ rfl) rfl rfl ⟨Nat.le_of_ble_eq_true rfl, Nat.le_of_ble_eq_true rfl⟩ ⟨Nat.le_of_ble_eq_true rfl, Nat.le_of_ble_eq_true rfl⟩ rfl (Nat.le_of_ble_eq_true rfl) (fun r μ' ν' hq => ?_)
        obtain ⟨rfl, rfl, rfl⟩ := hq
        show Z _ _ _ _ _ _ _ _ _ _ _ 0 0 _ _ _ [.int ty5.1] _ _
        refine z_iload_n d_M_top_25 1 rfl rfl ?_
        refine z_icmp_gt d_M_top_26 (tgt := 32) (by decide) (fun cy6 => ?_) (fun cy6 => ?_)
        · replace hF := zh_t cy6 hF
          refine z_iload_n d_M_top_32 2 rfl rfl ?_
          refine z_if_ne d_M_top_33 (tgt := 43) (by decide) (fun cy7 => ?_) (fun cy7 => ?_)
          · replace hF := zh_f cy7 hF
            refine z_iload_n d_M_top_43 2 rfl rfl ?_
            refine z_iconst d_M_top_44 (v := 1) (by decide) ?_
            refine z_icmp_ne d_M_top_45 (tgt := 59) (by decide) (fun cy8 => ?_) (fun cy8 => ?_)
            · replace hF := zh_f cy8 hF
              refine z_aload_n d_M_top_59 0 rfl rfl ?_
              refine z_get d_M_top_60 f_M_275 (hm 0 _ rfl) rfl ?_
              exact z_M_top_63 hm  hF
            · replace hF := zh_t cy8 hF
              refine z_aload_n d_M_top_48 0 rfl rfl ?_
              refine z_aload_n d_M_top_49 0 rfl rfl ?_
              refine z_get d_M_top_50 f_M_272 (hm 0 _ rfl) rfl ?_
              obtain ⟨ty9, hty9, hF⟩ := zh_bind hF
              refine z_callV d_M_top_53 (c_M_powerAt hm hty9) mv_M_powerAt l_M_188 (fun _ _ h => h) (hm 0 _ rfl) rfl rfl ⟨Nat.le_of_ble_eq_true rfl, Nat.le_of_ble_eq_true rfl⟩ ⟨Nat.le_of_ble_eq_true rfl, Nat.le_of_ble_eq_true rfl⟩ rfl (Nat.le_of_ble_eq_true rfl) (fun r μ' ν' hq => ?_)
              obtain ⟨rfl, rfl, rfl⟩ := hq
              show Z _ _ _ _ _ _ _ _ _ _ _ 0 0 _ _ _ [.int ty9.1] _ _
              refine z_goto d_M_top_56 (tgt := 63) (by decide) ?_
              exact z_M_top_63 hm  hF
          · replace hF := zh_t cy7 hF
            refine z_aload_n d_M_top_36 0 rfl rfl ?_
            refine z_get d_M_top_37 f_M_272 (hm 0 _ rfl) rfl ?_
            refine z_goto d_M_top_40 (tgt := 63) (by decide) ?_
            exact z_M_top_63 hm  hF
        · replace hF := zh_f cy6 hF
          refine z_bipush d_M_top_29 (v := (-2)) (by decide) ?_
          cases hF
          exact z_ireturn d_M_top_31 rfl rfl ⟨rfl, rfl, rfl⟩
      · replace hF := zh_f cy4 hF
        exact z_M_top_18 hm  hF
def E_M_top (q : Nat) (x1 : Int32) (x2 : Int32) (μ : zI) (ν : zJ) : Option (Int32 × zI × zJ) := e_M_top_0 q x1 x2 μ ν
theorem c_M_top {l : Launch} {D : va_G} {dA : Nat → ClassId} {ad : Nat → Nat} {sh : List zSE} {μ : zI} {ν : zJ} {q : Nat} {x1 : Int32} {x2 : Int32} (hm : zMo sh q) {out : (Int32 × zI × zJ)} (hE : E_M_top q x1 x2 μ ν = some out) : zC l D dA ad sh m_M_top 4 0 0 [.ref (ad q), .int x1, .int x2] μ ν (zOi out) :=
  zC.of (by decide) (Nat.le_of_ble_eq_true rfl) (z_M_top_0 hm hE)
def e_M_best_41 (q : Nat)  (x1 : Int32) (s0 : Int32) (μ : zI) (ν : zJ) : Option (Int32 × zI × zJ) := some (s0, μ, ν)
theorem z_M_best_41 {l : Launch} {D : va_G} {dA : Nat → ClassId} {ad : Nat → Nat} {sh : List zSE}  {q : Nat} (hm : zMo sh q)  {x1 : Int32} {s0 : Int32} {μ : zI} {ν : zJ} {out : (Int32 × zI × zJ)} (hF : e_M_best_41 q  x1 s0 μ ν = some out) : Z l D dA ad sh m_M_best (zR 4 0 0) (zS ad) (zOi out) 0 0 0 0 [] 41 [(0, .ref (ad q)), (1, .int x1)] [.int s0] μ ν := by
  unfold e_M_best_41 at hF
  cases hF
  exact z_ireturn d_M_best_41 rfl rfl ⟨rfl, rfl, rfl⟩
def e_M_best_0 (q : Nat)  (x1 : Int32) (μ : zI) (ν : zJ) : Option (Int32 × zI × zJ) := zlet (zu μ q 0 0) fun μy1 => Option.bind (E_M_finds q μy1 ν) fun ty2 => (if x1 = 0 then e_M_best_41 q x1 (ty2.1 (q + 7) 143) ty2.1 ty2.2 else (if x1 = 1 then e_M_best_41 q x1 (ty2.1 (q + 7) 144) ty2.1 ty2.2 else e_M_best_41 q x1 (-1) ty2.1 ty2.2))
theorem z_M_best_0 {l : Launch} {D : va_G} {dA : Nat → ClassId} {ad : Nat → Nat} {sh : List zSE}  {q : Nat} (hm : zMo sh q)  {x1 : Int32} {μ : zI} {ν : zJ} {out : (Int32 × zI × zJ)} (hF : e_M_best_0 q  x1 μ ν = some out) : Z l D dA ad sh m_M_best (zR 4 0 0) (zS ad) (zOi out) 0 0 0 0 [] 0 [(0, .ref (ad q)), (1, .int x1)] [] μ ν := by
  unfold e_M_best_0 at hF
  refine z_aload_n d_M_best_0 0 rfl rfl ?_
  refine z_iconst d_M_best_1 (v := 0) (by decide) ?_
  refine z_put d_M_best_2 f_M_55 (hm 0 _ rfl) rfl (CL_fin _ _ (fun q hq => by cases hq; rfl)) rfl rfl ?_
  obtain ⟨μy1, hy1, hF⟩ := zh_let hF
  refine z_eqm hy1 ?_
  refine z_aload_n d_M_best_5 0 rfl rfl ?_
  obtain ⟨ty2, hty2, hF⟩ := zh_bind hF
  refine z_callV d_M_best_6 (c_M_finds hm hty2) mv_M_finds l_M_191 (fun _ _ h => h) (hm 0 _ rfl) rfl rfl ⟨Nat.le_of_ble_eq_true rfl, Nat.le_of_ble_eq_true rfl⟩ ⟨Nat.le_of_ble_eq_true rfl, Nat.le_of_ble_eq_true rfl⟩ rfl (Nat.le_of_ble_eq_true rfl) (fun r μ' ν' hq => ?_)
  obtain ⟨rfl, rfl, rfl⟩ := hq
  show Z _ _ _ _ _ _ _ _ _ _ _ 0 0 _ _ _ [] _ _
  refine z_iload_n d_M_best_9 1 rfl rfl ?_
  refine z_if_ne d_M_best_10 (tgt := 24) (by decide) (fun cy3 => ?_) (fun cy3 => ?_)
  · replace hF := zh_f cy3 hF
    refine z_iload_n d_M_best_24 1 rfl rfl ?_
    refine z_iconst d_M_best_25 (v := 1) (by decide) ?_
    refine z_icmp_ne d_M_best_26 (tgt := 40) (by decide) (fun cy4 => ?_) (fun cy4 => ?_)
    · replace hF := zh_f cy4 hF
      refine z_iconst d_M_best_40 (v := (-1)) (by decide) ?_
      exact z_M_best_41 hm  hF
    · replace hF := zh_t cy4 hF
      refine z_aload_n d_M_best_29 0 rfl rfl ?_
      refine z_getr d_M_best_30 (q := (q + 7)) f_M_33 (hm 0 _ rfl) rfl ?_
      refine z_sipush d_M_best_33 (v := 144) (by decide) ?_
      refine z_iald d_M_best_36 (hm 7 _ rfl) (zin_vp rfl) ?_
      show Z _ _ _ _ _ _ _ _ _ _ _ _ _ _ _ _ [.int (ty2.1 (q + 7) 144)] _ _
      refine z_goto d_M_best_37 (tgt := 41) (by decide) ?_
      exact z_M_best_41 hm  hF
  · replace hF := zh_t cy3 hF
    refine z_aload_n d_M_best_13 0 rfl rfl ?_
    refine z_getr d_M_best_14 (q := (q + 7)) f_M_33 (hm 0 _ rfl) rfl ?_
    refine z_sipush d_M_best_17 (v := 143) (by decide) ?_
    refine z_iald d_M_best_20 (hm 7 _ rfl) (zin_vp rfl) ?_
    show Z _ _ _ _ _ _ _ _ _ _ _ _ _ _ _ _ [.int (ty2.1 (q + 7) 143)] _ _
    refine z_goto d_M_best_21 (tgt := 41) (by decide) ?_
    exact z_M_best_41 hm  hF
def E_M_best (q : Nat) (x1 : Int32) (μ : zI) (ν : zJ) : Option (Int32 × zI × zJ) := e_M_best_0 q x1 μ ν
theorem c_M_best {l : Launch} {D : va_G} {dA : Nat → ClassId} {ad : Nat → Nat} {sh : List zSE} {μ : zI} {ν : zJ} {q : Nat} {x1 : Int32} (hm : zMo sh q) {out : (Int32 × zI × zJ)} (hE : E_M_best q x1 μ ν = some out) : zC l D dA ad sh m_M_best 4 0 0 [.ref (ad q), .int x1] μ ν (zOi out) :=
  zC.of (by decide) (Nat.le_of_ble_eq_true rfl) (z_M_best_0 hm hE)
def e_M_band_25 (q : Nat)  (x1 : Int32) (x2 : Int32) (μ : zI) (ν : zJ) : Option (Int32 × zI × zJ) := some ((-1), μ, ν)
theorem z_M_band_25 {l : Launch} {D : va_G} {dA : Nat → ClassId} {ad : Nat → Nat} {sh : List zSE}  {q : Nat} (hm : zMo sh q)  {x1 : Int32} {x2 : Int32} {μ : zI} {ν : zJ} {out : (Int32 × zI × zJ)} (hF : e_M_band_25 q  x1 x2 μ ν = some out) : Z l D dA ad sh m_M_band (zR 5 0 0) (zS ad) (zOi out) 0 0 0 0 [] 25 [(0, .ref (ad q)), (1, .int x1), (2, .int x2)] [] μ ν := by
  unfold e_M_band_25 at hF
  refine z_iconst d_M_band_25 (v := (-1)) (by decide) ?_
  cases hF
  exact z_ireturn d_M_band_26 rfl rfl ⟨rfl, rfl, rfl⟩
def e_M_band_105 (q : Nat) (r48 : Int32 → Int32 → Int32 → Int32 → Int32 → Int32 → zI → zJ → Option (Int32 × zI × zJ)) (x1 : Int32) (x2 : Int32) (x3 : Int32) (x4 : Int32) (x5 : Int32) (x6 : Int32) (μ : zI) (ν : zJ) : Option (Int32 × zI × zJ) := r48 x1 x2 x3 x4 x5 (x6 + 1) μ ν
theorem z_M_band_105 {l : Launch} {D : va_G} {dA : Nat → ClassId} {ad : Nat → Nat} {sh : List zSE}  {q : Nat} (hm : zMo sh q) {r48 : Int32 → Int32 → Int32 → Int32 → Int32 → Int32 → zI → zJ → Option (Int32 × zI × zJ)} {x1 : Int32} {x2 : Int32} {x3 : Int32} {x4 : Int32} {x5 : Int32} {x6 : Int32} {μ : zI} {ν : zJ} {out : (Int32 × zI × zJ)} (hr48 : ∀ (x1 : Int32) (x2 : Int32) (x3 : Int32) (x4 : Int32) (x5 : Int32) (x6 : Int32) (μ : zI) (ν : zJ), r48 x1 x2 x3 x4 x5 x6 μ ν = some out → Z l D dA ad sh m_M_band (zR 5 0 0) (zS ad) (zOi out) 0 0 0 0 [] 48 [(0, .ref (ad q)), (1, .int x1), (2, .int x2), (3, .int x3), (4, .int x4), (5, .int x5), (6, .int x6)] [] μ ν) (hF : e_M_band_105 q r48 x1 x2 x3 x4 x5 x6 μ ν = some out) : Z l D dA ad sh m_M_band (zR 5 0 0) (zS ad) (zOi out) 0 0 0 0 [] 105 [(0, .ref (ad q)), (1, .int x1), (2, .int x2), (3, .int x3), (4, .int x4), (5, .int x5), (6, .int x6)] [] μ ν := by
  unfold e_M_band_105 at hF
  refine z_iinc d_M_band_105 (k := 6) (v := (x6 + 1)) rfl rfl (by decide) (L2 := [(6, .int (x6 + 1)), (0, .ref (ad q)), (1, .int x1), (2, .int x2), (3, .int x3), (4, .int x4), (5, .int x5)]) rfl ?_
  refine z_goto d_M_band_108 (tgt := 48) (by decide) ?_
  refine z_sub [1, 2, 3, 4, 5, 6, 0] (L' := [(0, .ref (ad q)), (1, .int x1), (2, .int x2), (3, .int x3), (4, .int x4), (5, .int x5), (6, .int (x6 + 1))]) rfl ?_
  exact hr48 _ _ _ _ _ _ _ _ hF
def e_M_band_97 (q : Nat) (r48 : Int32 → Int32 → Int32 → Int32 → Int32 → Int32 → zI → zJ → Option (Int32 × zI × zJ)) (x1 : Int32) (x2 : Int32) (x3 : Int32) (x4 : Int32) (x5 : Int32) (x6 : Int32) (s0 : Int32) (μ : zI) (ν : zJ) : Option (Int32 × zI × zJ) := e_M_band_105 q r48 x1 x2 s0 x6 (x5 + 1) x6 μ ν
theorem z_M_band_97 {l : Launch} {D : va_G} {dA : Nat → ClassId} {ad : Nat → Nat} {sh : List zSE}  {q : Nat} (hm : zMo sh q) {r48 : Int32 → Int32 → Int32 → Int32 → Int32 → Int32 → zI → zJ → Option (Int32 × zI × zJ)} {x1 : Int32} {x2 : Int32} {x3 : Int32} {x4 : Int32} {x5 : Int32} {x6 : Int32} {s0 : Int32} {μ : zI} {ν : zJ} {out : (Int32 × zI × zJ)} (hr48 : ∀ (x1 : Int32) (x2 : Int32) (x3 : Int32) (x4 : Int32) (x5 : Int32) (x6 : Int32) (μ : zI) (ν : zJ), r48 x1 x2 x3 x4 x5 x6 μ ν = some out → Z l D dA ad sh m_M_band (zR 5 0 0) (zS ad) (zOi out) 0 0 0 0 [] 48 [(0, .ref (ad q)), (1, .int x1), (2, .int x2), (3, .int x3), (4, .int x4), (5, .int x5), (6, .int x6)] [] μ ν) (hF : e_M_band_97 q r48 x1 x2 x3 x4 x5 x6 s0 μ ν = some out) : Z l D dA ad sh m_M_band (zR 5 0 0) (zS ad) (zOi out) 0 0 0 0 [] 97 [(0, .ref (ad q)), (1, .int x1), (2, .int x2), (3, .int x3), (4, .int x4), (5, .int x5), (6, .int x6)] [.int s0] μ ν := by
  unfold e_M_band_97 at hF
  refine z_istore_n d_M_band_97 rfl (by decide) (L2 := [(3, .int s0), (0, .ref (ad q)), (1, .int x1), (2, .int x2), (4, .int x4), (5, .int x5), (6, .int x6)]) rfl ?_
  refine z_iload d_M_band_98 6 rfl ?_
  refine z_istore d_M_band_100 (by decide) (L2 := [(4, .int x6), (3, .int s0), (0, .ref (ad q)), (1, .int x1), (2, .int x2), (5, .int x5), (6, .int x6)]) rfl ?_
  refine z_iinc d_M_band_102 (k := 5) (v := (x5 + 1)) rfl rfl (by decide) (L2 := [(5, .int (x5 + 1)), (4, .int x6), (3, .int s0), (0, .ref (ad q)), (1, .int x1), (2, .int x2), (6, .int x6)]) rfl ?_
  refine z_sub [3, 4, 5, 2, 1, 0, 6] (L' := [(0, .ref (ad q)), (1, .int x1), (2, .int x2), (3, .int s0), (4, .int x6), (5, .int (x5 + 1)), (6, .int x6)]) rfl ?_
  exact z_M_band_105 hm hr48 hF
def e_M_band_131 (q : Nat)  (x1 : Int32) (x2 : Int32) (x3 : Int32) (x4 : Int32) (x5 : Int32) (x6 : Int32) (s0 : Int32) (μ : zI) (ν : zJ) : Option (Int32 × zI × zJ) := some (s0, μ, ν)
theorem z_M_band_131 {l : Launch} {D : va_G} {dA : Nat → ClassId} {ad : Nat → Nat} {sh : List zSE}  {q : Nat} (hm : zMo sh q)  {x1 : Int32} {x2 : Int32} {x3 : Int32} {x4 : Int32} {x5 : Int32} {x6 : Int32} {s0 : Int32} {μ : zI} {ν : zJ} {out : (Int32 × zI × zJ)} (hF : e_M_band_131 q  x1 x2 x3 x4 x5 x6 s0 μ ν = some out) : Z l D dA ad sh m_M_band (zR 5 0 0) (zS ad) (zOi out) 0 0 0 0 [] 131 [(0, .ref (ad q)), (1, .int x1), (2, .int x2), (3, .int x3), (4, .int x4), (5, .int x5), (6, .int x6)] [.int s0] μ ν := by
  unfold e_M_band_131 at hF
  cases hF
  exact z_ireturn d_M_band_131 rfl rfl ⟨rfl, rfl, rfl⟩
def f_M_band_48 (q : Nat)  : Nat → Int32 → Int32 → Int32 → Int32 → Int32 → Int32 → zI → zJ → Option (Int32 × zI × zJ)
  | 0, _, _, _, _, _, _, _, _ => none
  | n + 1, x1, x2, x3, x4, x5, x6, μ, ν => (if 1000 ≤ x6 then (if x2 = 0 then e_M_band_131 q x1 x2 x3 x4 x5 x6 x3 μ ν else (if x2 = 1 then e_M_band_131 q x1 x2 x3 x4 x5 x6 x4 μ ν else e_M_band_131 q x1 x2 x3 x4 x5 x6 x5 μ ν)) else Option.bind (E_M_powerAt q x6 μ ν) fun ty4 => (if 0 ≤ (lg_cmp (100 * (Int32.toInt64 ty4.1)) ((Int32.toInt64 x1) * (Int32.toInt64 (ty4.2.1 (q + 7) 144)))) then (if x3 = (-1) then e_M_band_97 q (f_M_band_48 q n) x1 x2 x3 x4 x5 x6 x6 ty4.2.1 ty4.2.2 else e_M_band_97 q (f_M_band_48 q n) x1 x2 x3 x4 x5 x6 x3 ty4.2.1 ty4.2.2) else e_M_band_105 q (f_M_band_48 q n) x1 x2 x3 x4 x5 x6 ty4.2.1 ty4.2.2))
theorem z_M_band_48 {l : Launch} {D : va_G} {dA : Nat → ClassId} {ad : Nat → Nat} {sh : List zSE}  {q : Nat} (hm : zMo sh q)  {out : (Int32 × zI × zJ)} : ∀ (n : Nat) (x1 : Int32) (x2 : Int32) (x3 : Int32) (x4 : Int32) (x5 : Int32) (x6 : Int32) (μ : zI) (ν : zJ), f_M_band_48 q  n x1 x2 x3 x4 x5 x6 μ ν = some out → Z l D dA ad sh m_M_band (zR 5 0 0) (zS ad) (zOi out) 0 0 0 0 [] 48 [(0, .ref (ad q)), (1, .int x1), (2, .int x2), (3, .int x3), (4, .int x4), (5, .int x5), (6, .int x6)] [] μ ν := by
  intro n
  induction n with
  | zero => intro x1 x2 x3 x4 x5 x6 μ ν hF; cases hF
  | succ n ih =>
    intro x1 x2 x3 x4 x5 x6 μ ν hF
    dsimp only [f_M_band_48] at hF
    refine z_iload d_M_band_48 6 rfl ?_
    refine z_sipush d_M_band_50 (v := 1000) (by decide) ?_
    refine z_icmp_ge d_M_band_53 (tgt := 111) (by decide) (fun cy1 => ?_) (fun cy1 => ?_)
    · replace hF := zh_t cy1 hF
      refine z_iload_n d_M_band_111 2 rfl rfl ?_
      refine z_if_ne d_M_band_112 (tgt := 119) (by decide) (fun cy2 => ?_) (fun cy2 => ?_)
      · replace hF := zh_f cy2 hF
        refine z_iload_n d_M_band_119 2 rfl rfl ?_
        refine z_iconst d_M_band_120 (v := 1) (by decide) ?_
        refine z_icmp_ne d_M_band_121 (tgt := 129) (by decide) (fun cy3 => ?_) (fun cy3 => ?_)
        · replace hF := zh_f cy3 hF
          refine z_iload d_M_band_129 5 rfl ?_
          exact z_M_band_131 hm  hF
        · replace hF := zh_t cy3 hF
          refine z_iload d_M_band_124 4 rfl ?_
          refine z_goto d_M_band_126 (tgt := 131) (by decide) ?_
          exact z_M_band_131 hm  hF
      · replace hF := zh_t cy2 hF
        refine z_iload_n d_M_band_115 3 rfl rfl ?_
        refine z_goto d_M_band_116 (tgt := 131) (by decide) ?_
        exact z_M_band_131 hm  hF
    · replace hF := zh_f cy1 hF
      refine z_ldc2 d_M_band_56 k_M_227 ?_
      refine z_aload_n d_M_band_59 0 rfl rfl ?_
      refine z_iload d_M_band_60 6 rfl ?_
      obtain ⟨ty4, hty4, hF⟩ := zh_bind hF
      refine z_callV d_M_band_62 (c_M_powerAt hm hty4) mv_M_powerAt l_M_188 (fun _ _ h => h) (hm 0 _ rfl) rfl rfl ⟨Nat.le_of_ble_eq_true rfl, Nat.le_of_ble_eq_true rfl⟩ ⟨Nat.le_of_ble_eq_true rfl, Nat.le_of_ble_eq_true rfl⟩ rfl (Nat.le_of_ble_eq_true rfl) (fun r μ' ν' hq => ?_)
      obtain ⟨rfl, rfl, rfl⟩ := hq
      show Z _ _ _ _ _ _ _ _ _ _ _ 0 0 _ _ _ [.int ty4.1, .long 100] _ _
      refine z_i2l d_M_band_65 ?_
      refine z_lmul d_M_band_66 ?_
      refine z_iload_n d_M_band_67 1 rfl rfl ?_
      refine z_i2l d_M_band_68 ?_
      refine z_aload_n d_M_band_69 0 rfl rfl ?_
      refine z_getr d_M_band_70 (q := (q + 7)) f_M_33 (hm 0 _ rfl) rfl ?_
      refine z_sipush d_M_band_73 (v := 144) (by decide) ?_
      refine z_iald d_M_band_76 (hm 7 _ rfl) (zin_vp rfl) ?_
      show Z _ _ _ _ _ _ _ _ _ _ _ _ _ _ _ _ [.int (ty4.2.1 (q + 7) 144), .long (Int32.toInt64 x1), .long (100 * (Int32.toInt64 ty4.1))] _ _
      refine z_i2l d_M_band_77 ?_
      refine z_lmul d_M_band_78 ?_
      refine z_lcmp d_M_band_79 ?_
      refine z_if_ge d_M_band_80 (tgt := 86) (by decide) (fun cy5 => ?_) (fun cy5 => ?_)
      · replace hF := zh_t cy5 hF
        refine z_iload_n d_M_band_86 3 rfl rfl ?_
        refine z_iconst d_M_band_87 (v := (-1)) (by decide) ?_
        refine z_icmp_ne d_M_band_88 (tgt := 96) (by decide) (fun cy6 => ?_) (fun cy6 => ?_)
        · replace hF := zh_f cy6 hF
          refine z_iload_n d_M_band_96 3 rfl rfl ?_
          exact z_M_band_97 hm (fun a0 a1 a2 a3 a4 a5 a6 a7 => ih a0 a1 a2 a3 a4 a5 a6 a7) hF
        · replace hF := zh_t cy6 hF
          refine z_iload d_M_band_91 6 rfl ?_
          refine z_goto d_M_band_93 (tgt := 97) (by decide) ?_
          exact z_M_band_97 hm (fun a0 a1 a2 a3 a4 a5 a6 a7 => ih a0 a1 a2 a3 a4 a5 a6 a7) hF
      · replace hF := zh_f cy5 hF
        refine z_goto d_M_band_83 (tgt := 105) (by decide) ?_
        exact z_M_band_105 hm (fun a0 a1 a2 a3 a4 a5 a6 a7 => ih a0 a1 a2 a3 a4 a5 a6 a7) hF
def e_M_band_0 (q : Nat)  (x1 : Int32) (x2 : Int32) (μ : zI) (ν : zJ) : Option (Int32 × zI × zJ) := zlet (zu μ q 0 0) fun μy1 => (if x1 < 1 then e_M_band_25 q x1 x2 μy1 ν else (if 100 < x1 then e_M_band_25 q x1 x2 μy1 ν else (if x2 < 0 then e_M_band_25 q x1 x2 μy1 ν else (if x2 ≤ 2 then Option.bind (E_M_bestNow q μy1 ν) fun ty6 => (if ty6.1 = 0 then some ((-2), ty6.2.1, ty6.2.2) else f_M_band_48 q zFuel x1 x2 (-1) (-1) 0 0 ty6.2.1 ty6.2.2) else e_M_band_25 q x1 x2 μy1 ν))))
theorem z_M_band_0 {l : Launch} {D : va_G} {dA : Nat → ClassId} {ad : Nat → Nat} {sh : List zSE}  {q : Nat} (hm : zMo sh q)  {x1 : Int32} {x2 : Int32} {μ : zI} {ν : zJ} {out : (Int32 × zI × zJ)} (hF : e_M_band_0 q  x1 x2 μ ν = some out) : Z l D dA ad sh m_M_band (zR 5 0 0) (zS ad) (zOi out) 0 0 0 0 [] 0 [(0, .ref (ad q)), (1, .int x1), (2, .int x2)] [] μ ν := by
  unfold e_M_band_0 at hF
  refine z_aload_n d_M_band_0 0 rfl rfl ?_
  refine z_iconst d_M_band_1 (v := 0) (by decide) ?_
  refine z_put d_M_band_2 f_M_55 (hm 0 _ rfl) rfl (CL_fin _ _ (fun q hq => by cases hq; rfl)) rfl rfl ?_
  obtain ⟨μy1, hy1, hF⟩ := zh_let hF
  refine z_eqm hy1 ?_
  refine z_iload_n d_M_band_5 1 rfl rfl ?_
  refine z_iconst d_M_band_6 (v := 1) (by decide) ?_
  refine z_icmp_lt d_M_band_7 (tgt := 25) (by decide) (fun cy2 => ?_) (fun cy2 => ?_)
  · replace hF := zh_t cy2 hF
    exact z_M_band_25 hm  hF
  · replace hF := zh_f cy2 hF
    refine z_iload_n d_M_band_10 1 rfl rfl ?_
    refine z_bipush d_M_band_11 (v := 100) (by decide) ?_
    refine z_icmp_gt d_M_band_13 (tgt := 25) (by decide) (fun cy3 => ?_) (fun cy3 => ?_)
    · replace hF := zh_t cy3 hF
      exact z_M_band_25 hm  hF
    · replace hF := zh_f cy3 hF
      refine z_iload_n d_M_band_16 2 rfl rfl ?_
      refine z_if_lt d_M_band_17 (tgt := 25) (by decide) (fun cy4 => ?_) (fun cy4 => ?_)
      · replace hF := zh_t cy4 hF
        exact z_M_band_25 hm  hF
      · replace hF := zh_f cy4 hF
        refine z_iload_n d_M_band_20 2 rfl rfl ?_
        refine z_iconst d_M_band_21 (v := 2) (by decide) ?_
        refine z_icmp_le d_M_band_22 (tgt := 27) (by decide) (fun cy5 => ?_) (fun cy5 => ?_)
        · replace hF := zh_t cy5 hF
          refine z_aload_n d_M_band_27 0 rfl rfl ?_
          obtain ⟨ty6, hty6, hF⟩ := zh_bind hF
          refine z_callV d_M_band_28 (c_M_bestNow hm hty6) mv_M_bestNow l_M_256 (fun _ _ h => h) (hm 0 _ rfl) rfl rfl ⟨Nat.le_of_ble_eq_true rfl, Nat.le_of_ble_eq_true rfl⟩ ⟨Nat.le_of_ble_eq_true rfl, Nat.le_of_ble_eq_true rfl⟩ rfl (Nat.le_of_ble_eq_true rfl) (fun r μ' ν' hq => ?_)
          obtain ⟨rfl, rfl, rfl⟩ := hq
          show Z _ _ _ _ _ _ _ _ _ _ _ 0 0 _ _ _ [.int ty6.1] _ _
          refine z_if_ne d_M_band_31 (tgt := 37) (by decide) (fun cy7 => ?_) (fun cy7 => ?_)
          · replace hF := zh_f cy7 hF
            refine z_iconst d_M_band_37 (v := (-1)) (by decide) ?_
            refine z_istore_n d_M_band_38 rfl (by decide) (L2 := [(3, .int (-1)), (0, .ref (ad q)), (1, .int x1), (2, .int x2)]) rfl ?_
            refine z_iconst d_M_band_39 (v := (-1)) (by decide) ?_
            refine z_istore d_M_band_40 (by decide) (L2 := [(4, .int (-1)), (3, .int (-1)), (0, .ref (ad q)), (1, .int x1), (2, .int x2)]) rfl ?_
            refine z_iconst d_M_band_42 (v := 0) (by decide) ?_
            refine z_istore d_M_band_43 (by decide) (L2 := [(5, .int 0), (4, .int (-1)), (3, .int (-1)), (0, .ref (ad q)), (1, .int x1), (2, .int x2)]) rfl ?_
            refine z_iconst d_M_band_45 (v := 0) (by decide) ?_
            refine z_istore d_M_band_46 (by decide) (L2 := [(6, .int 0), (5, .int 0), (4, .int (-1)), (3, .int (-1)), (0, .ref (ad q)), (1, .int x1), (2, .int x2)]) rfl ?_
            refine z_sub [4, 5, 6, 3, 2, 1, 0] (L' := [(0, .ref (ad q)), (1, .int x1), (2, .int x2), (3, .int (-1)), (4, .int (-1)), (5, .int 0), (6, .int 0)]) rfl ?_
            exact z_M_band_48 hm  zFuel _ _ _ _ _ _ _ _ hF
          · replace hF := zh_t cy7 hF
            refine z_bipush d_M_band_34 (v := (-2)) (by decide) ?_
            cases hF
            exact z_ireturn d_M_band_36 rfl rfl ⟨rfl, rfl, rfl⟩
        · replace hF := zh_f cy5 hF
          exact z_M_band_25 hm  hF
def E_M_band (q : Nat) (x1 : Int32) (x2 : Int32) (μ : zI) (ν : zJ) : Option (Int32 × zI × zJ) := e_M_band_0 q x1 x2 μ ν
theorem c_M_band {l : Launch} {D : va_G} {dA : Nat → ClassId} {ad : Nat → Nat} {sh : List zSE} {μ : zI} {ν : zJ} {q : Nat} {x1 : Int32} {x2 : Int32} (hm : zMo sh q) {out : (Int32 × zI × zJ)} (hE : E_M_band q x1 x2 μ ν = some out) : zC l D dA ad sh m_M_band 5 0 0 [.ref (ad q), .int x1, .int x2] μ ν (zOi out) :=
  zC.of (by decide) (Nat.le_of_ble_eq_true rfl) (z_M_band_0 hm hE)
def e_M_climbed_105 (q : Nat) (r18 : Int32 → Int32 → Int32 → zI → zJ → Option (Int32 × zI × zJ)) (x1 : Int32) (x2 : Int32) (x3 : Int32) (x4 : Int32) (x5 : Int32) (x6 : Int32) (μ : zI) (ν : zJ) : Option (Int32 × zI × zJ) := r18 x1 x2 x3 μ ν
theorem z_M_climbed_105 {l : Launch} {D : va_G} {dA : Nat → ClassId} {ad : Nat → Nat} {sh : List zSE}  {q : Nat} (hm : zMo sh q) {r18 : Int32 → Int32 → Int32 → zI → zJ → Option (Int32 × zI × zJ)} {x1 : Int32} {x2 : Int32} {x3 : Int32} {x4 : Int32} {x5 : Int32} {x6 : Int32} {μ : zI} {ν : zJ} {out : (Int32 × zI × zJ)} (hr18 : ∀ (x1 : Int32) (x2 : Int32) (x3 : Int32) (μ : zI) (ν : zJ), r18 x1 x2 x3 μ ν = some out → Z l D dA ad sh m_M_climbed (zR 3 0 0) (zS ad) (zOi out) 0 0 0 0 [] 18 [(0, .ref (ad q)), (1, .int x1), (2, .int x2), (3, .int x3)] [] μ ν) (hF : e_M_climbed_105 q r18 x1 x2 x3 x4 x5 x6 μ ν = some out) : Z l D dA ad sh m_M_climbed (zR 3 0 0) (zS ad) (zOi out) 0 0 0 0 [] 105 [(0, .ref (ad q)), (1, .int x1), (2, .int x2), (3, .int x3), (4, .int x4), (5, .int x5), (6, .int x6)] [] μ ν := by
  unfold e_M_climbed_105 at hF
  refine z_goto d_M_climbed_105 (tgt := 18) (by decide) ?_
  refine z_sub [0, 1, 2, 3] (L' := [(0, .ref (ad q)), (1, .int x1), (2, .int x2), (3, .int x3)]) rfl ?_
  exact hr18 _ _ _ _ _ hF
def e_M_climbed_103 (q : Nat) (r18 : Int32 → Int32 → Int32 → zI → zJ → Option (Int32 × zI × zJ)) (x1 : Int32) (x2 : Int32) (x3 : Int32) (x4 : Int32) (x5 : Int32) (x6 : Int32) (s0 : Int32) (s1 : Int32) (μ : zI) (ν : zJ) : Option (Int32 × zI × zJ) := zlet (α := Int32) (s0 + s1) fun y1 => e_M_climbed_105 q r18 x1 y1 x3 x4 x5 x6 μ ν
theorem z_M_climbed_103 {l : Launch} {D : va_G} {dA : Nat → ClassId} {ad : Nat → Nat} {sh : List zSE}  {q : Nat} (hm : zMo sh q) {r18 : Int32 → Int32 → Int32 → zI → zJ → Option (Int32 × zI × zJ)} {x1 : Int32} {x2 : Int32} {x3 : Int32} {x4 : Int32} {x5 : Int32} {x6 : Int32} {s0 : Int32} {s1 : Int32} {μ : zI} {ν : zJ} {out : (Int32 × zI × zJ)} (hr18 : ∀ (x1 : Int32) (x2 : Int32) (x3 : Int32) (μ : zI) (ν : zJ), r18 x1 x2 x3 μ ν = some out → Z l D dA ad sh m_M_climbed (zR 3 0 0) (zS ad) (zOi out) 0 0 0 0 [] 18 [(0, .ref (ad q)), (1, .int x1), (2, .int x2), (3, .int x3)] [] μ ν) (hF : e_M_climbed_103 q r18 x1 x2 x3 x4 x5 x6 s0 s1 μ ν = some out) : Z l D dA ad sh m_M_climbed (zR 3 0 0) (zS ad) (zOi out) 0 0 0 0 [] 103 [(0, .ref (ad q)), (1, .int x1), (2, .int x2), (3, .int x3), (4, .int x4), (5, .int x5), (6, .int x6)] [.int s1, .int s0] μ ν := by
  unfold e_M_climbed_103 at hF
  refine z_iadd d_M_climbed_103 ?_
  obtain ⟨y1, hy1, hF⟩ := zh_let hF
  refine z_eqi hy1 ?_
  refine z_istore_n d_M_climbed_104 rfl (by decide) (L2 := [(2, .int y1), (0, .ref (ad q)), (1, .int x1), (3, .int x3), (4, .int x4), (5, .int x5), (6, .int x6)]) rfl ?_
  refine z_sub [1, 2, 0, 3, 4, 5, 6] (L' := [(0, .ref (ad q)), (1, .int x1), (2, .int y1), (3, .int x3), (4, .int x4), (5, .int x5), (6, .int x6)]) rfl ?_
  exact z_M_climbed_105 hm hr18 hF
def e_M_climbed_85 (q : Nat) (r18 : Int32 → Int32 → Int32 → zI → zJ → Option (Int32 × zI × zJ)) (x1 : Int32) (x2 : Int32) (x3 : Int32) (x4 : Int32) (x5 : Int32) (x6 : Int32) (s0 : Int32) (μ : zI) (ν : zJ) : Option (Int32 × zI × zJ) := (if s0 = 0 then e_M_climbed_105 q r18 x1 x2 s0 x4 x5 x6 μ ν else (if x5 ≤ x6 then e_M_climbed_103 q r18 x1 x2 s0 x4 x5 x6 x2 (-1) μ ν else e_M_climbed_103 q r18 x1 x2 s0 x4 x5 x6 x2 1 μ ν))
theorem z_M_climbed_85 {l : Launch} {D : va_G} {dA : Nat → ClassId} {ad : Nat → Nat} {sh : List zSE}  {q : Nat} (hm : zMo sh q) {r18 : Int32 → Int32 → Int32 → zI → zJ → Option (Int32 × zI × zJ)} {x1 : Int32} {x2 : Int32} {x3 : Int32} {x4 : Int32} {x5 : Int32} {x6 : Int32} {s0 : Int32} {μ : zI} {ν : zJ} {out : (Int32 × zI × zJ)} (hr18 : ∀ (x1 : Int32) (x2 : Int32) (x3 : Int32) (μ : zI) (ν : zJ), r18 x1 x2 x3 μ ν = some out → Z l D dA ad sh m_M_climbed (zR 3 0 0) (zS ad) (zOi out) 0 0 0 0 [] 18 [(0, .ref (ad q)), (1, .int x1), (2, .int x2), (3, .int x3)] [] μ ν) (hF : e_M_climbed_85 q r18 x1 x2 x3 x4 x5 x6 s0 μ ν = some out) : Z l D dA ad sh m_M_climbed (zR 3 0 0) (zS ad) (zOi out) 0 0 0 0 [] 85 [(0, .ref (ad q)), (1, .int x1), (2, .int x2), (3, .int x3), (4, .int x4), (5, .int x5), (6, .int x6)] [.int s0] μ ν := by
  unfold e_M_climbed_85 at hF
  refine z_istore_n d_M_climbed_85 rfl (by decide) (L2 := [(3, .int s0), (0, .ref (ad q)), (1, .int x1), (2, .int x2), (4, .int x4), (5, .int x5), (6, .int x6)]) rfl ?_
  refine z_iload_n d_M_climbed_86 0 rfl rfl ?_
  refine z_if_eq d_M_climbed_87 (tgt := 105) (by decide) (fun cy1 => ?_) (fun cy1 => ?_)
  · replace hF := zh_t cy1 hF
    refine z_sub [1, 2, 3, 0, 4, 5, 6] (L' := [(0, .ref (ad q)), (1, .int x1), (2, .int x2), (3, .int s0), (4, .int x4), (5, .int x5), (6, .int x6)]) rfl ?_
    exact z_M_climbed_105 hm hr18 hF
  · replace hF := zh_f cy1 hF
    refine z_iload_n d_M_climbed_90 3 rfl rfl ?_
    refine z_iload d_M_climbed_91 5 rfl ?_
    refine z_iload d_M_climbed_93 6 rfl ?_
    refine z_icmp_le d_M_climbed_95 (tgt := 102) (by decide) (fun cy2 => ?_) (fun cy2 => ?_)
    · replace hF := zh_t cy2 hF
      refine z_iconst d_M_climbed_102 (v := (-1)) (by decide) ?_
      refine z_sub [1, 2, 3, 0, 4, 5, 6] (L' := [(0, .ref (ad q)), (1, .int x1), (2, .int x2), (3, .int s0), (4, .int x4), (5, .int x5), (6, .int x6)]) rfl ?_
      exact z_M_climbed_103 hm hr18 hF
    · replace hF := zh_f cy2 hF
      refine z_iconst d_M_climbed_98 (v := 1) (by decide) ?_
      refine z_goto d_M_climbed_99 (tgt := 103) (by decide) ?_
      refine z_sub [1, 2, 3, 0, 4, 5, 6] (L' := [(0, .ref (ad q)), (1, .int x1), (2, .int x2), (3, .int s0), (4, .int x4), (5, .int x5), (6, .int x6)]) rfl ?_
      exact z_M_climbed_103 hm hr18 hF
def e_M_climbed_80 (q : Nat) (r18 : Int32 → Int32 → Int32 → zI → zJ → Option (Int32 × zI × zJ)) (x1 : Int32) (x2 : Int32) (x3 : Int32) (x4 : Int32) (x5 : Int32) (x6 : Int32) (μ : zI) (ν : zJ) : Option (Int32 × zI × zJ) := e_M_climbed_85 q r18 x1 x2 x3 x4 x5 x6 1 μ ν
theorem z_M_climbed_80 {l : Launch} {D : va_G} {dA : Nat → ClassId} {ad : Nat → Nat} {sh : List zSE}  {q : Nat} (hm : zMo sh q) {r18 : Int32 → Int32 → Int32 → zI → zJ → Option (Int32 × zI × zJ)} {x1 : Int32} {x2 : Int32} {x3 : Int32} {x4 : Int32} {x5 : Int32} {x6 : Int32} {μ : zI} {ν : zJ} {out : (Int32 × zI × zJ)} (hr18 : ∀ (x1 : Int32) (x2 : Int32) (x3 : Int32) (μ : zI) (ν : zJ), r18 x1 x2 x3 μ ν = some out → Z l D dA ad sh m_M_climbed (zR 3 0 0) (zS ad) (zOi out) 0 0 0 0 [] 18 [(0, .ref (ad q)), (1, .int x1), (2, .int x2), (3, .int x3)] [] μ ν) (hF : e_M_climbed_80 q r18 x1 x2 x3 x4 x5 x6 μ ν = some out) : Z l D dA ad sh m_M_climbed (zR 3 0 0) (zS ad) (zOi out) 0 0 0 0 [] 80 [(0, .ref (ad q)), (1, .int x1), (2, .int x2), (3, .int x3), (4, .int x4), (5, .int x5), (6, .int x6)] [] μ ν := by
  unfold e_M_climbed_80 at hF
  refine z_iconst d_M_climbed_80 (v := 1) (by decide) ?_
  refine z_goto d_M_climbed_81 (tgt := 85) (by decide) ?_
  exact z_M_climbed_85 hm hr18 hF
def e_M_climbed_64 (q : Nat) (r18 : Int32 → Int32 → Int32 → zI → zJ → Option (Int32 × zI × zJ)) (x1 : Int32) (x2 : Int32) (x3 : Int32) (x4 : Int32) (x5 : Int32) (s0 : Int32) (μ : zI) (ν : zJ) : Option (Int32 × zI × zJ) := (if x4 < x5 then e_M_climbed_80 q r18 x1 x2 x3 x4 x5 s0 μ ν else (if s0 ≤ x4 then e_M_climbed_85 q r18 x1 x2 x3 x4 x5 s0 0 μ ν else e_M_climbed_80 q r18 x1 x2 x3 x4 x5 s0 μ ν))
theorem z_M_climbed_64 {l : Launch} {D : va_G} {dA : Nat → ClassId} {ad : Nat → Nat} {sh : List zSE}  {q : Nat} (hm : zMo sh q) {r18 : Int32 → Int32 → Int32 → zI → zJ → Option (Int32 × zI × zJ)} {x1 : Int32} {x2 : Int32} {x3 : Int32} {x4 : Int32} {x5 : Int32} {s0 : Int32} {μ : zI} {ν : zJ} {out : (Int32 × zI × zJ)} (hr18 : ∀ (x1 : Int32) (x2 : Int32) (x3 : Int32) (μ : zI) (ν : zJ), r18 x1 x2 x3 μ ν = some out → Z l D dA ad sh m_M_climbed (zR 3 0 0) (zS ad) (zOi out) 0 0 0 0 [] 18 [(0, .ref (ad q)), (1, .int x1), (2, .int x2), (3, .int x3)] [] μ ν) (hF : e_M_climbed_64 q r18 x1 x2 x3 x4 x5 s0 μ ν = some out) : Z l D dA ad sh m_M_climbed (zR 3 0 0) (zS ad) (zOi out) 0 0 0 0 [] 64 [(0, .ref (ad q)), (1, .int x1), (2, .int x2), (3, .int x3), (4, .int x4), (5, .int x5)] [.int s0] μ ν := by
  unfold e_M_climbed_64 at hF
  refine z_istore d_M_climbed_64 (by decide) (L2 := [(6, .int s0), (0, .ref (ad q)), (1, .int x1), (2, .int x2), (3, .int x3), (4, .int x4), (5, .int x5)]) rfl ?_
  refine z_iload d_M_climbed_66 6 rfl ?_
  refine z_iload d_M_climbed_68 5 rfl ?_
  refine z_icmp_gt d_M_climbed_70 (tgt := 80) (by decide) (fun cy1 => ?_) (fun cy1 => ?_)
  · replace hF := zh_t cy1 hF
    refine z_sub [1, 2, 3, 4, 5, 6, 0] (L' := [(0, .ref (ad q)), (1, .int x1), (2, .int x2), (3, .int x3), (4, .int x4), (5, .int x5), (6, .int s0)]) rfl ?_
    exact z_M_climbed_80 hm hr18 hF
  · replace hF := zh_f cy1 hF
    refine z_iload d_M_climbed_73 0 rfl ?_
    refine z_iload d_M_climbed_75 5 rfl ?_
    refine z_icmp_le d_M_climbed_77 (tgt := 84) (by decide) (fun cy2 => ?_) (fun cy2 => ?_)
    · replace hF := zh_t cy2 hF
      refine z_iconst d_M_climbed_84 (v := 0) (by decide) ?_
      refine z_sub [1, 2, 3, 4, 5, 6, 0] (L' := [(0, .ref (ad q)), (1, .int x1), (2, .int x2), (3, .int x3), (4, .int x4), (5, .int x5), (6, .int s0)]) rfl ?_
      exact z_M_climbed_85 hm hr18 hF
    · replace hF := zh_f cy2 hF
      refine z_sub [1, 2, 3, 4, 5, 6, 0] (L' := [(0, .ref (ad q)), (1, .int x1), (2, .int x2), (3, .int x3), (4, .int x4), (5, .int x5), (6, .int s0)]) rfl ?_
      exact z_M_climbed_80 hm hr18 hF
def e_M_climbed_47 (q : Nat) (r18 : Int32 → Int32 → Int32 → zI → zJ → Option (Int32 × zI × zJ)) (x1 : Int32) (x2 : Int32) (x3 : Int32) (x4 : Int32) (s0 : Int32) (μ : zI) (ν : zJ) : Option (Int32 × zI × zJ) := (if x2 ≤ 0 then e_M_climbed_64 q r18 x1 x2 x3 x4 s0 (-1) μ ν else Option.bind (E_M_powerAt q (x2 - 1) μ ν) fun ty2 => e_M_climbed_64 q r18 x1 x2 x3 x4 s0 ty2.1 ty2.2.1 ty2.2.2)
theorem z_M_climbed_47 {l : Launch} {D : va_G} {dA : Nat → ClassId} {ad : Nat → Nat} {sh : List zSE}  {q : Nat} (hm : zMo sh q) {r18 : Int32 → Int32 → Int32 → zI → zJ → Option (Int32 × zI × zJ)} {x1 : Int32} {x2 : Int32} {x3 : Int32} {x4 : Int32} {s0 : Int32} {μ : zI} {ν : zJ} {out : (Int32 × zI × zJ)} (hr18 : ∀ (x1 : Int32) (x2 : Int32) (x3 : Int32) (μ : zI) (ν : zJ), r18 x1 x2 x3 μ ν = some out → Z l D dA ad sh m_M_climbed (zR 3 0 0) (zS ad) (zOi out) 0 0 0 0 [] 18 [(0, .ref (ad q)), (1, .int x1), (2, .int x2), (3, .int x3)] [] μ ν) (hF : e_M_climbed_47 q r18 x1 x2 x3 x4 s0 μ ν = some out) : Z l D dA ad sh m_M_climbed (zR 3 0 0) (zS ad) (zOi out) 0 0 0 0 [] 47 [(0, .ref (ad q)), (1, .int x1), (2, .int x2), (3, .int x3), (4, .int x4)] [.int s0] μ ν := by
  unfold e_M_climbed_47 at hF
  refine z_istore d_M_climbed_47 (by decide) (L2 := [(5, .int s0), (0, .ref (ad q)), (1, .int x1), (2, .int x2), (3, .int x3), (4, .int x4)]) rfl ?_
  refine z_iload_n d_M_climbed_49 3 rfl rfl ?_
  refine z_if_le d_M_climbed_50 (tgt := 63) (by decide) (fun cy1 => ?_) (fun cy1 => ?_)
  · replace hF := zh_t cy1 hF
    refine z_iconst d_M_climbed_63 (v := (-1)) (by decide) ?_
    refine z_sub [1, 2, 3, 4, 5, 0] (L' := [(0, .ref (ad q)), (1, .int x1), (2, .int x2), (3, .int x3), (4, .int x4), (5, .int s0)]) rfl ?_
    exact z_M_climbed_64 hm hr18 hF
  · replace hF := zh_f cy1 hF
    refine z_aload_n d_M_climbed_53 1 rfl rfl ?_
    refine z_iload_n d_M_climbed_54 3 rfl rfl ?_
    refine z_iconst d_M_climbed_55 (v := 1) (by decide) ?_
    refine z_isub d_M_climbed_56 ?_
    obtain ⟨ty2, hty2, hF⟩ := zh_bind hF
    refine z_callV d_M_climbed_57 (c_M_powerAt hm hty2) mv_M_powerAt l_M_188 (fun _ _ h => h) (hm 0 _ rfl) rfl rfl ⟨Nat.le_of_ble_eq_true rfl, Nat.le_of_ble_eq_true rfl⟩ ⟨Nat.le_of_ble_eq_true rfl, Nat.le_of_ble_eq_true rfl⟩ rfl (Nat.le_of_ble_eq_true rfl) (fun r μ' ν' hq => ?_)
    obtain ⟨rfl, rfl, rfl⟩ := hq
    show Z _ _ _ _ _ _ _ _ _ _ _ 0 0 _ _ _ [.int ty2.1] _ _
    refine z_goto d_M_climbed_60 (tgt := 64) (by decide) ?_
    refine z_sub [1, 2, 3, 4, 5, 0] (L' := [(0, .ref (ad q)), (1, .int x1), (2, .int x2), (3, .int x3), (4, .int x4), (5, .int s0)]) rfl ?_
    exact z_M_climbed_64 hm hr18 hF
def f_M_climbed_18 (q : Nat)  : Nat → Int32 → Int32 → Int32 → zI → zJ → Option (Int32 × zI × zJ)
  | 0, _, _, _, _, _ => none
  | n + 1, x1, x2, x3, μ, ν => (if x3 = 0 then some (x2, μ, ν) else Option.bind (E_M_powerAt q x2 μ ν) fun ty2 => zlet (α := Int32) ty2.1 fun y3 => (if 999 ≤ x2 then e_M_climbed_47 q (f_M_climbed_18 q n) x1 x2 x3 y3 (-1) ty2.2.1 ty2.2.2 else Option.bind (E_M_powerAt q (x2 + 1) ty2.2.1 ty2.2.2) fun ty5 => e_M_climbed_47 q (f_M_climbed_18 q n) x1 x2 x3 y3 ty5.1 ty5.2.1 ty5.2.2))
theorem z_M_climbed_18 {l : Launch} {D : va_G} {dA : Nat → ClassId} {ad : Nat → Nat} {sh : List zSE}  {q : Nat} (hm : zMo sh q)  {out : (Int32 × zI × zJ)} : ∀ (n : Nat) (x1 : Int32) (x2 : Int32) (x3 : Int32) (μ : zI) (ν : zJ), f_M_climbed_18 q  n x1 x2 x3 μ ν = some out → Z l D dA ad sh m_M_climbed (zR 3 0 0) (zS ad) (zOi out) 0 0 0 0 [] 18 [(0, .ref (ad q)), (1, .int x1), (2, .int x2), (3, .int x3)] [] μ ν := by
  intro n
  induction n with
  | zero => intro x1 x2 x3 μ ν hF; cases hF
  | succ n ih =>
    intro x1 x2 x3 μ ν hF
    dsimp only [f_M_climbed_18] at hF
    refine z_iload_n d_M_climbed_18 3 rfl rfl ?_
    refine z_if_eq d_M_climbed_19 (tgt := 108) (by decide) (fun cy1 => ?_) (fun cy1 => ?_)
    · replace hF := zh_t cy1 hF
      refine z_iload_n d_M_climbed_108 2 rfl rfl ?_
      cases hF
      exact z_ireturn d_M_climbed_109 rfl rfl ⟨rfl, rfl, rfl⟩
    · replace hF := zh_f cy1 hF
      refine z_aload_n d_M_climbed_22 0 rfl rfl ?_
      refine z_iload_n d_M_climbed_23 2 rfl rfl ?_
      obtain ⟨ty2, hty2, hF⟩ := zh_bind hF
      refine z_callV d_M_climbed_24 (c_M_powerAt hm hty2) mv_M_powerAt l_M_188 (fun _ _ h => h) (hm 0 _ rfl) rfl rfl ⟨Nat.le_of_ble_eq_true rfl, Nat.le_of_ble_eq_true rfl⟩ ⟨Nat.le_of_ble_eq_true rfl, Nat.le_of_ble_eq_true rfl⟩ rfl (Nat.le_of_ble_eq_true rfl) (fun r μ' ν' hq => ?_)
      obtain ⟨rfl, rfl, rfl⟩ := hq
      show Z _ _ _ _ _ _ _ _ _ _ _ 0 0 _ _ _ [.int ty2.1] _ _
      obtain ⟨y3, hy3, hF⟩ := zh_let hF
      refine z_eqi hy3 ?_
      refine z_istore d_M_climbed_27 (by decide) (L2 := [(4, .int y3), (0, .ref (ad q)), (1, .int x1), (2, .int x2), (3, .int x3)]) rfl ?_
      refine z_iload_n d_M_climbed_29 3 rfl rfl ?_
      refine z_sipush d_M_climbed_30 (v := 999) (by decide) ?_
      refine z_icmp_ge d_M_climbed_33 (tgt := 46) (by decide) (fun cy4 => ?_) (fun cy4 => ?_)
      · replace hF := zh_t cy4 hF
        refine z_iconst d_M_climbed_46 (v := (-1)) (by decide) ?_
        refine z_sub [1, 2, 3, 4, 0] (L' := [(0, .ref (ad q)), (1, .int x1), (2, .int x2), (3, .int x3), (4, .int y3)]) rfl ?_
        exact z_M_climbed_47 hm (fun a0 a1 a2 a3 a4 => ih a0 a1 a2 a3 a4) hF
      · replace hF := zh_f cy4 hF
        refine z_aload_n d_M_climbed_36 1 rfl rfl ?_
        refine z_iload_n d_M_climbed_37 3 rfl rfl ?_
        refine z_iconst d_M_climbed_38 (v := 1) (by decide) ?_
        refine z_iadd d_M_climbed_39 ?_
        obtain ⟨ty5, hty5, hF⟩ := zh_bind hF
        refine z_callV d_M_climbed_40 (c_M_powerAt hm hty5) mv_M_powerAt l_M_188 (fun _ _ h => h) (hm 0 _ rfl) rfl rfl ⟨Nat.le_of_ble_eq_true rfl, Nat.le_of_ble_eq_true rfl⟩ ⟨Nat.le_of_ble_eq_true rfl, Nat.le_of_ble_eq_true rfl⟩ rfl (Nat.le_of_ble_eq_true rfl) (fun r μ' ν' hq => ?_)
        obtain ⟨rfl, rfl, rfl⟩ := hq
        show Z _ _ _ _ _ _ _ _ _ _ _ 0 0 _ _ _ [.int ty5.1] _ _
        refine z_goto d_M_climbed_43 (tgt := 47) (by decide) ?_
        refine z_sub [1, 2, 3, 4, 0] (L' := [(0, .ref (ad q)), (1, .int x1), (2, .int x2), (3, .int x3), (4, .int y3)]) rfl ?_
        exact z_M_climbed_47 hm (fun a0 a1 a2 a3 a4 => ih a0 a1 a2 a3 a4) hF
def e_M_climbed_0 (q : Nat)  (x1 : Int32) (μ : zI) (ν : zJ) : Option (Int32 × zI × zJ) := zlet (zu μ q 0 0) fun μy1 => Option.bind (E_M_isPoint x1 μy1 ν) fun ty2 => (if ty2.1 = 0 then some ((-1), ty2.2.1, ty2.2.2) else f_M_climbed_18 q zFuel x1 x1 1 ty2.2.1 ty2.2.2)
theorem z_M_climbed_0 {l : Launch} {D : va_G} {dA : Nat → ClassId} {ad : Nat → Nat} {sh : List zSE}  {q : Nat} (hm : zMo sh q)  {x1 : Int32} {μ : zI} {ν : zJ} {out : (Int32 × zI × zJ)} (hF : e_M_climbed_0 q  x1 μ ν = some out) : Z l D dA ad sh m_M_climbed (zR 3 0 0) (zS ad) (zOi out) 0 0 0 0 [] 0 [(0, .ref (ad q)), (1, .int x1)] [] μ ν := by
  unfold e_M_climbed_0 at hF
  refine z_aload_n d_M_climbed_0 0 rfl rfl ?_
  refine z_iconst d_M_climbed_1 (v := 0) (by decide) ?_
  refine z_put d_M_climbed_2 f_M_55 (hm 0 _ rfl) rfl (CL_fin _ _ (fun q hq => by cases hq; rfl)) rfl rfl ?_
  obtain ⟨μy1, hy1, hF⟩ := zh_let hF
  refine z_eqm hy1 ?_
  refine z_iload_n d_M_climbed_5 1 rfl rfl ?_
  obtain ⟨ty2, hty2, hF⟩ := zh_bind hF
  refine z_callS d_M_climbed_6 (c_M_isPoint  hty2) ms_M_isPoint l_M_268 (fun _ _ h => h) rfl ⟨Nat.le_of_ble_eq_true rfl, Nat.le_of_ble_eq_true rfl⟩ ⟨Nat.le_of_ble_eq_true rfl, Nat.le_of_ble_eq_true rfl⟩ rfl (Nat.le_of_ble_eq_true rfl) (fun r μ' ν' hq => ?_)
  obtain ⟨rfl, rfl, rfl⟩ := hq
  show Z _ _ _ _ _ _ _ _ _ _ _ 0 0 _ _ _ [.int ty2.1] _ _
  refine z_if_ne d_M_climbed_9 (tgt := 14) (by decide) (fun cy3 => ?_) (fun cy3 => ?_)
  · replace hF := zh_f cy3 hF
    refine z_iload_n d_M_climbed_14 1 rfl rfl ?_
    refine z_istore_n d_M_climbed_15 rfl (by decide) (L2 := [(2, .int x1), (0, .ref (ad q)), (1, .int x1)]) rfl ?_
    refine z_iconst d_M_climbed_16 (v := 1) (by decide) ?_
    refine z_istore_n d_M_climbed_17 rfl (by decide) (L2 := [(3, .int 1), (2, .int x1), (0, .ref (ad q)), (1, .int x1)]) rfl ?_
    refine z_sub [2, 3, 1, 0] (L' := [(0, .ref (ad q)), (1, .int x1), (2, .int x1), (3, .int 1)]) rfl ?_
    exact z_M_climbed_18 hm  zFuel _ _ _ _ _ hF
  · replace hF := zh_t cy3 hF
    refine z_iconst d_M_climbed_12 (v := (-1)) (by decide) ?_
    cases hF
    exact z_ireturn d_M_climbed_13 rfl rfl ⟨rfl, rfl, rfl⟩
def E_M_climbed (q : Nat) (x1 : Int32) (μ : zI) (ν : zJ) : Option (Int32 × zI × zJ) := e_M_climbed_0 q x1 μ ν
theorem c_M_climbed {l : Launch} {D : va_G} {dA : Nat → ClassId} {ad : Nat → Nat} {sh : List zSE} {μ : zI} {ν : zJ} {q : Nat} {x1 : Int32} (hm : zMo sh q) {out : (Int32 × zI × zJ)} (hE : E_M_climbed q x1 μ ν = some out) : zC l D dA ad sh m_M_climbed 3 0 0 [.ref (ad q), .int x1] μ ν (zOi out) :=
  zC.of (by decide) (Nat.le_of_ble_eq_true rfl) (z_M_climbed_0 hm hE)
def e_M_bestBy_0 (q : Nat)  (x1 : Int32) (x2 : Int32) (μ : zI) (ν : zJ) : Option (Int32 × zI × zJ) := (if zin (19 + x1) 146 = true then zlet (α := Int32) (μ (q + 7) (Int32.toNatClampNeg (19 + x1))) fun y2 => Option.bind (E_M_lights q x1 x2 μ ν) fun ty3 => Option.bind (E_M_bestNow q ty3.1 ty3.2) fun ty4 => zlet (α := Int32) ty4.1 fun y5 => Option.bind (E_M_lights q x1 y2 ty4.2.1 ty4.2.2) fun ty6 => some (y5, ty6.1, ty6.2) else none)
theorem z_M_bestBy_0 {l : Launch} {D : va_G} {dA : Nat → ClassId} {ad : Nat → Nat} {sh : List zSE}  {q : Nat} (hm : zMo sh q)  {x1 : Int32} {x2 : Int32} {μ : zI} {ν : zJ} {out : (Int32 × zI × zJ)} (hF : e_M_bestBy_0 q  x1 x2 μ ν = some out) : Z l D dA ad sh m_M_bestBy (zR 5 0 0) (zS ad) (zOi out) 0 0 0 0 [] 0 [(0, .ref (ad q)), (1, .int x1), (2, .int x2)] [] μ ν := by
  unfold e_M_bestBy_0 at hF
  refine z_aload_n d_M_bestBy_0 0 rfl rfl ?_
  refine z_getr d_M_bestBy_1 (q := (q + 7)) f_M_33 (hm 0 _ rfl) rfl ?_
  refine z_bipush d_M_bestBy_4 (v := 19) (by decide) ?_
  refine z_iload_n d_M_bestBy_6 1 rfl rfl ?_
  refine z_iadd d_M_bestBy_7 ?_
  obtain ⟨hy1, hF⟩ := zh_if hF
  refine z_iald d_M_bestBy_8 (hm 7 _ rfl) (zin_vp hy1) ?_
  obtain ⟨y2, hy2, hF⟩ := zh_let hF
  refine z_eqi hy2 ?_
  refine z_istore_n d_M_bestBy_9 rfl (by decide) (L2 := [(3, .int y2), (0, .ref (ad q)), (1, .int x1), (2, .int x2)]) rfl ?_
  refine z_aload_n d_M_bestBy_10 1 rfl rfl ?_
  refine z_iload_n d_M_bestBy_11 2 rfl rfl ?_
  refine z_iload_n d_M_bestBy_12 3 rfl rfl ?_
  obtain ⟨ty3, hty3, hF⟩ := zh_bind hF
  refine z_callV d_M_bestBy_13 (c_M_lights hm hty3) mv_M_lights l_M_194 (fun _ _ h => h) (hm 0 _ rfl) rfl rfl ⟨Nat.le_of_ble_eq_true rfl, Nat.le_of_ble_eq_true rfl⟩ ⟨Nat.le_of_ble_eq_true rfl, Nat.le_of_ble_eq_true rfl⟩ rfl (Nat.le_of_ble_eq_true rfl) (fun r μ' ν' hq => ?_)
  obtain ⟨rfl, rfl, rfl⟩ := hq
  show Z _ _ _ _ _ _ _ _ _ _ _ 0 0 _ _ _ [] _ _
  refine z_aload_n d_M_bestBy_16 1 rfl rfl ?_
  obtain ⟨ty4, hty4, hF⟩ := zh_bind hF
  refine z_callV d_M_bestBy_17 (c_M_bestNow hm hty4) mv_M_bestNow l_M_256 (fun _ _ h => h) (hm 0 _ rfl) rfl rfl ⟨Nat.le_of_ble_eq_true rfl, Nat.le_of_ble_eq_true rfl⟩ ⟨Nat.le_of_ble_eq_true rfl, Nat.le_of_ble_eq_true rfl⟩ rfl (Nat.le_of_ble_eq_true rfl) (fun r μ' ν' hq => ?_)
  obtain ⟨rfl, rfl, rfl⟩ := hq
  show Z _ _ _ _ _ _ _ _ _ _ _ 0 0 _ _ _ [.int ty4.1] _ _
  obtain ⟨y5, hy5, hF⟩ := zh_let hF
  refine z_eqi hy5 ?_
  refine z_istore d_M_bestBy_20 (by decide) (L2 := [(4, .int y5), (3, .int y2), (0, .ref (ad q)), (1, .int x1), (2, .int x2)]) rfl ?_
  refine z_aload_n d_M_bestBy_22 2 rfl rfl ?_
  refine z_iload_n d_M_bestBy_23 3 rfl rfl ?_
  refine z_iload_n d_M_bestBy_24 1 rfl rfl ?_
  obtain ⟨ty6, hty6, hF⟩ := zh_bind hF
  refine z_callV d_M_bestBy_25 (c_M_lights hm hty6) mv_M_lights l_M_194 (fun _ _ h => h) (hm 0 _ rfl) rfl rfl ⟨Nat.le_of_ble_eq_true rfl, Nat.le_of_ble_eq_true rfl⟩ ⟨Nat.le_of_ble_eq_true rfl, Nat.le_of_ble_eq_true rfl⟩ rfl (Nat.le_of_ble_eq_true rfl) (fun r μ' ν' hq => ?_)
  obtain ⟨rfl, rfl, rfl⟩ := hq
  show Z _ _ _ _ _ _ _ _ _ _ _ 0 0 _ _ _ [] _ _
  refine z_iload d_M_bestBy_28 0 rfl ?_
  cases hF
  exact z_ireturn d_M_bestBy_30 rfl rfl ⟨rfl, rfl, rfl⟩
def E_M_bestBy (q : Nat) (x1 : Int32) (x2 : Int32) (μ : zI) (ν : zJ) : Option (Int32 × zI × zJ) := e_M_bestBy_0 q x1 x2 μ ν
theorem c_M_bestBy {l : Launch} {D : va_G} {dA : Nat → ClassId} {ad : Nat → Nat} {sh : List zSE} {μ : zI} {ν : zJ} {q : Nat} {x1 : Int32} {x2 : Int32} (hm : zMo sh q) {out : (Int32 × zI × zJ)} (hE : E_M_bestBy q x1 x2 μ ν = some out) : zC l D dA ad sh m_M_bestBy 5 0 0 [.ref (ad q), .int x1, .int x2] μ ν (zOi out) :=
  zC.of (by decide) (Nat.le_of_ble_eq_true rfl) (z_M_bestBy_0 hm hE)
def e_M_shadeOf_29 (q : Nat)  (x1 : Int32) (s0 : Int32) (μ : zI) (ν : zJ) : Option (Int32 × zI × zJ) := some (s0, μ, ν)
theorem z_M_shadeOf_29 {l : Launch} {D : va_G} {dA : Nat → ClassId} {ad : Nat → Nat} {sh : List zSE}  {q : Nat} (hm : zMo sh q)  {x1 : Int32} {s0 : Int32} {μ : zI} {ν : zJ} {out : (Int32 × zI × zJ)} (hF : e_M_shadeOf_29 q  x1 s0 μ ν = some out) : Z l D dA ad sh m_M_shadeOf (zR 6 0 0) (zS ad) (zOi out) 0 0 0 0 [] 29 [(0, .ref (ad q)), (1, .int x1)] [.int s0] μ ν := by
  unfold e_M_shadeOf_29 at hF
  cases hF
  exact z_ireturn d_M_shadeOf_29 rfl rfl ⟨rfl, rfl, rfl⟩
def e_M_shadeOf_0 (q : Nat)  (x1 : Int32) (μ : zI) (ν : zJ) : Option (Int32 × zI × zJ) := zlet (zu μ q 0 0) fun μy1 => Option.bind (E_M_isModule q x1 μy1 ν) fun ty2 => (if ty2.1 = 0 then e_M_shadeOf_29 q x1 (-1) ty2.2.1 ty2.2.2 else Option.bind (E_M_bestBy q x1 100 ty2.2.1 ty2.2.2) fun ty4 => Option.bind (E_M_bestNow q ty4.2.1 ty4.2.2) fun ty5 => e_M_shadeOf_29 q x1 (ty4.1 - ty5.1) ty5.2.1 ty5.2.2)
theorem z_M_shadeOf_0 {l : Launch} {D : va_G} {dA : Nat → ClassId} {ad : Nat → Nat} {sh : List zSE}  {q : Nat} (hm : zMo sh q)  {x1 : Int32} {μ : zI} {ν : zJ} {out : (Int32 × zI × zJ)} (hF : e_M_shadeOf_0 q  x1 μ ν = some out) : Z l D dA ad sh m_M_shadeOf (zR 6 0 0) (zS ad) (zOi out) 0 0 0 0 [] 0 [(0, .ref (ad q)), (1, .int x1)] [] μ ν := by
  unfold e_M_shadeOf_0 at hF
  refine z_aload_n d_M_shadeOf_0 0 rfl rfl ?_
  refine z_iconst d_M_shadeOf_1 (v := 0) (by decide) ?_
  refine z_put d_M_shadeOf_2 f_M_55 (hm 0 _ rfl) rfl (CL_fin _ _ (fun q hq => by cases hq; rfl)) rfl rfl ?_
  obtain ⟨μy1, hy1, hF⟩ := zh_let hF
  refine z_eqm hy1 ?_
  refine z_aload_n d_M_shadeOf_5 0 rfl rfl ?_
  refine z_iload_n d_M_shadeOf_6 1 rfl rfl ?_
  obtain ⟨ty2, hty2, hF⟩ := zh_bind hF
  refine z_callV d_M_shadeOf_7 (c_M_isModule hm hty2) mv_M_isModule l_M_265 (fun _ _ h => h) (hm 0 _ rfl) rfl rfl ⟨Nat.le_of_ble_eq_true rfl, Nat.le_of_ble_eq_true rfl⟩ ⟨Nat.le_of_ble_eq_true rfl, Nat.le_of_ble_eq_true rfl⟩ rfl (Nat.le_of_ble_eq_true rfl) (fun r μ' ν' hq => ?_)
  obtain ⟨rfl, rfl, rfl⟩ := hq
  show Z _ _ _ _ _ _ _ _ _ _ _ 0 0 _ _ _ [.int ty2.1] _ _
  refine z_if_eq d_M_shadeOf_10 (tgt := 28) (by decide) (fun cy3 => ?_) (fun cy3 => ?_)
  · replace hF := zh_t cy3 hF
    refine z_iconst d_M_shadeOf_28 (v := (-1)) (by decide) ?_
    exact z_M_shadeOf_29 hm  hF
  · replace hF := zh_f cy3 hF
    refine z_aload_n d_M_shadeOf_13 0 rfl rfl ?_
    refine z_iload_n d_M_shadeOf_14 1 rfl rfl ?_
    refine z_bipush d_M_shadeOf_15 (v := 100) (by decide) ?_
    obtain ⟨ty4, hty4, hF⟩ := zh_bind hF
    refine z_callV d_M_shadeOf_17 (c_M_bestBy hm hty4) mv_M_bestBy l_M_281 (fun _ _ h => h) (hm 0 _ rfl) rfl rfl ⟨Nat.le_of_ble_eq_true rfl, Nat.le_of_ble_eq_true rfl⟩ ⟨Nat.le_of_ble_eq_true rfl, Nat.le_of_ble_eq_true rfl⟩ rfl (Nat.le_of_ble_eq_true rfl) (fun r μ' ν' hq => ?_)
    obtain ⟨rfl, rfl, rfl⟩ := hq
    show Z _ _ _ _ _ _ _ _ _ _ _ 0 0 _ _ _ [.int ty4.1] _ _
    refine z_aload_n d_M_shadeOf_20 0 rfl rfl ?_
    obtain ⟨ty5, hty5, hF⟩ := zh_bind hF
    refine z_callV d_M_shadeOf_21 (c_M_bestNow hm hty5) mv_M_bestNow l_M_256 (fun _ _ h => h) (hm 0 _ rfl) rfl rfl ⟨Nat.le_of_ble_eq_true rfl, Nat.le_of_ble_eq_true rfl⟩ ⟨Nat.le_of_ble_eq_true rfl, Nat.le_of_ble_eq_true rfl⟩ rfl (Nat.le_of_ble_eq_true rfl) (fun r μ' ν' hq => ?_)
    obtain ⟨rfl, rfl, rfl⟩ := hq
    show Z _ _ _ _ _ _ _ _ _ _ _ 0 0 _ _ _ [.int ty5.1, .int ty4.1] _ _
    refine z_isub d_M_shadeOf_24 ?_
    refine z_goto d_M_shadeOf_25 (tgt := 29) (by decide) ?_
    exact z_M_shadeOf_29 hm  hF
def E_M_shadeOf (q : Nat) (x1 : Int32) (μ : zI) (ν : zJ) : Option (Int32 × zI × zJ) := e_M_shadeOf_0 q x1 μ ν
theorem c_M_shadeOf {l : Launch} {D : va_G} {dA : Nat → ClassId} {ad : Nat → Nat} {sh : List zSE} {μ : zI} {ν : zJ} {q : Nat} {x1 : Int32} (hm : zMo sh q) {out : (Int32 × zI × zJ)} (hE : E_M_shadeOf q x1 μ ν = some out) : zC l D dA ad sh m_M_shadeOf 6 0 0 [.ref (ad q), .int x1] μ ν (zOi out) :=
  zC.of (by decide) (Nat.le_of_ble_eq_true rfl) (z_M_shadeOf_0 hm hE)
def e_M_lightFor_24 (q : Nat)  (x1 : Int32) (x2 : Int32) (μ : zI) (ν : zJ) : Option (Int32 × zI × zJ) := some ((-1), μ, ν)
theorem z_M_lightFor_24 {l : Launch} {D : va_G} {dA : Nat → ClassId} {ad : Nat → Nat} {sh : List zSE}  {q : Nat} (hm : zMo sh q)  {x1 : Int32} {x2 : Int32} {μ : zI} {ν : zJ} {out : (Int32 × zI × zJ)} (hF : e_M_lightFor_24 q  x1 x2 μ ν = some out) : Z l D dA ad sh m_M_lightFor (zR 6 0 0) (zS ad) (zOi out) 0 0 0 0 [] 24 [(0, .ref (ad q)), (1, .int x1), (2, .int x2)] [] μ ν := by
  unfold e_M_lightFor_24 at hF
  refine z_iconst d_M_lightFor_24 (v := (-1)) (by decide) ?_
  cases hF
  exact z_ireturn d_M_lightFor_25 rfl rfl ⟨rfl, rfl, rfl⟩
def f_M_lightFor_28 (q : Nat)  : Nat → Int32 → Int32 → Int32 → zI → zJ → Option (Int32 × zI × zJ)
  | 0, _, _, _, _, _ => none
  | n + 1, x1, x2, x3, μ, ν => (if 100 < x3 then some ((-2), μ, ν) else Option.bind (E_M_bestBy q x1 x3 μ ν) fun ty2 => (if ty2.1 < x2 then (f_M_lightFor_28 q n) x1 x2 (x3 + 1) ty2.2.1 ty2.2.2 else some (x3, ty2.2.1, ty2.2.2)))
theorem z_M_lightFor_28 {l : Launch} {D : va_G} {dA : Nat → ClassId} {ad : Nat → Nat} {sh : List zSE}  {q : Nat} (hm : zMo sh q)  {out : (Int32 × zI × zJ)} : ∀ (n : Nat) (x1 : Int32) (x2 : Int32) (x3 : Int32) (μ : zI) (ν : zJ), f_M_lightFor_28 q  n x1 x2 x3 μ ν = some out → Z l D dA ad sh m_M_lightFor (zR 6 0 0) (zS ad) (zOi out) 0 0 0 0 [] 28 [(0, .ref (ad q)), (1, .int x1), (2, .int x2), (3, .int x3)] [] μ ν := by
  intro n
  induction n with
  | zero => intro x1 x2 x3 μ ν hF; cases hF
  | succ n ih =>
    intro x1 x2 x3 μ ν hF
    dsimp only [f_M_lightFor_28] at hF
    refine z_iload_n d_M_lightFor_28 3 rfl rfl ?_
    refine z_bipush d_M_lightFor_29 (v := 100) (by decide) ?_
    refine z_icmp_gt d_M_lightFor_31 (tgt := 52) (by decide) (fun cy1 => ?_) (fun cy1 => ?_)
    · replace hF := zh_t cy1 hF
      refine z_bipush d_M_lightFor_52 (v := (-2)) (by decide) ?_
      cases hF
      exact z_ireturn d_M_lightFor_54 rfl rfl ⟨rfl, rfl, rfl⟩
    · replace hF := zh_f cy1 hF
      refine z_aload_n d_M_lightFor_34 0 rfl rfl ?_
      refine z_iload_n d_M_lightFor_35 1 rfl rfl ?_
      refine z_iload_n d_M_lightFor_36 3 rfl rfl ?_
      obtain ⟨ty2, hty2, hF⟩ := zh_bind hF
      refine z_callV d_M_lightFor_37 (c_M_bestBy hm hty2) mv_M_bestBy l_M_281 (fun _ _ h => h) (hm 0 _ rfl) rfl rfl ⟨Nat.le_of_ble_eq_true rfl, Nat.le_of_ble_eq_true rfl⟩ ⟨Nat.le_of_ble_eq_true rfl, Nat.le_of_ble_eq_true rfl⟩ rfl (Nat.le_of_ble_eq_true rfl) (fun r μ' ν' hq => ?_)
      obtain ⟨rfl, rfl, rfl⟩ := hq
      show Z _ _ _ _ _ _ _ _ _ _ _ 0 0 _ _ _ [.int ty2.1] _ _
      refine z_iload_n d_M_lightFor_40 2 rfl rfl ?_
      refine z_icmp_lt d_M_lightFor_41 (tgt := 46) (by decide) (fun cy3 => ?_) (fun cy3 => ?_)
      · replace hF := zh_t cy3 hF
        refine z_iinc d_M_lightFor_46 (k := 3) (v := (x3 + 1)) rfl rfl (by decide) (L2 := [(3, .int (x3 + 1)), (0, .ref (ad q)), (1, .int x1), (2, .int x2)]) rfl ?_
        refine z_goto d_M_lightFor_49 (tgt := 28) (by decide) ?_
        refine z_sub [1, 2, 3, 0] (L' := [(0, .ref (ad q)), (1, .int x1), (2, .int x2), (3, .int (x3 + 1))]) rfl ?_
        exact ih _ _ _ _ _ hF
      · replace hF := zh_f cy3 hF
        refine z_iload_n d_M_lightFor_44 3 rfl rfl ?_
        cases hF
        exact z_ireturn d_M_lightFor_45 rfl rfl ⟨rfl, rfl, rfl⟩
def e_M_lightFor_0 (q : Nat)  (x1 : Int32) (x2 : Int32) (μ : zI) (ν : zJ) : Option (Int32 × zI × zJ) := zlet (zu μ q 0 0) fun μy1 => Option.bind (E_M_isModule q x1 μy1 ν) fun ty2 => (if ty2.1 = 0 then e_M_lightFor_24 q x1 x2 ty2.2.1 ty2.2.2 else (if x2 < 0 then e_M_lightFor_24 q x1 x2 ty2.2.1 ty2.2.2 else (if x2 ≤ 9999999 then f_M_lightFor_28 q zFuel x1 x2 0 ty2.2.1 ty2.2.2 else e_M_lightFor_24 q x1 x2 ty2.2.1 ty2.2.2)))
theorem z_M_lightFor_0 {l : Launch} {D : va_G} {dA : Nat → ClassId} {ad : Nat → Nat} {sh : List zSE}  {q : Nat} (hm : zMo sh q)  {x1 : Int32} {x2 : Int32} {μ : zI} {ν : zJ} {out : (Int32 × zI × zJ)} (hF : e_M_lightFor_0 q  x1 x2 μ ν = some out) : Z l D dA ad sh m_M_lightFor (zR 6 0 0) (zS ad) (zOi out) 0 0 0 0 [] 0 [(0, .ref (ad q)), (1, .int x1), (2, .int x2)] [] μ ν := by
  unfold e_M_lightFor_0 at hF
  refine z_aload_n d_M_lightFor_0 0 rfl rfl ?_
  refine z_iconst d_M_lightFor_1 (v := 0) (by decide) ?_
  refine z_put d_M_lightFor_2 f_M_55 (hm 0 _ rfl) rfl (CL_fin _ _ (fun q hq => by cases hq; rfl)) rfl rfl ?_
  obtain ⟨μy1, hy1, hF⟩ := zh_let hF
  refine z_eqm hy1 ?_
  refine z_aload_n d_M_lightFor_5 0 rfl rfl ?_
  refine z_iload_n d_M_lightFor_6 1 rfl rfl ?_
  obtain ⟨ty2, hty2, hF⟩ := zh_bind hF
  refine z_callV d_M_lightFor_7 (c_M_isModule hm hty2) mv_M_isModule l_M_265 (fun _ _ h => h) (hm 0 _ rfl) rfl rfl ⟨Nat.le_of_ble_eq_true rfl, Nat.le_of_ble_eq_true rfl⟩ ⟨Nat.le_of_ble_eq_true rfl, Nat.le_of_ble_eq_true rfl⟩ rfl (Nat.le_of_ble_eq_true rfl) (fun r μ' ν' hq => ?_)
  obtain ⟨rfl, rfl, rfl⟩ := hq
  show Z _ _ _ _ _ _ _ _ _ _ _ 0 0 _ _ _ [.int ty2.1] _ _
  refine z_if_eq d_M_lightFor_10 (tgt := 24) (by decide) (fun cy3 => ?_) (fun cy3 => ?_)
  · replace hF := zh_t cy3 hF
    exact z_M_lightFor_24 hm  hF
  · replace hF := zh_f cy3 hF
    refine z_iload_n d_M_lightFor_13 2 rfl rfl ?_
    refine z_if_lt d_M_lightFor_14 (tgt := 24) (by decide) (fun cy4 => ?_) (fun cy4 => ?_)
    · replace hF := zh_t cy4 hF
      exact z_M_lightFor_24 hm  hF
    · replace hF := zh_f cy4 hF
      refine z_iload_n d_M_lightFor_17 2 rfl rfl ?_
      refine z_ldcw d_M_lightFor_18 k_M_284 ?_
      refine z_icmp_le d_M_lightFor_21 (tgt := 26) (by decide) (fun cy5 => ?_) (fun cy5 => ?_)
      · replace hF := zh_t cy5 hF
        refine z_iconst d_M_lightFor_26 (v := 0) (by decide) ?_
        refine z_istore_n d_M_lightFor_27 rfl (by decide) (L2 := [(3, .int 0), (0, .ref (ad q)), (1, .int x1), (2, .int x2)]) rfl ?_
        refine z_sub [1, 2, 3, 0] (L' := [(0, .ref (ad q)), (1, .int x1), (2, .int x2), (3, .int 0)]) rfl ?_
        exact z_M_lightFor_28 hm  zFuel _ _ _ _ _ hF
      · replace hF := zh_f cy5 hF
        exact z_M_lightFor_24 hm  hF
def E_M_lightFor (q : Nat) (x1 : Int32) (x2 : Int32) (μ : zI) (ν : zJ) : Option (Int32 × zI × zJ) := e_M_lightFor_0 q x1 x2 μ ν
theorem c_M_lightFor {l : Launch} {D : va_G} {dA : Nat → ClassId} {ad : Nat → Nat} {sh : List zSE} {μ : zI} {ν : zJ} {q : Nat} {x1 : Int32} {x2 : Int32} (hm : zMo sh q) {out : (Int32 × zI × zJ)} (hE : E_M_lightFor q x1 x2 μ ν = some out) : zC l D dA ad sh m_M_lightFor 6 0 0 [.ref (ad q), .int x1, .int x2] μ ν (zOi out) :=
  zC.of (by decide) (Nat.le_of_ble_eq_true rfl) (z_M_lightFor_0 hm hE)
def e_M_darkest_48 (q : Nat) (r12 : Int32 → Int32 → Int32 → zI → zJ → Option (Int32 × zI × zJ)) (x1 : Int32) (x2 : Int32) (x3 : Int32) (x4 : Int32) (μ : zI) (ν : zJ) : Option (Int32 × zI × zJ) := r12 x1 x2 (x3 + 1) μ ν
theorem z_M_darkest_48 {l : Launch} {D : va_G} {dA : Nat → ClassId} {ad : Nat → Nat} {sh : List zSE}  {q : Nat} (hm : zMo sh q) {r12 : Int32 → Int32 → Int32 → zI → zJ → Option (Int32 × zI × zJ)} {x1 : Int32} {x2 : Int32} {x3 : Int32} {x4 : Int32} {μ : zI} {ν : zJ} {out : (Int32 × zI × zJ)} (hr12 : ∀ (x1 : Int32) (x2 : Int32) (x3 : Int32) (μ : zI) (ν : zJ), r12 x1 x2 x3 μ ν = some out → Z l D dA ad sh m_M_darkest (zR 6 0 0) (zS ad) (zOi out) 0 0 0 0 [] 12 [(0, .ref (ad q)), (1, .int x1), (2, .int x2), (3, .int x3)] [] μ ν) (hF : e_M_darkest_48 q r12 x1 x2 x3 x4 μ ν = some out) : Z l D dA ad sh m_M_darkest (zR 6 0 0) (zS ad) (zOi out) 0 0 0 0 [] 48 [(0, .ref (ad q)), (1, .int x1), (2, .int x2), (3, .int x3), (4, .int x4)] [] μ ν := by
  unfold e_M_darkest_48 at hF
  refine z_iinc d_M_darkest_48 (k := 3) (v := (x3 + 1)) rfl rfl (by decide) (L2 := [(3, .int (x3 + 1)), (0, .ref (ad q)), (1, .int x1), (2, .int x2), (4, .int x4)]) rfl ?_
  refine z_goto d_M_darkest_51 (tgt := 12) (by decide) ?_
  refine z_sub [1, 2, 3, 0] (L' := [(0, .ref (ad q)), (1, .int x1), (2, .int x2), (3, .int (x3 + 1))]) rfl ?_
  exact hr12 _ _ _ _ _ hF
def f_M_darkest_12 (q : Nat)  : Nat → Int32 → Int32 → Int32 → zI → zJ → Option (Int32 × zI × zJ)
  | 0, _, _, _, _, _ => none
  | n + 1, x1, x2, x3, μ, ν => (if (μ q 9) ≤ x3 then some (x1, μ, ν) else Option.bind (E_M_bestBy q x3 100 μ ν) fun ty2 => Option.bind (E_M_bestNow q ty2.2.1 ty2.2.2) fun ty3 => zlet (α := Int32) (ty2.1 - ty3.1) fun y4 => (if x2 < y4 then e_M_darkest_48 q (f_M_darkest_12 q n) x3 y4 x3 y4 ty3.2.1 ty3.2.2 else e_M_darkest_48 q (f_M_darkest_12 q n) x1 x2 x3 y4 ty3.2.1 ty3.2.2))
theorem z_M_darkest_12 {l : Launch} {D : va_G} {dA : Nat → ClassId} {ad : Nat → Nat} {sh : List zSE}  {q : Nat} (hm : zMo sh q)  {out : (Int32 × zI × zJ)} : ∀ (n : Nat) (x1 : Int32) (x2 : Int32) (x3 : Int32) (μ : zI) (ν : zJ), f_M_darkest_12 q  n x1 x2 x3 μ ν = some out → Z l D dA ad sh m_M_darkest (zR 6 0 0) (zS ad) (zOi out) 0 0 0 0 [] 12 [(0, .ref (ad q)), (1, .int x1), (2, .int x2), (3, .int x3)] [] μ ν := by
  intro n
  induction n with
  | zero => intro x1 x2 x3 μ ν hF; cases hF
  | succ n ih =>
    intro x1 x2 x3 μ ν hF
    dsimp only [f_M_darkest_12] at hF
    refine z_iload_n d_M_darkest_12 3 rfl rfl ?_
    refine z_aload_n d_M_darkest_13 0 rfl rfl ?_
    refine z_get d_M_darkest_14 f_M_168 (hm 0 _ rfl) rfl ?_
    refine z_icmp_ge d_M_darkest_17 (tgt := 54) (by decide) (fun cy1 => ?_) (fun cy1 => ?_)
    · replace hF := zh_t cy1 hF
      refine z_iload_n d_M_darkest_54 1 rfl rfl ?_
      cases hF
      exact z_ireturn d_M_darkest_55 rfl rfl ⟨rfl, rfl, rfl⟩
    · replace hF := zh_f cy1 hF
      refine z_aload_n d_M_darkest_20 0 rfl rfl ?_
      refine z_iload_n d_M_darkest_21 3 rfl rfl ?_
      refine z_bipush d_M_darkest_22 (v := 100) (by decide) ?_
      obtain ⟨ty2, hty2, hF⟩ := zh_bind hF
      refine z_callV d_M_darkest_24 (c_M_bestBy hm hty2) mv_M_bestBy l_M_281 (fun _ _ h => h) (hm 0 _ rfl) rfl rfl ⟨Nat.le_of_ble_eq_true rfl, Nat.le_of_ble_eq_true rfl⟩ ⟨Nat.le_of_ble_eq_true rfl, Nat.le_of_ble_eq_true rfl⟩ rfl (Nat.le_of_ble_eq_true rfl) (fun r μ' ν' hq => ?_)
      obtain ⟨rfl, rfl, rfl⟩ := hq
      show Z _ _ _ _ _ _ _ _ _ _ _ 0 0 _ _ _ [.int ty2.1] _ _
      refine z_aload_n d_M_darkest_27 0 rfl rfl ?_
      obtain ⟨ty3, hty3, hF⟩ := zh_bind hF
      refine z_callV d_M_darkest_28 (c_M_bestNow hm hty3) mv_M_bestNow l_M_256 (fun _ _ h => h) (hm 0 _ rfl) rfl rfl ⟨Nat.le_of_ble_eq_true rfl, Nat.le_of_ble_eq_true rfl⟩ ⟨Nat.le_of_ble_eq_true rfl, Nat.le_of_ble_eq_true rfl⟩ rfl (Nat.le_of_ble_eq_true rfl) (fun r μ' ν' hq => ?_)
      obtain ⟨rfl, rfl, rfl⟩ := hq
      show Z _ _ _ _ _ _ _ _ _ _ _ 0 0 _ _ _ [.int ty3.1, .int ty2.1] _ _
      refine z_isub d_M_darkest_31 ?_
      obtain ⟨y4, hy4, hF⟩ := zh_let hF
      refine z_eqi hy4 ?_
      refine z_istore d_M_darkest_32 (by decide) (L2 := [(4, .int y4), (0, .ref (ad q)), (1, .int x1), (2, .int x2), (3, .int x3)]) rfl ?_
      refine z_iload d_M_darkest_34 0 rfl ?_
      refine z_iload_n d_M_darkest_36 3 rfl rfl ?_
      refine z_icmp_gt d_M_darkest_37 (tgt := 43) (by decide) (fun cy5 => ?_) (fun cy5 => ?_)
      · replace hF := zh_t cy5 hF
        refine z_iload_n d_M_darkest_43 4 rfl rfl ?_
        refine z_istore_n d_M_darkest_44 rfl (by decide) (L2 := [(1, .int x3), (4, .int y4), (0, .ref (ad q)), (2, .int x2), (3, .int x3)]) rfl ?_
        refine z_iload d_M_darkest_45 1 rfl ?_
        refine z_istore_n d_M_darkest_47 rfl (by decide) (L2 := [(2, .int y4), (1, .int x3), (4, .int y4), (0, .ref (ad q)), (3, .int x3)]) rfl ?_
        refine z_sub [3, 1, 0, 4, 2] (L' := [(0, .ref (ad q)), (1, .int x3), (2, .int y4), (3, .int x3), (4, .int y4)]) rfl ?_
        exact z_M_darkest_48 hm (fun a0 a1 a2 a3 a4 => ih a0 a1 a2 a3 a4) hF
      · replace hF := zh_f cy5 hF
        refine z_goto d_M_darkest_40 (tgt := 48) (by decide) ?_
        refine z_sub [1, 2, 3, 4, 0] (L' := [(0, .ref (ad q)), (1, .int x1), (2, .int x2), (3, .int x3), (4, .int y4)]) rfl ?_
        exact z_M_darkest_48 hm (fun a0 a1 a2 a3 a4 => ih a0 a1 a2 a3 a4) hF
def e_M_darkest_0 (q : Nat)   (μ : zI) (ν : zJ) : Option (Int32 × zI × zJ) := zlet (zu μ q 0 0) fun μy1 => f_M_darkest_12 q zFuel (-2) (-1) 0 μy1 ν
theorem z_M_darkest_0 {l : Launch} {D : va_G} {dA : Nat → ClassId} {ad : Nat → Nat} {sh : List zSE}  {q : Nat} (hm : zMo sh q)   {μ : zI} {ν : zJ} {out : (Int32 × zI × zJ)} (hF : e_M_darkest_0 q   μ ν = some out) : Z l D dA ad sh m_M_darkest (zR 6 0 0) (zS ad) (zOi out) 0 0 0 0 [] 0 [(0, .ref (ad q))] [] μ ν := by
  unfold e_M_darkest_0 at hF
  refine z_aload_n d_M_darkest_0 0 rfl rfl ?_
  refine z_iconst d_M_darkest_1 (v := 0) (by decide) ?_
  refine z_put d_M_darkest_2 f_M_55 (hm 0 _ rfl) rfl (CL_fin _ _ (fun q hq => by cases hq; rfl)) rfl rfl ?_
  obtain ⟨μy1, hy1, hF⟩ := zh_let hF
  refine z_eqm hy1 ?_
  refine z_bipush d_M_darkest_5 (v := (-2)) (by decide) ?_
  refine z_istore_n d_M_darkest_7 rfl (by decide) (L2 := [(1, .int (-2)), (0, .ref (ad q))]) rfl ?_
  refine z_iconst d_M_darkest_8 (v := (-1)) (by decide) ?_
  refine z_istore_n d_M_darkest_9 rfl (by decide) (L2 := [(2, .int (-1)), (1, .int (-2)), (0, .ref (ad q))]) rfl ?_
  refine z_iconst d_M_darkest_10 (v := 0) (by decide) ?_
  refine z_istore_n d_M_darkest_11 rfl (by decide) (L2 := [(3, .int 0), (2, .int (-1)), (1, .int (-2)), (0, .ref (ad q))]) rfl ?_
  refine z_sub [3, 2, 1, 0] (L' := [(0, .ref (ad q)), (1, .int (-2)), (2, .int (-1)), (3, .int 0)]) rfl ?_
  exact z_M_darkest_12 hm  zFuel _ _ _ _ _ hF
def E_M_darkest (q : Nat)  (μ : zI) (ν : zJ) : Option (Int32 × zI × zJ) := e_M_darkest_0 q μ ν
theorem c_M_darkest {l : Launch} {D : va_G} {dA : Nat → ClassId} {ad : Nat → Nat} {sh : List zSE} {μ : zI} {ν : zJ} {q : Nat} (hm : zMo sh q) {out : (Int32 × zI × zJ)} (hE : E_M_darkest q μ ν = some out) : zC l D dA ad sh m_M_darkest 6 0 0 [.ref (ad q)] μ ν (zOi out) :=
  zC.of (by decide) (Nat.le_of_ble_eq_true rfl) (z_M_darkest_0 hm hE)
def e_M_bestShare_52 (q : Nat) (r21 : Int32 → Int32 → Int32 → zI → zJ → Option (Int32 × zI × zJ)) (x1 : Int32) (x2 : Int32) (x3 : Int32) (x4 : Int32) (μ : zI) (ν : zJ) : Option (Int32 × zI × zJ) := r21 x1 x2 (x3 + 1) μ ν
theorem z_M_bestShare_52 {l : Launch} {D : va_G} {dA : Nat → ClassId} {ad : Nat → Nat} {sh : List zSE}  {q : Nat} (hm : zMo sh q) {r21 : Int32 → Int32 → Int32 → zI → zJ → Option (Int32 × zI × zJ)} {x1 : Int32} {x2 : Int32} {x3 : Int32} {x4 : Int32} {μ : zI} {ν : zJ} {out : (Int32 × zI × zJ)} (hr21 : ∀ (x1 : Int32) (x2 : Int32) (x3 : Int32) (μ : zI) (ν : zJ), r21 x1 x2 x3 μ ν = some out → Z l D dA ad sh m_M_bestShare (zR 3 0 0) (zS ad) (zOi out) 0 0 0 0 [] 21 [(0, .ref (ad q)), (1, .int x1), (2, .int x2), (3, .int x3)] [] μ ν) (hF : e_M_bestShare_52 q r21 x1 x2 x3 x4 μ ν = some out) : Z l D dA ad sh m_M_bestShare (zR 3 0 0) (zS ad) (zOi out) 0 0 0 0 [] 52 [(0, .ref (ad q)), (1, .int x1), (2, .int x2), (3, .int x3), (4, .int x4)] [] μ ν := by
  unfold e_M_bestShare_52 at hF
  refine z_iinc d_M_bestShare_52 (k := 3) (v := (x3 + 1)) rfl rfl (by decide) (L2 := [(3, .int (x3 + 1)), (0, .ref (ad q)), (1, .int x1), (2, .int x2), (4, .int x4)]) rfl ?_
  refine z_goto d_M_bestShare_55 (tgt := 21) (by decide) ?_
  refine z_sub [1, 2, 3, 0] (L' := [(0, .ref (ad q)), (1, .int x1), (2, .int x2), (3, .int (x3 + 1))]) rfl ?_
  exact hr21 _ _ _ _ _ hF
def f_M_bestShare_21 (q : Nat)  : Nat → Int32 → Int32 → Int32 → zI → zJ → Option (Int32 × zI × zJ)
  | 0, _, _, _, _, _ => none
  | n + 1, x1, x2, x3, μ, ν => (if 99 < x3 then some (x1, μ, ν) else Option.bind (E_M_shared q x3 μ ν) fun ty2 => Option.bind (E_M_powerAt q ty2.1 ty2.2.1 ty2.2.2) fun ty3 => zlet (α := Int32) ty3.1 fun y4 => (if x2 < y4 then e_M_bestShare_52 q (f_M_bestShare_21 q n) x3 y4 x3 y4 ty3.2.1 ty3.2.2 else e_M_bestShare_52 q (f_M_bestShare_21 q n) x1 x2 x3 y4 ty3.2.1 ty3.2.2))
theorem z_M_bestShare_21 {l : Launch} {D : va_G} {dA : Nat → ClassId} {ad : Nat → Nat} {sh : List zSE}  {q : Nat} (hm : zMo sh q)  {out : (Int32 × zI × zJ)} : ∀ (n : Nat) (x1 : Int32) (x2 : Int32) (x3 : Int32) (μ : zI) (ν : zJ), f_M_bestShare_21 q  n x1 x2 x3 μ ν = some out → Z l D dA ad sh m_M_bestShare (zR 3 0 0) (zS ad) (zOi out) 0 0 0 0 [] 21 [(0, .ref (ad q)), (1, .int x1), (2, .int x2), (3, .int x3)] [] μ ν := by
  intro n
  induction n with
  | zero => intro x1 x2 x3 μ ν hF; cases hF
  | succ n ih =>
    intro x1 x2 x3 μ ν hF
    dsimp only [f_M_bestShare_21] at hF
    refine z_iload_n d_M_bestShare_21 3 rfl rfl ?_
    refine z_bipush d_M_bestShare_22 (v := 99) (by decide) ?_
    refine z_icmp_gt d_M_bestShare_24 (tgt := 58) (by decide) (fun cy1 => ?_) (fun cy1 => ?_)
    · replace hF := zh_t cy1 hF
      refine z_iload_n d_M_bestShare_58 1 rfl rfl ?_
      cases hF
      exact z_ireturn d_M_bestShare_59 rfl rfl ⟨rfl, rfl, rfl⟩
    · replace hF := zh_f cy1 hF
      refine z_aload_n d_M_bestShare_27 0 rfl rfl ?_
      refine z_aload_n d_M_bestShare_28 0 rfl rfl ?_
      refine z_iload_n d_M_bestShare_29 3 rfl rfl ?_
      obtain ⟨ty2, hty2, hF⟩ := zh_bind hF
      refine z_callV d_M_bestShare_30 (c_M_shared hm hty2) mv_M_shared l_M_218 (fun _ _ h => h) (hm 0 _ rfl) rfl rfl ⟨Nat.le_of_ble_eq_true rfl, Nat.le_of_ble_eq_true rfl⟩ ⟨Nat.le_of_ble_eq_true rfl, Nat.le_of_ble_eq_true rfl⟩ rfl (Nat.le_of_ble_eq_true rfl) (fun r μ' ν' hq => ?_)
      obtain ⟨rfl, rfl, rfl⟩ := hq
      show Z _ _ _ _ _ _ _ _ _ _ _ 0 0 _ _ _ [.int ty2.1, .ref (ad q)] _ _
      obtain ⟨ty3, hty3, hF⟩ := zh_bind hF
      refine z_callV d_M_bestShare_33 (c_M_powerAt hm hty3) mv_M_powerAt l_M_188 (fun _ _ h => h) (hm 0 _ rfl) rfl rfl ⟨Nat.le_of_ble_eq_true rfl, Nat.le_of_ble_eq_true rfl⟩ ⟨Nat.le_of_ble_eq_true rfl, Nat.le_of_ble_eq_true rfl⟩ rfl (Nat.le_of_ble_eq_true rfl) (fun r μ' ν' hq => ?_)
      obtain ⟨rfl, rfl, rfl⟩ := hq
      show Z _ _ _ _ _ _ _ _ _ _ _ 0 0 _ _ _ [.int ty3.1] _ _
      obtain ⟨y4, hy4, hF⟩ := zh_let hF
      refine z_eqi hy4 ?_
      refine z_istore d_M_bestShare_36 (by decide) (L2 := [(4, .int y4), (0, .ref (ad q)), (1, .int x1), (2, .int x2), (3, .int x3)]) rfl ?_
      refine z_iload d_M_bestShare_38 0 rfl ?_
      refine z_iload_n d_M_bestShare_40 3 rfl rfl ?_
      refine z_icmp_gt d_M_bestShare_41 (tgt := 47) (by decide) (fun cy5 => ?_) (fun cy5 => ?_)
      · replace hF := zh_t cy5 hF
        refine z_iload_n d_M_bestShare_47 4 rfl rfl ?_
        refine z_istore_n d_M_bestShare_48 rfl (by decide) (L2 := [(1, .int x3), (4, .int y4), (0, .ref (ad q)), (2, .int x2), (3, .int x3)]) rfl ?_
        refine z_iload d_M_bestShare_49 1 rfl ?_
        refine z_istore_n d_M_bestShare_51 rfl (by decide) (L2 := [(2, .int y4), (1, .int x3), (4, .int y4), (0, .ref (ad q)), (3, .int x3)]) rfl ?_
        refine z_sub [3, 1, 0, 4, 2] (L' := [(0, .ref (ad q)), (1, .int x3), (2, .int y4), (3, .int x3), (4, .int y4)]) rfl ?_
        exact z_M_bestShare_52 hm (fun a0 a1 a2 a3 a4 => ih a0 a1 a2 a3 a4) hF
      · replace hF := zh_f cy5 hF
        refine z_goto d_M_bestShare_44 (tgt := 52) (by decide) ?_
        refine z_sub [1, 2, 3, 4, 0] (L' := [(0, .ref (ad q)), (1, .int x1), (2, .int x2), (3, .int x3), (4, .int y4)]) rfl ?_
        exact z_M_bestShare_52 hm (fun a0 a1 a2 a3 a4 => ih a0 a1 a2 a3 a4) hF
def e_M_bestShare_0 (q : Nat)   (μ : zI) (ν : zJ) : Option (Int32 × zI × zJ) := zlet (zu μ q 0 0) fun μy1 => (if (μy1 q 9) = 0 then some ((-2), μy1, ν) else f_M_bestShare_21 q zFuel (-1) (-1) 1 μy1 ν)
theorem z_M_bestShare_0 {l : Launch} {D : va_G} {dA : Nat → ClassId} {ad : Nat → Nat} {sh : List zSE}  {q : Nat} (hm : zMo sh q)   {μ : zI} {ν : zJ} {out : (Int32 × zI × zJ)} (hF : e_M_bestShare_0 q   μ ν = some out) : Z l D dA ad sh m_M_bestShare (zR 3 0 0) (zS ad) (zOi out) 0 0 0 0 [] 0 [(0, .ref (ad q))] [] μ ν := by
  unfold e_M_bestShare_0 at hF
  refine z_aload_n d_M_bestShare_0 0 rfl rfl ?_
  refine z_iconst d_M_bestShare_1 (v := 0) (by decide) ?_
  refine z_put d_M_bestShare_2 f_M_55 (hm 0 _ rfl) rfl (CL_fin _ _ (fun q hq => by cases hq; rfl)) rfl rfl ?_
  obtain ⟨μy1, hy1, hF⟩ := zh_let hF
  refine z_eqm hy1 ?_
  refine z_aload_n d_M_bestShare_5 0 rfl rfl ?_
  refine z_get d_M_bestShare_6 f_M_168 (hm 0 _ rfl) rfl ?_
  refine z_if_ne d_M_bestShare_9 (tgt := 15) (by decide) (fun cy2 => ?_) (fun cy2 => ?_)
  · replace hF := zh_f cy2 hF
    refine z_iconst d_M_bestShare_15 (v := (-1)) (by decide) ?_
    refine z_istore_n d_M_bestShare_16 rfl (by decide) (L2 := [(1, .int (-1)), (0, .ref (ad q))]) rfl ?_
    refine z_iconst d_M_bestShare_17 (v := (-1)) (by decide) ?_
    refine z_istore_n d_M_bestShare_18 rfl (by decide) (L2 := [(2, .int (-1)), (1, .int (-1)), (0, .ref (ad q))]) rfl ?_
    refine z_iconst d_M_bestShare_19 (v := 1) (by decide) ?_
    refine z_istore_n d_M_bestShare_20 rfl (by decide) (L2 := [(3, .int 1), (2, .int (-1)), (1, .int (-1)), (0, .ref (ad q))]) rfl ?_
    refine z_sub [3, 2, 1, 0] (L' := [(0, .ref (ad q)), (1, .int (-1)), (2, .int (-1)), (3, .int 1)]) rfl ?_
    exact z_M_bestShare_21 hm  zFuel _ _ _ _ _ hF
  · replace hF := zh_t cy2 hF
    refine z_bipush d_M_bestShare_12 (v := (-2)) (by decide) ?_
    cases hF
    exact z_ireturn d_M_bestShare_14 rfl rfl ⟨rfl, rfl, rfl⟩
def E_M_bestShare (q : Nat)  (μ : zI) (ν : zJ) : Option (Int32 × zI × zJ) := e_M_bestShare_0 q μ ν
theorem c_M_bestShare {l : Launch} {D : va_G} {dA : Nat → ClassId} {ad : Nat → Nat} {sh : List zSE} {μ : zI} {ν : zJ} {q : Nat} (hm : zMo sh q) {out : (Int32 × zI × zJ)} (hE : E_M_bestShare q μ ν = some out) : zC l D dA ad sh m_M_bestShare 3 0 0 [.ref (ad q)] μ ν (zOi out) :=
  zC.of (by decide) (Nat.le_of_ble_eq_true rfl) (z_M_bestShare_0 hm hE)
def e_M_now_29 (q : Nat)  (x1 : Int32) (s0 : Int32) (μ : zI) (ν : zJ) : Option (Int32 × zI × zJ) := some (s0, μ, ν)
theorem z_M_now_29 {l : Launch} {D : va_G} {dA : Nat → ClassId} {ad : Nat → Nat} {sh : List zSE}  {q : Nat} (hm : zMo sh q)  {x1 : Int32} {s0 : Int32} {μ : zI} {ν : zJ} {out : (Int32 × zI × zJ)} (hF : e_M_now_29 q  x1 s0 μ ν = some out) : Z l D dA ad sh m_M_now (zR 0 0 0) (zS ad) (zOi out) 0 0 0 0 [] 29 [(0, .ref (ad q)), (1, .int x1)] [.int s0] μ ν := by
  unfold e_M_now_29 at hF
  cases hF
  exact z_ireturn d_M_now_29 rfl rfl ⟨rfl, rfl, rfl⟩
def e_M_now_27 (q : Nat)  (x1 : Int32) (μ : zI) (ν : zJ) : Option (Int32 × zI × zJ) := e_M_now_29 q x1 (-10) μ ν
theorem z_M_now_27 {l : Launch} {D : va_G} {dA : Nat → ClassId} {ad : Nat → Nat} {sh : List zSE}  {q : Nat} (hm : zMo sh q)  {x1 : Int32} {μ : zI} {ν : zJ} {out : (Int32 × zI × zJ)} (hF : e_M_now_27 q  x1 μ ν = some out) : Z l D dA ad sh m_M_now (zR 0 0 0) (zS ad) (zOi out) 0 0 0 0 [] 27 [(0, .ref (ad q)), (1, .int x1)] [] μ ν := by
  unfold e_M_now_27 at hF
  refine z_bipush d_M_now_27 (v := (-10)) (by decide) ?_
  exact z_M_now_29 hm  hF
def e_M_now_0 (q : Nat)  (x1 : Int32) (μ : zI) (ν : zJ) : Option (Int32 × zI × zJ) := zlet (zu μ q 0 0) fun μy1 => (if x1 < 0 then e_M_now_27 q x1 μy1 ν else (if 17 < x1 then e_M_now_27 q x1 μy1 ν else (if zin (25 + x1) 146 = true then e_M_now_29 q x1 (μy1 (q + 7) (Int32.toNatClampNeg (25 + x1))) μy1 ν else none)))
theorem z_M_now_0 {l : Launch} {D : va_G} {dA : Nat → ClassId} {ad : Nat → Nat} {sh : List zSE}  {q : Nat} (hm : zMo sh q)  {x1 : Int32} {μ : zI} {ν : zJ} {out : (Int32 × zI × zJ)} (hF : e_M_now_0 q  x1 μ ν = some out) : Z l D dA ad sh m_M_now (zR 0 0 0) (zS ad) (zOi out) 0 0 0 0 [] 0 [(0, .ref (ad q)), (1, .int x1)] [] μ ν := by
  unfold e_M_now_0 at hF
  refine z_aload_n d_M_now_0 0 rfl rfl ?_
  refine z_iconst d_M_now_1 (v := 0) (by decide) ?_
  refine z_put d_M_now_2 f_M_55 (hm 0 _ rfl) rfl (CL_fin _ _ (fun q hq => by cases hq; rfl)) rfl rfl ?_
  obtain ⟨μy1, hy1, hF⟩ := zh_let hF
  refine z_eqm hy1 ?_
  refine z_iload_n d_M_now_5 1 rfl rfl ?_
  refine z_if_lt d_M_now_6 (tgt := 27) (by decide) (fun cy2 => ?_) (fun cy2 => ?_)
  · replace hF := zh_t cy2 hF
    exact z_M_now_27 hm  hF
  · replace hF := zh_f cy2 hF
    refine z_iload_n d_M_now_9 1 rfl rfl ?_
    refine z_bipush d_M_now_10 (v := 17) (by decide) ?_
    refine z_icmp_gt d_M_now_12 (tgt := 27) (by decide) (fun cy3 => ?_) (fun cy3 => ?_)
    · replace hF := zh_t cy3 hF
      exact z_M_now_27 hm  hF
    · replace hF := zh_f cy3 hF
      refine z_aload_n d_M_now_15 0 rfl rfl ?_
      refine z_getr d_M_now_16 (q := (q + 7)) f_M_33 (hm 0 _ rfl) rfl ?_
      refine z_bipush d_M_now_19 (v := 25) (by decide) ?_
      refine z_iload_n d_M_now_21 1 rfl rfl ?_
      refine z_iadd d_M_now_22 ?_
      obtain ⟨hy4, hF⟩ := zh_if hF
      refine z_iald d_M_now_23 (hm 7 _ rfl) (zin_vp hy4) ?_
      refine z_goto d_M_now_24 (tgt := 29) (by decide) ?_
      exact z_M_now_29 hm  hF
def E_M_now (q : Nat) (x1 : Int32) (μ : zI) (ν : zJ) : Option (Int32 × zI × zJ) := e_M_now_0 q x1 μ ν
theorem c_M_now {l : Launch} {D : va_G} {dA : Nat → ClassId} {ad : Nat → Nat} {sh : List zSE} {μ : zI} {ν : zJ} {q : Nat} {x1 : Int32} (hm : zMo sh q) {out : (Int32 × zI × zJ)} (hE : E_M_now q x1 μ ν = some out) : zC l D dA ad sh m_M_now 0 0 0 [.ref (ad q), .int x1] μ ν (zOi out) :=
  zC.of (by decide) (Nat.le_of_ble_eq_true rfl) (z_M_now_0 hm hE)
def e_M_sum_27 (q : Nat)  (x1 : Int32) (v0 : Int64) (μ : zI) (ν : zJ) : Option (Int64 × zI × zJ) := some (v0, μ, ν)
theorem z_M_sum_27 {l : Launch} {D : va_G} {dA : Nat → ClassId} {ad : Nat → Nat} {sh : List zSE}  {q : Nat} (hm : zMo sh q)  {x1 : Int32} {v0 : Int64} {μ : zI} {ν : zJ} {out : (Int64 × zI × zJ)} (hF : e_M_sum_27 q  x1 v0 μ ν = some out) : Z l D dA ad sh m_M_sum (zR 0 0 0) (zS ad) (zOl out) 0 0 0 0 [] 27 [(0, .ref (ad q)), (1, .int x1)] [.long v0] μ ν := by
  unfold e_M_sum_27 at hF
  cases hF
  exact z_lreturn d_M_sum_27 rfl ⟨rfl, rfl, rfl⟩
def e_M_sum_24 (q : Nat)  (x1 : Int32) (μ : zI) (ν : zJ) : Option (Int64 × zI × zJ) := e_M_sum_27 q x1 (-1) μ ν
theorem z_M_sum_24 {l : Launch} {D : va_G} {dA : Nat → ClassId} {ad : Nat → Nat} {sh : List zSE}  {q : Nat} (hm : zMo sh q)  {x1 : Int32} {μ : zI} {ν : zJ} {out : (Int64 × zI × zJ)} (hF : e_M_sum_24 q  x1 μ ν = some out) : Z l D dA ad sh m_M_sum (zR 0 0 0) (zS ad) (zOl out) 0 0 0 0 [] 24 [(0, .ref (ad q)), (1, .int x1)] [] μ ν := by
  unfold e_M_sum_24 at hF
  refine z_ldc2 d_M_sum_24 k_M_285 ?_
  exact z_M_sum_27 hm  hF
def e_M_sum_0 (q : Nat)  (x1 : Int32) (μ : zI) (ν : zJ) : Option (Int64 × zI × zJ) := zlet (zu μ q 0 0) fun μy1 => (if x1 < 0 then e_M_sum_24 q x1 μy1 ν else (if 10 < x1 then e_M_sum_24 q x1 μy1 ν else (if zin x1 11 = true then e_M_sum_27 q x1 (ν (q + 9) (Int32.toNatClampNeg x1)) μy1 ν else none)))
theorem z_M_sum_0 {l : Launch} {D : va_G} {dA : Nat → ClassId} {ad : Nat → Nat} {sh : List zSE}  {q : Nat} (hm : zMo sh q)  {x1 : Int32} {μ : zI} {ν : zJ} {out : (Int64 × zI × zJ)} (hF : e_M_sum_0 q  x1 μ ν = some out) : Z l D dA ad sh m_M_sum (zR 0 0 0) (zS ad) (zOl out) 0 0 0 0 [] 0 [(0, .ref (ad q)), (1, .int x1)] [] μ ν := by
  unfold e_M_sum_0 at hF
  refine z_aload_n d_M_sum_0 0 rfl rfl ?_
  refine z_iconst d_M_sum_1 (v := 0) (by decide) ?_
  refine z_put d_M_sum_2 f_M_55 (hm 0 _ rfl) rfl (CL_fin _ _ (fun q hq => by cases hq; rfl)) rfl rfl ?_
  obtain ⟨μy1, hy1, hF⟩ := zh_let hF
  refine z_eqm hy1 ?_
  refine z_iload_n d_M_sum_5 1 rfl rfl ?_
  refine z_if_lt d_M_sum_6 (tgt := 24) (by decide) (fun cy2 => ?_) (fun cy2 => ?_)
  · replace hF := zh_t cy2 hF
    exact z_M_sum_24 hm  hF
  · replace hF := zh_f cy2 hF
    refine z_iload_n d_M_sum_9 1 rfl rfl ?_
    refine z_bipush d_M_sum_10 (v := 10) (by decide) ?_
    refine z_icmp_gt d_M_sum_12 (tgt := 24) (by decide) (fun cy3 => ?_) (fun cy3 => ?_)
    · replace hF := zh_t cy3 hF
      exact z_M_sum_24 hm  hF
    · replace hF := zh_f cy3 hF
      refine z_aload_n d_M_sum_15 0 rfl rfl ?_
      refine z_getr d_M_sum_16 (q := (q + 9)) f_M_39 (hm 0 _ rfl) rfl ?_
      refine z_iload_n d_M_sum_19 1 rfl rfl ?_
      obtain ⟨hy4, hF⟩ := zh_if hF
      refine z_lald d_M_sum_20 (hm 9 _ rfl) (zin_vp hy4) ?_
      refine z_goto d_M_sum_21 (tgt := 27) (by decide) ?_
      exact z_M_sum_27 hm  hF
def E_M_sum (q : Nat) (x1 : Int32) (μ : zI) (ν : zJ) : Option (Int64 × zI × zJ) := e_M_sum_0 q x1 μ ν
theorem c_M_sum {l : Launch} {D : va_G} {dA : Nat → ClassId} {ad : Nat → Nat} {sh : List zSE} {μ : zI} {ν : zJ} {q : Nat} {x1 : Int32} (hm : zMo sh q) {out : (Int64 × zI × zJ)} (hE : E_M_sum q x1 μ ν = some out) : zC l D dA ad sh m_M_sum 0 0 0 [.ref (ad q), .int x1] μ ν (zOl out) :=
  zC.of (by decide) (Nat.le_of_ble_eq_true rfl) (z_M_sum_0 hm hE)
def e_M_past_19 (q : Nat)  (x1 : Int32) (x2 : Int32) (μ : zI) (ν : zJ) : Option (Int32 × zI × zJ) := some ((-1), μ, ν)
theorem z_M_past_19 {l : Launch} {D : va_G} {dA : Nat → ClassId} {ad : Nat → Nat} {sh : List zSE}  {q : Nat} (hm : zMo sh q)  {x1 : Int32} {x2 : Int32} {μ : zI} {ν : zJ} {out : (Int32 × zI × zJ)} (hF : e_M_past_19 q  x1 x2 μ ν = some out) : Z l D dA ad sh m_M_past (zR 0 0 0) (zS ad) (zOi out) 0 0 0 0 [] 19 [(0, .ref (ad q)), (1, .int x1), (2, .int x2)] [] μ ν := by
  unfold e_M_past_19 at hF
  refine z_iconst d_M_past_19 (v := (-1)) (by decide) ?_
  cases hF
  exact z_ireturn d_M_past_20 rfl rfl ⟨rfl, rfl, rfl⟩
def e_M_past_45 (q : Nat)  (x1 : Int32) (x2 : Int32) (s0 : Int32) (μ : zI) (ν : zJ) : Option (Int32 × zI × zJ) := some (s0, μ, ν)
theorem z_M_past_45 {l : Launch} {D : va_G} {dA : Nat → ClassId} {ad : Nat → Nat} {sh : List zSE}  {q : Nat} (hm : zMo sh q)  {x1 : Int32} {x2 : Int32} {s0 : Int32} {μ : zI} {ν : zJ} {out : (Int32 × zI × zJ)} (hF : e_M_past_45 q  x1 x2 s0 μ ν = some out) : Z l D dA ad sh m_M_past (zR 0 0 0) (zS ad) (zOi out) 0 0 0 0 [] 45 [(0, .ref (ad q)), (1, .int x1), (2, .int x2)] [.int s0] μ ν := by
  unfold e_M_past_45 at hF
  cases hF
  exact z_ireturn d_M_past_45 rfl rfl ⟨rfl, rfl, rfl⟩
def e_M_past_0 (q : Nat)  (x1 : Int32) (x2 : Int32) (μ : zI) (ν : zJ) : Option (Int32 × zI × zJ) := zlet (zu μ q 0 0) fun μy1 => (if x1 < 0 then e_M_past_19 q x1 x2 μy1 ν else (if x2 < 0 then e_M_past_19 q x1 x2 μy1 ν else (if x2 ≤ 9 then (if (μy1 q 28) ≤ x1 then e_M_past_45 q x1 x2 (-2) μy1 ν else (if zin ((10 * x1) + x2) 1000 = true then e_M_past_45 q x1 x2 (μy1 (q + 11) (Int32.toNatClampNeg ((10 * x1) + x2))) μy1 ν else none)) else e_M_past_19 q x1 x2 μy1 ν)))
theorem z_M_past_0 {l : Launch} {D : va_G} {dA : Nat → ClassId} {ad : Nat → Nat} {sh : List zSE}  {q : Nat} (hm : zMo sh q)  {x1 : Int32} {x2 : Int32} {μ : zI} {ν : zJ} {out : (Int32 × zI × zJ)} (hF : e_M_past_0 q  x1 x2 μ ν = some out) : Z l D dA ad sh m_M_past (zR 0 0 0) (zS ad) (zOi out) 0 0 0 0 [] 0 [(0, .ref (ad q)), (1, .int x1), (2, .int x2)] [] μ ν := by
  unfold e_M_past_0 at hF
  refine z_aload_n d_M_past_0 0 rfl rfl ?_
  refine z_iconst d_M_past_1 (v := 0) (by decide) ?_
  refine z_put d_M_past_2 f_M_55 (hm 0 _ rfl) rfl (CL_fin _ _ (fun q hq => by cases hq; rfl)) rfl rfl ?_
  obtain ⟨μy1, hy1, hF⟩ := zh_let hF
  refine z_eqm hy1 ?_
  refine z_iload_n d_M_past_5 1 rfl rfl ?_
  refine z_if_lt d_M_past_6 (tgt := 19) (by decide) (fun cy2 => ?_) (fun cy2 => ?_)
  · replace hF := zh_t cy2 hF
    exact z_M_past_19 hm  hF
  · replace hF := zh_f cy2 hF
    refine z_iload_n d_M_past_9 2 rfl rfl ?_
    refine z_if_lt d_M_past_10 (tgt := 19) (by decide) (fun cy3 => ?_) (fun cy3 => ?_)
    · replace hF := zh_t cy3 hF
      exact z_M_past_19 hm  hF
    · replace hF := zh_f cy3 hF
      refine z_iload_n d_M_past_13 2 rfl rfl ?_
      refine z_bipush d_M_past_14 (v := 9) (by decide) ?_
      refine z_icmp_le d_M_past_16 (tgt := 21) (by decide) (fun cy4 => ?_) (fun cy4 => ?_)
      · replace hF := zh_t cy4 hF
        refine z_iload_n d_M_past_21 1 rfl rfl ?_
        refine z_aload_n d_M_past_22 0 rfl rfl ?_
        refine z_get d_M_past_23 f_M_175 (hm 0 _ rfl) rfl ?_
        refine z_icmp_ge d_M_past_26 (tgt := 43) (by decide) (fun cy5 => ?_) (fun cy5 => ?_)
        · replace hF := zh_t cy5 hF
          refine z_bipush d_M_past_43 (v := (-2)) (by decide) ?_
          exact z_M_past_45 hm  hF
        · replace hF := zh_f cy5 hF
          refine z_aload_n d_M_past_29 0 rfl rfl ?_
          refine z_getr d_M_past_30 (q := (q + 11)) f_M_46 (hm 0 _ rfl) rfl ?_
          refine z_bipush d_M_past_33 (v := 10) (by decide) ?_
          refine z_iload_n d_M_past_35 1 rfl rfl ?_
          refine z_imul d_M_past_36 ?_
          refine z_iload_n d_M_past_37 2 rfl rfl ?_
          refine z_iadd d_M_past_38 ?_
          obtain ⟨hy6, hF⟩ := zh_if hF
          refine z_iald d_M_past_39 (hm 11 _ rfl) (zin_vp hy6) ?_
          refine z_goto d_M_past_40 (tgt := 45) (by decide) ?_
          exact z_M_past_45 hm  hF
      · replace hF := zh_f cy4 hF
        exact z_M_past_19 hm  hF
def E_M_past (q : Nat) (x1 : Int32) (x2 : Int32) (μ : zI) (ν : zJ) : Option (Int32 × zI × zJ) := e_M_past_0 q x1 x2 μ ν
theorem c_M_past {l : Launch} {D : va_G} {dA : Nat → ClassId} {ad : Nat → Nat} {sh : List zSE} {μ : zI} {ν : zJ} {q : Nat} {x1 : Int32} {x2 : Int32} (hm : zMo sh q) {out : (Int32 × zI × zJ)} (hE : E_M_past q x1 x2 μ ν = some out) : zC l D dA ad sh m_M_past 0 0 0 [.ref (ad q), .int x1, .int x2] μ ν (zOi out) :=
  zC.of (by decide) (Nat.le_of_ble_eq_true rfl) (z_M_past_0 hm hE)
def e_M_wasNear_40 (q : Nat)  (x1 : Int32) (x2 : Int32) (s0 : Int32) (μ : zI) (ν : zJ) : Option (Int32 × zI × zJ) := (if zb s0 = true then some (s0, μ, ν) else none)
theorem z_M_wasNear_40 {l : Launch} {D : va_G} {dA : Nat → ClassId} {ad : Nat → Nat} {sh : List zSE}  {q : Nat} (hm : zMo sh q)  {x1 : Int32} {x2 : Int32} {s0 : Int32} {μ : zI} {ν : zJ} {out : (Int32 × zI × zJ)} (hF : e_M_wasNear_40 q  x1 x2 s0 μ ν = some out) : Z l D dA ad sh m_M_wasNear (zR 0 0 0) (zS ad) (zOi out) 0 0 0 0 [] 40 [(0, .ref (ad q)), (1, .int x1), (2, .int x2)] [.int s0] μ ν := by
  unfold e_M_wasNear_40 at hF
  obtain ⟨hy1, hF⟩ := zh_if hF
  cases hF
  exact z_ireturn d_M_wasNear_40 rfl (zb_n hy1) ⟨rfl, rfl, rfl⟩
def e_M_wasNear_0 (q : Nat)  (x1 : Int32) (x2 : Int32) (μ : zI) (ν : zJ) : Option (Int32 × zI × zJ) := (if zin ((10 * x1) + 1) 1000 = true then (if zin ((10 * x1) + 2) 1000 = true then (if (lg_cmp (100 * (Int32.toInt64 (μ (q + 11) (Int32.toNatClampNeg ((10 * x1) + 1))))) ((Int32.toInt64 x2) * (Int32.toInt64 (μ (q + 11) (Int32.toNatClampNeg ((10 * x1) + 2)))))) < 0 then e_M_wasNear_40 q x1 x2 0 μ ν else e_M_wasNear_40 q x1 x2 1 μ ν) else none) else none)
theorem z_M_wasNear_0 {l : Launch} {D : va_G} {dA : Nat → ClassId} {ad : Nat → Nat} {sh : List zSE}  {q : Nat} (hm : zMo sh q)  {x1 : Int32} {x2 : Int32} {μ : zI} {ν : zJ} {out : (Int32 × zI × zJ)} (hF : e_M_wasNear_0 q  x1 x2 μ ν = some out) : Z l D dA ad sh m_M_wasNear (zR 0 0 0) (zS ad) (zOi out) 0 0 0 0 [] 0 [(0, .ref (ad q)), (1, .int x1), (2, .int x2)] [] μ ν := by
  unfold e_M_wasNear_0 at hF
  refine z_ldc2 d_M_wasNear_0 k_M_227 ?_
  refine z_aload_n d_M_wasNear_3 0 rfl rfl ?_
  refine z_getr d_M_wasNear_4 (q := (q + 11)) f_M_46 (hm 0 _ rfl) rfl ?_
  refine z_bipush d_M_wasNear_7 (v := 10) (by decide) ?_
  refine z_iload_n d_M_wasNear_9 1 rfl rfl ?_
  refine z_imul d_M_wasNear_10 ?_
  refine z_iconst d_M_wasNear_11 (v := 1) (by decide) ?_
  refine z_iadd d_M_wasNear_12 ?_
  obtain ⟨hy1, hF⟩ := zh_if hF
  refine z_iald d_M_wasNear_13 (hm 11 _ rfl) (zin_vp hy1) ?_
  refine z_i2l d_M_wasNear_14 ?_
  refine z_lmul d_M_wasNear_15 ?_
  refine z_iload_n d_M_wasNear_16 2 rfl rfl ?_
  refine z_i2l d_M_wasNear_17 ?_
  refine z_aload_n d_M_wasNear_18 0 rfl rfl ?_
  refine z_getr d_M_wasNear_19 (q := (q + 11)) f_M_46 (hm 0 _ rfl) rfl ?_
  refine z_bipush d_M_wasNear_22 (v := 10) (by decide) ?_
  refine z_iload_n d_M_wasNear_24 1 rfl rfl ?_
  refine z_imul d_M_wasNear_25 ?_
  refine z_iconst d_M_wasNear_26 (v := 2) (by decide) ?_
  refine z_iadd d_M_wasNear_27 ?_
  obtain ⟨hy2, hF⟩ := zh_if hF
  refine z_iald d_M_wasNear_28 (hm 11 _ rfl) (zin_vp hy2) ?_
  refine z_i2l d_M_wasNear_29 ?_
  refine z_lmul d_M_wasNear_30 ?_
  refine z_lcmp d_M_wasNear_31 ?_
  refine z_if_lt d_M_wasNear_32 (tgt := 39) (by decide) (fun cy3 => ?_) (fun cy3 => ?_)
  · replace hF := zh_t cy3 hF
    refine z_iconst d_M_wasNear_39 (v := 0) (by decide) ?_
    exact z_M_wasNear_40 hm  hF
  · replace hF := zh_f cy3 hF
    refine z_iconst d_M_wasNear_35 (v := 1) (by decide) ?_
    refine z_goto d_M_wasNear_36 (tgt := 40) (by decide) ?_
    exact z_M_wasNear_40 hm  hF
def E_M_wasNear (q : Nat) (x1 : Int32) (x2 : Int32) (μ : zI) (ν : zJ) : Option (Int32 × zI × zJ) := e_M_wasNear_0 q x1 x2 μ ν
theorem c_M_wasNear {l : Launch} {D : va_G} {dA : Nat → ClassId} {ad : Nat → Nat} {sh : List zSE} {μ : zI} {ν : zJ} {q : Nat} {x1 : Int32} {x2 : Int32} (hm : zMo sh q) {out : (Int32 × zI × zJ)} (hE : E_M_wasNear q x1 x2 μ ν = some out) : zC l D dA ad sh m_M_wasNear 0 0 0 [.ref (ad q), .int x1, .int x2] μ ν (zOi out) :=
  zC.of (by decide) (Nat.le_of_ble_eq_true rfl) (z_M_wasNear_0 hm hE)
def e_M_isPart_15   (x0 : Int32) (s0 : Int32) (μ : zI) (ν : zJ) : Option (Int32 × zI × zJ) := (if zb s0 = true then some (s0, μ, ν) else none)
theorem z_M_isPart_15 {l : Launch} {D : va_G} {dA : Nat → ClassId} {ad : Nat → Nat} {sh : List zSE}    {x0 : Int32} {s0 : Int32} {μ : zI} {ν : zJ} {out : (Int32 × zI × zJ)} (hF : e_M_isPart_15   x0 s0 μ ν = some out) : Z l D dA ad sh m_M_isPart (zR 0 0 0) (zS ad) (zOi out) 0 0 0 0 [] 15 [(0, .int x0)] [.int s0] μ ν := by
  unfold e_M_isPart_15 at hF
  obtain ⟨hy1, hF⟩ := zh_if hF
  cases hF
  exact z_ireturn d_M_isPart_15 rfl (zb_n hy1) ⟨rfl, rfl, rfl⟩
def e_M_isPart_14   (x0 : Int32) (μ : zI) (ν : zJ) : Option (Int32 × zI × zJ) := e_M_isPart_15 x0 0 μ ν
theorem z_M_isPart_14 {l : Launch} {D : va_G} {dA : Nat → ClassId} {ad : Nat → Nat} {sh : List zSE}    {x0 : Int32} {μ : zI} {ν : zJ} {out : (Int32 × zI × zJ)} (hF : e_M_isPart_14   x0 μ ν = some out) : Z l D dA ad sh m_M_isPart (zR 0 0 0) (zS ad) (zOi out) 0 0 0 0 [] 14 [(0, .int x0)] [] μ ν := by
  unfold e_M_isPart_14 at hF
  refine z_iconst d_M_isPart_14 (v := 0) (by decide) ?_
  exact z_M_isPart_15   hF
def e_M_isPart_0   (x0 : Int32) (μ : zI) (ν : zJ) : Option (Int32 × zI × zJ) := (if x0 < 0 then e_M_isPart_14 x0 μ ν else (if 100 < x0 then e_M_isPart_14 x0 μ ν else e_M_isPart_15 x0 1 μ ν))
theorem z_M_isPart_0 {l : Launch} {D : va_G} {dA : Nat → ClassId} {ad : Nat → Nat} {sh : List zSE}    {x0 : Int32} {μ : zI} {ν : zJ} {out : (Int32 × zI × zJ)} (hF : e_M_isPart_0   x0 μ ν = some out) : Z l D dA ad sh m_M_isPart (zR 0 0 0) (zS ad) (zOi out) 0 0 0 0 [] 0 [(0, .int x0)] [] μ ν := by
  unfold e_M_isPart_0 at hF
  refine z_iload_n d_M_isPart_0 0 rfl rfl ?_
  refine z_if_lt d_M_isPart_1 (tgt := 14) (by decide) (fun cy1 => ?_) (fun cy1 => ?_)
  · replace hF := zh_t cy1 hF
    exact z_M_isPart_14   hF
  · replace hF := zh_f cy1 hF
    refine z_iload_n d_M_isPart_4 0 rfl rfl ?_
    refine z_bipush d_M_isPart_5 (v := 100) (by decide) ?_
    refine z_icmp_gt d_M_isPart_7 (tgt := 14) (by decide) (fun cy2 => ?_) (fun cy2 => ?_)
    · replace hF := zh_t cy2 hF
      exact z_M_isPart_14   hF
    · replace hF := zh_f cy2 hF
      refine z_iconst d_M_isPart_10 (v := 1) (by decide) ?_
      refine z_goto d_M_isPart_11 (tgt := 15) (by decide) ?_
      exact z_M_isPart_15   hF
def E_M_isPart  (x0 : Int32) (μ : zI) (ν : zJ) : Option (Int32 × zI × zJ) := e_M_isPart_0 x0 μ ν
theorem c_M_isPart {l : Launch} {D : va_G} {dA : Nat → ClassId} {ad : Nat → Nat} {sh : List zSE} {μ : zI} {ν : zJ} {x0 : Int32}  {out : (Int32 × zI × zJ)} (hE : E_M_isPart x0 μ ν = some out) : zC l D dA ad sh m_M_isPart 0 0 0 [.int x0] μ ν (zOi out) :=
  zC.of (by decide) (Nat.le_of_ble_eq_true rfl) (z_M_isPart_0  hE)
def e_M_near_41 (q : Nat) (r18 : Int32 → Int32 → Int32 → zI → zJ → Option (Int32 × zI × zJ)) (x1 : Int32) (x2 : Int32) (x3 : Int32) (s0 : Int32) (s1 : Int32) (μ : zI) (ν : zJ) : Option (Int32 × zI × zJ) := zlet (α := Int32) (s0 + s1) fun y1 => r18 x1 y1 (x3 + 1) μ ν
theorem z_M_near_41 {l : Launch} {D : va_G} {dA : Nat → ClassId} {ad : Nat → Nat} {sh : List zSE}  {q : Nat} (hm : zMo sh q) {r18 : Int32 → Int32 → Int32 → zI → zJ → Option (Int32 × zI × zJ)} {x1 : Int32} {x2 : Int32} {x3 : Int32} {s0 : Int32} {s1 : Int32} {μ : zI} {ν : zJ} {out : (Int32 × zI × zJ)} (hr18 : ∀ (x1 : Int32) (x2 : Int32) (x3 : Int32) (μ : zI) (ν : zJ), r18 x1 x2 x3 μ ν = some out → Z l D dA ad sh m_M_near (zR 1 0 0) (zS ad) (zOi out) 0 0 0 0 [] 18 [(0, .ref (ad q)), (1, .int x1), (2, .int x2), (3, .int x3)] [] μ ν) (hF : e_M_near_41 q r18 x1 x2 x3 s0 s1 μ ν = some out) : Z l D dA ad sh m_M_near (zR 1 0 0) (zS ad) (zOi out) 0 0 0 0 [] 41 [(0, .ref (ad q)), (1, .int x1), (2, .int x2), (3, .int x3)] [.int s1, .int s0] μ ν := by
  unfold e_M_near_41 at hF
  refine z_iadd d_M_near_41 ?_
  obtain ⟨y1, hy1, hF⟩ := zh_let hF
  refine z_eqi hy1 ?_
  refine z_istore_n d_M_near_42 rfl (by decide) (L2 := [(2, .int y1), (0, .ref (ad q)), (1, .int x1), (3, .int x3)]) rfl ?_
  refine z_iinc d_M_near_43 (k := 3) (v := (x3 + 1)) rfl rfl (by decide) (L2 := [(3, .int (x3 + 1)), (2, .int y1), (0, .ref (ad q)), (1, .int x1)]) rfl ?_
  refine z_goto d_M_near_46 (tgt := 18) (by decide) ?_
  refine z_sub [2, 3, 1, 0] (L' := [(0, .ref (ad q)), (1, .int x1), (2, .int y1), (3, .int (x3 + 1))]) rfl ?_
  exact hr18 _ _ _ _ _ hF
def f_M_near_18 (q : Nat)  : Nat → Int32 → Int32 → Int32 → zI → zJ → Option (Int32 × zI × zJ)
  | 0, _, _, _, _, _ => none
  | n + 1, x1, x2, x3, μ, ν => (if (μ q 28) ≤ x3 then some (x2, μ, ν) else Option.bind (E_M_wasNear q x3 x1 μ ν) fun ty2 => (if ty2.1 = 0 then e_M_near_41 q (f_M_near_18 q n) x1 x2 x3 x2 0 ty2.2.1 ty2.2.2 else e_M_near_41 q (f_M_near_18 q n) x1 x2 x3 x2 1 ty2.2.1 ty2.2.2))
theorem z_M_near_18 {l : Launch} {D : va_G} {dA : Nat → ClassId} {ad : Nat → Nat} {sh : List zSE}  {q : Nat} (hm : zMo sh q)  {out : (Int32 × zI × zJ)} : ∀ (n : Nat) (x1 : Int32) (x2 : Int32) (x3 : Int32) (μ : zI) (ν : zJ), f_M_near_18 q  n x1 x2 x3 μ ν = some out → Z l D dA ad sh m_M_near (zR 1 0 0) (zS ad) (zOi out) 0 0 0 0 [] 18 [(0, .ref (ad q)), (1, .int x1), (2, .int x2), (3, .int x3)] [] μ ν := by
  intro n
  induction n with
  | zero => intro x1 x2 x3 μ ν hF; cases hF
  | succ n ih =>
    intro x1 x2 x3 μ ν hF
    dsimp only [f_M_near_18] at hF
    refine z_iload_n d_M_near_18 3 rfl rfl ?_
    refine z_aload_n d_M_near_19 0 rfl rfl ?_
    refine z_get d_M_near_20 f_M_175 (hm 0 _ rfl) rfl ?_
    refine z_icmp_ge d_M_near_23 (tgt := 49) (by decide) (fun cy1 => ?_) (fun cy1 => ?_)
    · replace hF := zh_t cy1 hF
      refine z_iload_n d_M_near_49 2 rfl rfl ?_
      cases hF
      exact z_ireturn d_M_near_50 rfl rfl ⟨rfl, rfl, rfl⟩
    · replace hF := zh_f cy1 hF
      refine z_iload_n d_M_near_26 2 rfl rfl ?_
      refine z_aload_n d_M_near_27 0 rfl rfl ?_
      refine z_iload_n d_M_near_28 3 rfl rfl ?_
      refine z_iload_n d_M_near_29 1 rfl rfl ?_
      obtain ⟨ty2, hty2, hF⟩ := zh_bind hF
      refine z_callV d_M_near_30 (c_M_wasNear hm hty2) mv_M_wasNear l_M_290 (fun _ _ h => h) (hm 0 _ rfl) rfl rfl ⟨Nat.le_of_ble_eq_true rfl, Nat.le_of_ble_eq_true rfl⟩ ⟨Nat.le_of_ble_eq_true rfl, Nat.le_of_ble_eq_true rfl⟩ rfl (Nat.le_of_ble_eq_true rfl) (fun r μ' ν' hq => ?_)
      obtain ⟨rfl, rfl, rfl⟩ := hq
      show Z _ _ _ _ _ _ _ _ _ _ _ 0 0 _ _ _ [.int ty2.1, .int x2] _ _
      refine z_if_eq d_M_near_33 (tgt := 40) (by decide) (fun cy3 => ?_) (fun cy3 => ?_)
      · replace hF := zh_t cy3 hF
        refine z_iconst d_M_near_40 (v := 0) (by decide) ?_
        exact z_M_near_41 hm (fun a0 a1 a2 a3 a4 => ih a0 a1 a2 a3 a4) hF
      · replace hF := zh_f cy3 hF
        refine z_iconst d_M_near_36 (v := 1) (by decide) ?_
        refine z_goto d_M_near_37 (tgt := 41) (by decide) ?_
        exact z_M_near_41 hm (fun a0 a1 a2 a3 a4 => ih a0 a1 a2 a3 a4) hF
def e_M_near_0 (q : Nat)  (x1 : Int32) (μ : zI) (ν : zJ) : Option (Int32 × zI × zJ) := zlet (zu μ q 0 0) fun μy1 => Option.bind (E_M_isPart x1 μy1 ν) fun ty2 => (if ty2.1 = 0 then some ((-1), ty2.2.1, ty2.2.2) else f_M_near_18 q zFuel x1 0 0 ty2.2.1 ty2.2.2)
theorem z_M_near_0 {l : Launch} {D : va_G} {dA : Nat → ClassId} {ad : Nat → Nat} {sh : List zSE}  {q : Nat} (hm : zMo sh q)  {x1 : Int32} {μ : zI} {ν : zJ} {out : (Int32 × zI × zJ)} (hF : e_M_near_0 q  x1 μ ν = some out) : Z l D dA ad sh m_M_near (zR 1 0 0) (zS ad) (zOi out) 0 0 0 0 [] 0 [(0, .ref (ad q)), (1, .int x1)] [] μ ν := by
  unfold e_M_near_0 at hF
  refine z_aload_n d_M_near_0 0 rfl rfl ?_
  refine z_iconst d_M_near_1 (v := 0) (by decide) ?_
  refine z_put d_M_near_2 f_M_55 (hm 0 _ rfl) rfl (CL_fin _ _ (fun q hq => by cases hq; rfl)) rfl rfl ?_
  obtain ⟨μy1, hy1, hF⟩ := zh_let hF
  refine z_eqm hy1 ?_
  refine z_iload_n d_M_near_5 1 rfl rfl ?_
  obtain ⟨ty2, hty2, hF⟩ := zh_bind hF
  refine z_callS d_M_near_6 (c_M_isPart  hty2) ms_M_isPart l_M_287 (fun _ _ h => h) rfl ⟨Nat.le_of_ble_eq_true rfl, Nat.le_of_ble_eq_true rfl⟩ ⟨Nat.le_of_ble_eq_true rfl, Nat.le_of_ble_eq_true rfl⟩ rfl (Nat.le_of_ble_eq_true rfl) (fun r μ' ν' hq => ?_)
  obtain ⟨rfl, rfl, rfl⟩ := hq
  show Z _ _ _ _ _ _ _ _ _ _ _ 0 0 _ _ _ [.int ty2.1] _ _
  refine z_if_ne d_M_near_9 (tgt := 14) (by decide) (fun cy3 => ?_) (fun cy3 => ?_)
  · replace hF := zh_f cy3 hF
    refine z_iconst d_M_near_14 (v := 0) (by decide) ?_
    refine z_istore_n d_M_near_15 rfl (by decide) (L2 := [(2, .int 0), (0, .ref (ad q)), (1, .int x1)]) rfl ?_
    refine z_iconst d_M_near_16 (v := 0) (by decide) ?_
    refine z_istore_n d_M_near_17 rfl (by decide) (L2 := [(3, .int 0), (2, .int 0), (0, .ref (ad q)), (1, .int x1)]) rfl ?_
    refine z_sub [2, 3, 1, 0] (L' := [(0, .ref (ad q)), (1, .int x1), (2, .int 0), (3, .int 0)]) rfl ?_
    exact z_M_near_18 hm  zFuel _ _ _ _ _ hF
  · replace hF := zh_t cy3 hF
    refine z_iconst d_M_near_12 (v := (-1)) (by decide) ?_
    cases hF
    exact z_ireturn d_M_near_13 rfl rfl ⟨rfl, rfl, rfl⟩
def E_M_near (q : Nat) (x1 : Int32) (μ : zI) (ν : zJ) : Option (Int32 × zI × zJ) := e_M_near_0 q x1 μ ν
theorem c_M_near {l : Launch} {D : va_G} {dA : Nat → ClassId} {ad : Nat → Nat} {sh : List zSE} {μ : zI} {ν : zJ} {q : Nat} {x1 : Int32} (hm : zMo sh q) {out : (Int32 × zI × zJ)} (hE : E_M_near q x1 μ ν = some out) : zC l D dA ad sh m_M_near 1 0 0 [.ref (ad q), .int x1] μ ν (zOi out) :=
  zC.of (by decide) (Nat.le_of_ble_eq_true rfl) (z_M_near_0 hm hE)
def e_M_longestAway_58 (q : Nat) (r21 : Int32 → Int32 → Int32 → Int32 → zI → zJ → Option (Int32 × zI × zJ)) (x1 : Int32) (x2 : Int32) (x3 : Int32) (x4 : Int32) (s0 : Int32) (μ : zI) (ν : zJ) : Option (Int32 × zI × zJ) := r21 x1 s0 x3 (x4 + 1) μ ν
theorem z_M_longestAway_58 {l : Launch} {D : va_G} {dA : Nat → ClassId} {ad : Nat → Nat} {sh : List zSE}  {q : Nat} (hm : zMo sh q) {r21 : Int32 → Int32 → Int32 → Int32 → zI → zJ → Option (Int32 × zI × zJ)} {x1 : Int32} {x2 : Int32} {x3 : Int32} {x4 : Int32} {s0 : Int32} {μ : zI} {ν : zJ} {out : (Int32 × zI × zJ)} (hr21 : ∀ (x1 : Int32) (x2 : Int32) (x3 : Int32) (x4 : Int32) (μ : zI) (ν : zJ), r21 x1 x2 x3 x4 μ ν = some out → Z l D dA ad sh m_M_longestAway (zR 1 0 0) (zS ad) (zOi out) 0 0 0 0 [] 21 [(0, .ref (ad q)), (1, .int x1), (2, .int x2), (3, .int x3), (4, .int x4)] [] μ ν) (hF : e_M_longestAway_58 q r21 x1 x2 x3 x4 s0 μ ν = some out) : Z l D dA ad sh m_M_longestAway (zR 1 0 0) (zS ad) (zOi out) 0 0 0 0 [] 58 [(0, .ref (ad q)), (1, .int x1), (2, .int x2), (3, .int x3), (4, .int x4)] [.int s0] μ ν := by
  unfold e_M_longestAway_58 at hF
  refine z_istore_n d_M_longestAway_58 rfl (by decide) (L2 := [(2, .int s0), (0, .ref (ad q)), (1, .int x1), (3, .int x3), (4, .int x4)]) rfl ?_
  refine z_iinc d_M_longestAway_59 (k := 4) (v := (x4 + 1)) rfl rfl (by decide) (L2 := [(4, .int (x4 + 1)), (2, .int s0), (0, .ref (ad q)), (1, .int x1), (3, .int x3)]) rfl ?_
  refine z_goto d_M_longestAway_62 (tgt := 21) (by decide) ?_
  refine z_sub [2, 3, 1, 4, 0] (L' := [(0, .ref (ad q)), (1, .int x1), (2, .int s0), (3, .int x3), (4, .int (x4 + 1))]) rfl ?_
  exact hr21 _ _ _ _ _ _ hF
def e_M_longestAway_47 (q : Nat) (r21 : Int32 → Int32 → Int32 → Int32 → zI → zJ → Option (Int32 × zI × zJ)) (x1 : Int32) (x2 : Int32) (x3 : Int32) (x4 : Int32) (s0 : Int32) (μ : zI) (ν : zJ) : Option (Int32 × zI × zJ) := (if s0 ≤ x2 then e_M_longestAway_58 q r21 x1 x2 s0 x4 x2 μ ν else e_M_longestAway_58 q r21 x1 x2 s0 x4 s0 μ ν)
theorem z_M_longestAway_47 {l : Launch} {D : va_G} {dA : Nat → ClassId} {ad : Nat → Nat} {sh : List zSE}  {q : Nat} (hm : zMo sh q) {r21 : Int32 → Int32 → Int32 → Int32 → zI → zJ → Option (Int32 × zI × zJ)} {x1 : Int32} {x2 : Int32} {x3 : Int32} {x4 : Int32} {s0 : Int32} {μ : zI} {ν : zJ} {out : (Int32 × zI × zJ)} (hr21 : ∀ (x1 : Int32) (x2 : Int32) (x3 : Int32) (x4 : Int32) (μ : zI) (ν : zJ), r21 x1 x2 x3 x4 μ ν = some out → Z l D dA ad sh m_M_longestAway (zR 1 0 0) (zS ad) (zOi out) 0 0 0 0 [] 21 [(0, .ref (ad q)), (1, .int x1), (2, .int x2), (3, .int x3), (4, .int x4)] [] μ ν) (hF : e_M_longestAway_47 q r21 x1 x2 x3 x4 s0 μ ν = some out) : Z l D dA ad sh m_M_longestAway (zR 1 0 0) (zS ad) (zOi out) 0 0 0 0 [] 47 [(0, .ref (ad q)), (1, .int x1), (2, .int x2), (3, .int x3), (4, .int x4)] [.int s0] μ ν := by
  unfold e_M_longestAway_47 at hF
  refine z_istore_n d_M_longestAway_47 rfl (by decide) (L2 := [(3, .int s0), (0, .ref (ad q)), (1, .int x1), (2, .int x2), (4, .int x4)]) rfl ?_
  refine z_iload_n d_M_longestAway_48 0 rfl rfl ?_
  refine z_iload_n d_M_longestAway_49 3 rfl rfl ?_
  refine z_icmp_le d_M_longestAway_50 (tgt := 57) (by decide) (fun cy1 => ?_) (fun cy1 => ?_)
  · replace hF := zh_t cy1 hF
    refine z_iload_n d_M_longestAway_57 3 rfl rfl ?_
    refine z_sub [1, 2, 3, 0, 4] (L' := [(0, .ref (ad q)), (1, .int x1), (2, .int x2), (3, .int s0), (4, .int x4)]) rfl ?_
    exact z_M_longestAway_58 hm hr21 hF
  · replace hF := zh_f cy1 hF
    refine z_iload_n d_M_longestAway_53 0 rfl rfl ?_
    refine z_goto d_M_longestAway_54 (tgt := 58) (by decide) ?_
    refine z_sub [1, 2, 3, 0, 4] (L' := [(0, .ref (ad q)), (1, .int x1), (2, .int x2), (3, .int s0), (4, .int x4)]) rfl ?_
    exact z_M_longestAway_58 hm hr21 hF
def f_M_longestAway_21 (q : Nat)  : Nat → Int32 → Int32 → Int32 → Int32 → zI → zJ → Option (Int32 × zI × zJ)
  | 0, _, _, _, _, _, _ => none
  | n + 1, x1, x2, x3, x4, μ, ν => (if (μ q 28) ≤ x4 then some (x2, μ, ν) else Option.bind (E_M_wasNear q x4 x1 μ ν) fun ty2 => (if ty2.1 = 0 then e_M_longestAway_47 q (f_M_longestAway_21 q n) x1 x2 x3 x4 (x3 + 1) ty2.2.1 ty2.2.2 else e_M_longestAway_47 q (f_M_longestAway_21 q n) x1 x2 x3 x4 0 ty2.2.1 ty2.2.2))
theorem z_M_longestAway_21 {l : Launch} {D : va_G} {dA : Nat → ClassId} {ad : Nat → Nat} {sh : List zSE}  {q : Nat} (hm : zMo sh q)  {out : (Int32 × zI × zJ)} : ∀ (n : Nat) (x1 : Int32) (x2 : Int32) (x3 : Int32) (x4 : Int32) (μ : zI) (ν : zJ), f_M_longestAway_21 q  n x1 x2 x3 x4 μ ν = some out → Z l D dA ad sh m_M_longestAway (zR 1 0 0) (zS ad) (zOi out) 0 0 0 0 [] 21 [(0, .ref (ad q)), (1, .int x1), (2, .int x2), (3, .int x3), (4, .int x4)] [] μ ν := by
  intro n
  induction n with
  | zero => intro x1 x2 x3 x4 μ ν hF; cases hF
  | succ n ih =>
    intro x1 x2 x3 x4 μ ν hF
    dsimp only [f_M_longestAway_21] at hF
    refine z_iload d_M_longestAway_21 4 rfl ?_
    refine z_aload_n d_M_longestAway_23 0 rfl rfl ?_
    refine z_get d_M_longestAway_24 f_M_175 (hm 0 _ rfl) rfl ?_
    refine z_icmp_ge d_M_longestAway_27 (tgt := 65) (by decide) (fun cy1 => ?_) (fun cy1 => ?_)
    · replace hF := zh_t cy1 hF
      refine z_iload_n d_M_longestAway_65 2 rfl rfl ?_
      cases hF
      exact z_ireturn d_M_longestAway_66 rfl rfl ⟨rfl, rfl, rfl⟩
    · replace hF := zh_f cy1 hF
      refine z_aload_n d_M_longestAway_30 0 rfl rfl ?_
      refine z_iload d_M_longestAway_31 4 rfl ?_
      refine z_iload_n d_M_longestAway_33 1 rfl rfl ?_
      obtain ⟨ty2, hty2, hF⟩ := zh_bind hF
      refine z_callV d_M_longestAway_34 (c_M_wasNear hm hty2) mv_M_wasNear l_M_290 (fun _ _ h => h) (hm 0 _ rfl) rfl rfl ⟨Nat.le_of_ble_eq_true rfl, Nat.le_of_ble_eq_true rfl⟩ ⟨Nat.le_of_ble_eq_true rfl, Nat.le_of_ble_eq_true rfl⟩ rfl (Nat.le_of_ble_eq_true rfl) (fun r μ' ν' hq => ?_)
      obtain ⟨rfl, rfl, rfl⟩ := hq
      show Z _ _ _ _ _ _ _ _ _ _ _ 0 0 _ _ _ [.int ty2.1] _ _
      refine z_if_eq d_M_longestAway_37 (tgt := 44) (by decide) (fun cy3 => ?_) (fun cy3 => ?_)
      · replace hF := zh_t cy3 hF
        refine z_iload_n d_M_longestAway_44 3 rfl rfl ?_
        refine z_iconst d_M_longestAway_45 (v := 1) (by decide) ?_
        refine z_iadd d_M_longestAway_46 ?_
        exact z_M_longestAway_47 hm (fun a0 a1 a2 a3 a4 a5 => ih a0 a1 a2 a3 a4 a5) hF
      · replace hF := zh_f cy3 hF
        refine z_iconst d_M_longestAway_40 (v := 0) (by decide) ?_
        refine z_goto d_M_longestAway_41 (tgt := 47) (by decide) ?_
        exact z_M_longestAway_47 hm (fun a0 a1 a2 a3 a4 a5 => ih a0 a1 a2 a3 a4 a5) hF
def e_M_longestAway_0 (q : Nat)  (x1 : Int32) (μ : zI) (ν : zJ) : Option (Int32 × zI × zJ) := zlet (zu μ q 0 0) fun μy1 => Option.bind (E_M_isPart x1 μy1 ν) fun ty2 => (if ty2.1 = 0 then some ((-1), ty2.2.1, ty2.2.2) else f_M_longestAway_21 q zFuel x1 0 0 0 ty2.2.1 ty2.2.2)
theorem z_M_longestAway_0 {l : Launch} {D : va_G} {dA : Nat → ClassId} {ad : Nat → Nat} {sh : List zSE}  {q : Nat} (hm : zMo sh q)  {x1 : Int32} {μ : zI} {ν : zJ} {out : (Int32 × zI × zJ)} (hF : e_M_longestAway_0 q  x1 μ ν = some out) : Z l D dA ad sh m_M_longestAway (zR 1 0 0) (zS ad) (zOi out) 0 0 0 0 [] 0 [(0, .ref (ad q)), (1, .int x1)] [] μ ν := by
  unfold e_M_longestAway_0 at hF
  refine z_aload_n d_M_longestAway_0 0 rfl rfl ?_
  refine z_iconst d_M_longestAway_1 (v := 0) (by decide) ?_
  refine z_put d_M_longestAway_2 f_M_55 (hm 0 _ rfl) rfl (CL_fin _ _ (fun q hq => by cases hq; rfl)) rfl rfl ?_
  obtain ⟨μy1, hy1, hF⟩ := zh_let hF
  refine z_eqm hy1 ?_
  refine z_iload_n d_M_longestAway_5 1 rfl rfl ?_
  obtain ⟨ty2, hty2, hF⟩ := zh_bind hF
  refine z_callS d_M_longestAway_6 (c_M_isPart  hty2) ms_M_isPart l_M_287 (fun _ _ h => h) rfl ⟨Nat.le_of_ble_eq_true rfl, Nat.le_of_ble_eq_true rfl⟩ ⟨Nat.le_of_ble_eq_true rfl, Nat.le_of_ble_eq_true rfl⟩ rfl (Nat.le_of_ble_eq_true rfl) (fun r μ' ν' hq => ?_)
  obtain ⟨rfl, rfl, rfl⟩ := hq
  show Z _ _ _ _ _ _ _ _ _ _ _ 0 0 _ _ _ [.int ty2.1] _ _
  refine z_if_ne d_M_longestAway_9 (tgt := 14) (by decide) (fun cy3 => ?_) (fun cy3 => ?_)
  · replace hF := zh_f cy3 hF
    refine z_iconst d_M_longestAway_14 (v := 0) (by decide) ?_
    refine z_istore_n d_M_longestAway_15 rfl (by decide) (L2 := [(2, .int 0), (0, .ref (ad q)), (1, .int x1)]) rfl ?_
    refine z_iconst d_M_longestAway_16 (v := 0) (by decide) ?_
    refine z_istore_n d_M_longestAway_17 rfl (by decide) (L2 := [(3, .int 0), (2, .int 0), (0, .ref (ad q)), (1, .int x1)]) rfl ?_
    refine z_iconst d_M_longestAway_18 (v := 0) (by decide) ?_
    refine z_istore d_M_longestAway_19 (by decide) (L2 := [(4, .int 0), (3, .int 0), (2, .int 0), (0, .ref (ad q)), (1, .int x1)]) rfl ?_
    refine z_sub [3, 4, 2, 1, 0] (L' := [(0, .ref (ad q)), (1, .int x1), (2, .int 0), (3, .int 0), (4, .int 0)]) rfl ?_
    exact z_M_longestAway_21 hm  zFuel _ _ _ _ _ _ hF
  · replace hF := zh_t cy3 hF
    refine z_iconst d_M_longestAway_12 (v := (-1)) (by decide) ?_
    cases hF
    exact z_ireturn d_M_longestAway_13 rfl rfl ⟨rfl, rfl, rfl⟩
def E_M_longestAway (q : Nat) (x1 : Int32) (μ : zI) (ν : zJ) : Option (Int32 × zI × zJ) := e_M_longestAway_0 q x1 μ ν
theorem c_M_longestAway {l : Launch} {D : va_G} {dA : Nat → ClassId} {ad : Nat → Nat} {sh : List zSE} {μ : zI} {ν : zJ} {q : Nat} {x1 : Int32} (hm : zMo sh q) {out : (Int32 × zI × zJ)} (hE : E_M_longestAway q x1 μ ν = some out) : zC l D dA ad sh m_M_longestAway 1 0 0 [.ref (ad q), .int x1] μ ν (zOi out) :=
  zC.of (by decide) (Nat.le_of_ble_eq_true rfl) (z_M_longestAway_0 hm hE)
def e_M_ripple_16 (q : Nat)  (x1 : Int32) (μ : zI) (ν : zJ) : Option (Int32 × zI × zJ) := some ((-1), μ, ν)
theorem z_M_ripple_16 {l : Launch} {D : va_G} {dA : Nat → ClassId} {ad : Nat → Nat} {sh : List zSE}  {q : Nat} (hm : zMo sh q)  {x1 : Int32} {μ : zI} {ν : zJ} {out : (Int32 × zI × zJ)} (hF : e_M_ripple_16 q  x1 μ ν = some out) : Z l D dA ad sh m_M_ripple (zR 0 0 0) (zS ad) (zOi out) 0 0 0 0 [] 16 [(0, .ref (ad q)), (1, .int x1)] [] μ ν := by
  unfold e_M_ripple_16 at hF
  refine z_iconst d_M_ripple_16 (v := (-1)) (by decide) ?_
  cases hF
  exact z_ireturn d_M_ripple_17 rfl rfl ⟨rfl, rfl, rfl⟩
def e_M_ripple_117 (q : Nat) (r45 : Int32 → Int32 → Int32 → Int32 → zI → zJ → Option (Int32 × zI × zJ)) (x1 : Int32) (x2 : Int32) (x3 : Int32) (x4 : Int32) (s0 : Int32) (μ : zI) (ν : zJ) : Option (Int32 × zI × zJ) := r45 x1 x2 s0 (x4 + 1) μ ν
theorem z_M_ripple_117 {l : Launch} {D : va_G} {dA : Nat → ClassId} {ad : Nat → Nat} {sh : List zSE}  {q : Nat} (hm : zMo sh q) {r45 : Int32 → Int32 → Int32 → Int32 → zI → zJ → Option (Int32 × zI × zJ)} {x1 : Int32} {x2 : Int32} {x3 : Int32} {x4 : Int32} {s0 : Int32} {μ : zI} {ν : zJ} {out : (Int32 × zI × zJ)} (hr45 : ∀ (x1 : Int32) (x2 : Int32) (x3 : Int32) (x4 : Int32) (μ : zI) (ν : zJ), r45 x1 x2 x3 x4 μ ν = some out → Z l D dA ad sh m_M_ripple (zR 0 0 0) (zS ad) (zOi out) 0 0 0 0 [] 45 [(0, .ref (ad q)), (1, .int x1), (2, .int x2), (3, .int x3), (4, .int x4)] [] μ ν) (hF : e_M_ripple_117 q r45 x1 x2 x3 x4 s0 μ ν = some out) : Z l D dA ad sh m_M_ripple (zR 0 0 0) (zS ad) (zOi out) 0 0 0 0 [] 117 [(0, .ref (ad q)), (1, .int x1), (2, .int x2), (3, .int x3), (4, .int x4)] [.int s0] μ ν := by
  unfold e_M_ripple_117 at hF
  refine z_istore_n d_M_ripple_117 rfl (by decide) (L2 := [(3, .int s0), (0, .ref (ad q)), (1, .int x1), (2, .int x2), (4, .int x4)]) rfl ?_
  refine z_iinc d_M_ripple_118 (k := 4) (v := (x4 + 1)) rfl rfl (by decide) (L2 := [(4, .int (x4 + 1)), (3, .int s0), (0, .ref (ad q)), (1, .int x1), (2, .int x2)]) rfl ?_
  refine z_goto d_M_ripple_121 (tgt := 45) (by decide) ?_
  refine z_sub [2, 3, 4, 1, 0] (L' := [(0, .ref (ad q)), (1, .int x1), (2, .int x2), (3, .int s0), (4, .int (x4 + 1))]) rfl ?_
  exact hr45 _ _ _ _ _ _ hF
def e_M_ripple_88 (q : Nat) (r45 : Int32 → Int32 → Int32 → Int32 → zI → zJ → Option (Int32 × zI × zJ)) (x1 : Int32) (x2 : Int32) (x3 : Int32) (x4 : Int32) (s0 : Int32) (μ : zI) (ν : zJ) : Option (Int32 × zI × zJ) := (if zin (10 * x4) 1000 = true then (if (μ (q + 11) (Int32.toNatClampNeg (10 * x4))) ≤ x3 then e_M_ripple_117 q r45 x1 s0 x3 x4 x3 μ ν else (if zin (10 * x4) 1000 = true then e_M_ripple_117 q r45 x1 s0 x3 x4 (μ (q + 11) (Int32.toNatClampNeg (10 * x4))) μ ν else none)) else none)
theorem z_M_ripple_88 {l : Launch} {D : va_G} {dA : Nat → ClassId} {ad : Nat → Nat} {sh : List zSE}  {q : Nat} (hm : zMo sh q) {r45 : Int32 → Int32 → Int32 → Int32 → zI → zJ → Option (Int32 × zI × zJ)} {x1 : Int32} {x2 : Int32} {x3 : Int32} {x4 : Int32} {s0 : Int32} {μ : zI} {ν : zJ} {out : (Int32 × zI × zJ)} (hr45 : ∀ (x1 : Int32) (x2 : Int32) (x3 : Int32) (x4 : Int32) (μ : zI) (ν : zJ), r45 x1 x2 x3 x4 μ ν = some out → Z l D dA ad sh m_M_ripple (zR 0 0 0) (zS ad) (zOi out) 0 0 0 0 [] 45 [(0, .ref (ad q)), (1, .int x1), (2, .int x2), (3, .int x3), (4, .int x4)] [] μ ν) (hF : e_M_ripple_88 q r45 x1 x2 x3 x4 s0 μ ν = some out) : Z l D dA ad sh m_M_ripple (zR 0 0 0) (zS ad) (zOi out) 0 0 0 0 [] 88 [(0, .ref (ad q)), (1, .int x1), (2, .int x2), (3, .int x3), (4, .int x4)] [.int s0] μ ν := by
  unfold e_M_ripple_88 at hF
  refine z_istore_n d_M_ripple_88 rfl (by decide) (L2 := [(2, .int s0), (0, .ref (ad q)), (1, .int x1), (3, .int x3), (4, .int x4)]) rfl ?_
  refine z_aload_n d_M_ripple_89 1 rfl rfl ?_
  refine z_getr d_M_ripple_90 (q := (q + 11)) f_M_46 (hm 0 _ rfl) rfl ?_
  refine z_bipush d_M_ripple_93 (v := 10) (by decide) ?_
  refine z_iload d_M_ripple_95 4 rfl ?_
  refine z_imul d_M_ripple_97 ?_
  obtain ⟨hy1, hF⟩ := zh_if hF
  refine z_iald d_M_ripple_98 (hm 11 _ rfl) (zin_vp hy1) ?_
  refine z_iload_n d_M_ripple_99 3 rfl rfl ?_
  refine z_icmp_le d_M_ripple_100 (tgt := 116) (by decide) (fun cy2 => ?_) (fun cy2 => ?_)
  · replace hF := zh_t cy2 hF
    refine z_iload_n d_M_ripple_116 3 rfl rfl ?_
    refine z_sub [1, 2, 0, 3, 4] (L' := [(0, .ref (ad q)), (1, .int x1), (2, .int s0), (3, .int x3), (4, .int x4)]) rfl ?_
    exact z_M_ripple_117 hm hr45 hF
  · replace hF := zh_f cy2 hF
    refine z_aload_n d_M_ripple_103 1 rfl rfl ?_
    refine z_getr d_M_ripple_104 (q := (q + 11)) f_M_46 (hm 0 _ rfl) rfl ?_
    refine z_bipush d_M_ripple_107 (v := 10) (by decide) ?_
    refine z_iload d_M_ripple_109 4 rfl ?_
    refine z_imul d_M_ripple_111 ?_
    obtain ⟨hy3, hF⟩ := zh_if hF
    refine z_iald d_M_ripple_112 (hm 11 _ rfl) (zin_vp hy3) ?_
    refine z_goto d_M_ripple_113 (tgt := 117) (by decide) ?_
    refine z_sub [1, 2, 0, 3, 4] (L' := [(0, .ref (ad q)), (1, .int x1), (2, .int s0), (3, .int x3), (4, .int x4)]) rfl ?_
    exact z_M_ripple_117 hm hr45 hF
def e_M_ripple_124 (q : Nat)  (x1 : Int32) (x2 : Int32) (x3 : Int32) (x4 : Int32) (μ : zI) (ν : zJ) : Option (Int32 × zI × zJ) := some ((x3 - x2), μ, ν)
theorem z_M_ripple_124 {l : Launch} {D : va_G} {dA : Nat → ClassId} {ad : Nat → Nat} {sh : List zSE}  {q : Nat} (hm : zMo sh q)  {x1 : Int32} {x2 : Int32} {x3 : Int32} {x4 : Int32} {μ : zI} {ν : zJ} {out : (Int32 × zI × zJ)} (hF : e_M_ripple_124 q  x1 x2 x3 x4 μ ν = some out) : Z l D dA ad sh m_M_ripple (zR 0 0 0) (zS ad) (zOi out) 0 0 0 0 [] 124 [(0, .ref (ad q)), (1, .int x1), (2, .int x2), (3, .int x3), (4, .int x4)] [] μ ν := by
  unfold e_M_ripple_124 at hF
  refine z_iload_n d_M_ripple_124 3 rfl rfl ?_
  refine z_iload_n d_M_ripple_125 2 rfl rfl ?_
  refine z_isub d_M_ripple_126 ?_
  cases hF
  exact z_ireturn d_M_ripple_127 rfl rfl ⟨rfl, rfl, rfl⟩
def f_M_ripple_45 (q : Nat)  : Nat → Int32 → Int32 → Int32 → Int32 → zI → zJ → Option (Int32 × zI × zJ)
  | 0, _, _, _, _, _, _ => none
  | n + 1, x1, x2, x3, x4, μ, ν => (if x1 ≤ x4 then e_M_ripple_124 q x1 x2 x3 x4 μ ν else (if (μ q 28) ≤ x4 then e_M_ripple_124 q x1 x2 x3 x4 μ ν else (if zin (10 * x4) 1000 = true then (if x2 ≤ (μ (q + 11) (Int32.toNatClampNeg (10 * x4))) then e_M_ripple_88 q (f_M_ripple_45 q n) x1 x2 x3 x4 x2 μ ν else (if zin (10 * x4) 1000 = true then e_M_ripple_88 q (f_M_ripple_45 q n) x1 x2 x3 x4 (μ (q + 11) (Int32.toNatClampNeg (10 * x4))) μ ν else none)) else none)))
theorem z_M_ripple_45 {l : Launch} {D : va_G} {dA : Nat → ClassId} {ad : Nat → Nat} {sh : List zSE}  {q : Nat} (hm : zMo sh q)  {out : (Int32 × zI × zJ)} : ∀ (n : Nat) (x1 : Int32) (x2 : Int32) (x3 : Int32) (x4 : Int32) (μ : zI) (ν : zJ), f_M_ripple_45 q  n x1 x2 x3 x4 μ ν = some out → Z l D dA ad sh m_M_ripple (zR 0 0 0) (zS ad) (zOi out) 0 0 0 0 [] 45 [(0, .ref (ad q)), (1, .int x1), (2, .int x2), (3, .int x3), (4, .int x4)] [] μ ν := by
  intro n
  induction n with
  | zero => intro x1 x2 x3 x4 μ ν hF; cases hF
  | succ n ih =>
    intro x1 x2 x3 x4 μ ν hF
    dsimp only [f_M_ripple_45] at hF
    refine z_iload d_M_ripple_45 4 rfl ?_
    refine z_iload_n d_M_ripple_47 1 rfl rfl ?_
    refine z_icmp_ge d_M_ripple_48 (tgt := 124) (by decide) (fun cy1 => ?_) (fun cy1 => ?_)
    · replace hF := zh_t cy1 hF
      exact z_M_ripple_124 hm  hF
    · replace hF := zh_f cy1 hF
      refine z_iload d_M_ripple_51 4 rfl ?_
      refine z_aload_n d_M_ripple_53 0 rfl rfl ?_
      refine z_get d_M_ripple_54 f_M_175 (hm 0 _ rfl) rfl ?_
      refine z_icmp_ge d_M_ripple_57 (tgt := 124) (by decide) (fun cy2 => ?_) (fun cy2 => ?_)
      · replace hF := zh_t cy2 hF
        exact z_M_ripple_124 hm  hF
      · replace hF := zh_f cy2 hF
        refine z_aload_n d_M_ripple_60 0 rfl rfl ?_
        refine z_getr d_M_ripple_61 (q := (q + 11)) f_M_46 (hm 0 _ rfl) rfl ?_
        refine z_bipush d_M_ripple_64 (v := 10) (by decide) ?_
        refine z_iload d_M_ripple_66 4 rfl ?_
        refine z_imul d_M_ripple_68 ?_
        obtain ⟨hy3, hF⟩ := zh_if hF
        refine z_iald d_M_ripple_69 (hm 11 _ rfl) (zin_vp hy3) ?_
        refine z_iload_n d_M_ripple_70 2 rfl rfl ?_
        refine z_icmp_ge d_M_ripple_71 (tgt := 87) (by decide) (fun cy4 => ?_) (fun cy4 => ?_)
        · replace hF := zh_t cy4 hF
          refine z_iload_n d_M_ripple_87 2 rfl rfl ?_
          exact z_M_ripple_88 hm (fun a0 a1 a2 a3 a4 a5 => ih a0 a1 a2 a3 a4 a5) hF
        · replace hF := zh_f cy4 hF
          refine z_aload_n d_M_ripple_74 0 rfl rfl ?_
          refine z_getr d_M_ripple_75 (q := (q + 11)) f_M_46 (hm 0 _ rfl) rfl ?_
          refine z_bipush d_M_ripple_78 (v := 10) (by decide) ?_
          refine z_iload d_M_ripple_80 4 rfl ?_
          refine z_imul d_M_ripple_82 ?_
          obtain ⟨hy5, hF⟩ := zh_if hF
          refine z_iald d_M_ripple_83 (hm 11 _ rfl) (zin_vp hy5) ?_
          refine z_goto d_M_ripple_84 (tgt := 88) (by decide) ?_
          exact z_M_ripple_88 hm (fun a0 a1 a2 a3 a4 a5 => ih a0 a1 a2 a3 a4 a5) hF
def e_M_ripple_0 (q : Nat)  (x1 : Int32) (μ : zI) (ν : zJ) : Option (Int32 × zI × zJ) := zlet (zu μ q 0 0) fun μy1 => (if x1 < 1 then e_M_ripple_16 q x1 μy1 ν else (if x1 ≤ 100 then (if (μy1 q 28) = 0 then some ((-2), μy1, ν) else zlet (α := Int32) (μy1 (q + 11) 0) fun y5 => zlet (α := Int32) (μy1 (q + 11) 0) fun y6 => f_M_ripple_45 q zFuel x1 y5 y6 1 μy1 ν) else e_M_ripple_16 q x1 μy1 ν))
theorem z_M_ripple_0 {l : Launch} {D : va_G} {dA : Nat → ClassId} {ad : Nat → Nat} {sh : List zSE}  {q : Nat} (hm : zMo sh q)  {x1 : Int32} {μ : zI} {ν : zJ} {out : (Int32 × zI × zJ)} (hF : e_M_ripple_0 q  x1 μ ν = some out) : Z l D dA ad sh m_M_ripple (zR 0 0 0) (zS ad) (zOi out) 0 0 0 0 [] 0 [(0, .ref (ad q)), (1, .int x1)] [] μ ν := by
  unfold e_M_ripple_0 at hF
  refine z_aload_n d_M_ripple_0 0 rfl rfl ?_
  refine z_iconst d_M_ripple_1 (v := 0) (by decide) ?_
  refine z_put d_M_ripple_2 f_M_55 (hm 0 _ rfl) rfl (CL_fin _ _ (fun q hq => by cases hq; rfl)) rfl rfl ?_
  obtain ⟨μy1, hy1, hF⟩ := zh_let hF
  refine z_eqm hy1 ?_
  refine z_iload_n d_M_ripple_5 1 rfl rfl ?_
  refine z_iconst d_M_ripple_6 (v := 1) (by decide) ?_
  refine z_icmp_lt d_M_ripple_7 (tgt := 16) (by decide) (fun cy2 => ?_) (fun cy2 => ?_)
  · replace hF := zh_t cy2 hF
    exact z_M_ripple_16 hm  hF
  · replace hF := zh_f cy2 hF
    refine z_iload_n d_M_ripple_10 1 rfl rfl ?_
    refine z_bipush d_M_ripple_11 (v := 100) (by decide) ?_
    refine z_icmp_le d_M_ripple_13 (tgt := 18) (by decide) (fun cy3 => ?_) (fun cy3 => ?_)
    · replace hF := zh_t cy3 hF
      refine z_aload_n d_M_ripple_18 0 rfl rfl ?_
      refine z_get d_M_ripple_19 f_M_175 (hm 0 _ rfl) rfl ?_
      refine z_if_ne d_M_ripple_22 (tgt := 28) (by decide) (fun cy4 => ?_) (fun cy4 => ?_)
      · replace hF := zh_f cy4 hF
        refine z_aload_n d_M_ripple_28 0 rfl rfl ?_
        refine z_getr d_M_ripple_29 (q := (q + 11)) f_M_46 (hm 0 _ rfl) rfl ?_
        refine z_iconst d_M_ripple_32 (v := 0) (by decide) ?_
        refine z_iald d_M_ripple_33 (hm 11 _ rfl) (zin_vp rfl) ?_
        show Z _ _ _ _ _ _ _ _ _ _ _ _ _ _ _ _ [.int (μy1 (q + 11) 0)] _ _
        obtain ⟨y5, hy5, hF⟩ := zh_let hF
        refine z_eqi hy5 ?_
        refine z_istore_n d_M_ripple_34 rfl (by decide) (L2 := [(2, .int y5), (0, .ref (ad q)), (1, .int x1)]) rfl ?_
        refine z_aload_n d_M_ripple_35 1 rfl rfl ?_
        refine z_getr d_M_ripple_36 (q := (q + 11)) f_M_46 (hm 0 _ rfl) rfl ?_
        refine z_iconst d_M_ripple_39 (v := 0) (by decide) ?_
        refine z_iald d_M_ripple_40 (hm 11 _ rfl) (zin_vp rfl) ?_
        show Z _ _ _ _ _ _ _ _ _ _ _ _ _ _ _ _ [.int (μy1 (q + 11) 0)] _ _
        obtain ⟨y6, hy6, hF⟩ := zh_let hF
        refine z_eqi hy6 ?_
        refine z_istore_n d_M_ripple_41 rfl (by decide) (L2 := [(3, .int y6), (2, .int y5), (0, .ref (ad q)), (1, .int x1)]) rfl ?_
        refine z_iconst d_M_ripple_42 (v := 1) (by decide) ?_
        refine z_istore d_M_ripple_43 (by decide) (L2 := [(4, .int 1), (3, .int y6), (2, .int y5), (0, .ref (ad q)), (1, .int x1)]) rfl ?_
        refine z_sub [3, 4, 2, 1, 0] (L' := [(0, .ref (ad q)), (1, .int x1), (2, .int y5), (3, .int y6), (4, .int 1)]) rfl ?_
        exact z_M_ripple_45 hm  zFuel _ _ _ _ _ _ hF
      · replace hF := zh_t cy4 hF
        refine z_bipush d_M_ripple_25 (v := (-2)) (by decide) ?_
        cases hF
        exact z_ireturn d_M_ripple_27 rfl rfl ⟨rfl, rfl, rfl⟩
    · replace hF := zh_f cy3 hF
      exact z_M_ripple_16 hm  hF
def E_M_ripple (q : Nat) (x1 : Int32) (μ : zI) (ν : zJ) : Option (Int32 × zI × zJ) := e_M_ripple_0 q x1 μ ν
theorem c_M_ripple {l : Launch} {D : va_G} {dA : Nat → ClassId} {ad : Nat → Nat} {sh : List zSE} {μ : zI} {ν : zJ} {q : Nat} {x1 : Int32} (hm : zMo sh q) {out : (Int32 × zI × zJ)} (hE : E_M_ripple q x1 μ ν = some out) : zC l D dA ad sh m_M_ripple 0 0 0 [.ref (ad q), .int x1] μ ν (zOi out) :=
  zC.of (by decide) (Nat.le_of_ble_eq_true rfl) (z_M_ripple_0 hm hE)
def e_M_average_16 (q : Nat)  (x1 : Int32) (μ : zI) (ν : zJ) : Option (Int32 × zI × zJ) := some ((-1), μ, ν)
theorem z_M_average_16 {l : Launch} {D : va_G} {dA : Nat → ClassId} {ad : Nat → Nat} {sh : List zSE}  {q : Nat} (hm : zMo sh q)  {x1 : Int32} {μ : zI} {ν : zJ} {out : (Int32 × zI × zJ)} (hF : e_M_average_16 q  x1 μ ν = some out) : Z l D dA ad sh m_M_average (zR 0 0 0) (zS ad) (zOi out) 0 0 0 0 [] 16 [(0, .ref (ad q)), (1, .int x1)] [] μ ν := by
  unfold e_M_average_16 at hF
  refine z_iconst d_M_average_16 (v := (-1)) (by decide) ?_
  cases hF
  exact z_ireturn d_M_average_17 rfl rfl ⟨rfl, rfl, rfl⟩
def f_M_average_50 (q : Nat)  : Nat → Int32 → Int32 → Int64 → Int32 → zI → zJ → Option (Int32 × zI × zJ)
  | 0, _, _, _, _, _, _ => none
  | n + 1, x1, x2, w3, x5, μ, ν => (if x2 ≤ x5 then (if (Int32.toInt64 x2) = 0 then none else some ((Int64.toInt32 (w3 / (Int32.toInt64 x2))), μ, ν)) else (if zin ((10 * x5) + 1) 1000 = true then zlet (α := Int64) (w3 + (Int32.toInt64 (μ (q + 11) (Int32.toNatClampNeg ((10 * x5) + 1))))) fun y4 => (f_M_average_50 q n) x1 x2 y4 (x5 + 1) μ ν else none))
theorem z_M_average_50 {l : Launch} {D : va_G} {dA : Nat → ClassId} {ad : Nat → Nat} {sh : List zSE}  {q : Nat} (hm : zMo sh q)  {out : (Int32 × zI × zJ)} : ∀ (n : Nat) (x1 : Int32) (x2 : Int32) (w3 : Int64) (x5 : Int32) (μ : zI) (ν : zJ), f_M_average_50 q  n x1 x2 w3 x5 μ ν = some out → Z l D dA ad sh m_M_average (zR 0 0 0) (zS ad) (zOi out) 0 0 0 0 [] 50 [(0, .ref (ad q)), (1, .int x1), (2, .int x2), (3, .long w3), (5, .int x5)] [] μ ν := by
  intro n
  induction n with
  | zero => intro x1 x2 w3 x5 μ ν hF; cases hF
  | succ n ih =>
    intro x1 x2 w3 x5 μ ν hF
    dsimp only [f_M_average_50] at hF
    refine z_iload d_M_average_50 4 rfl ?_
    refine z_iload_n d_M_average_52 2 rfl rfl ?_
    refine z_icmp_ge d_M_average_53 (tgt := 78) (by decide) (fun cy1 => ?_) (fun cy1 => ?_)
    · replace hF := zh_t cy1 hF
      refine z_lload_n d_M_average_78 3 rfl rfl ?_
      refine z_iload_n d_M_average_79 2 rfl rfl ?_
      refine z_i2l d_M_average_80 ?_
      obtain ⟨hy2, hF⟩ := zh_nel hF
      refine z_ldiv d_M_average_81 hy2 ?_
      refine z_l2i d_M_average_82 ?_
      cases hF
      exact z_ireturn d_M_average_83 rfl rfl ⟨rfl, rfl, rfl⟩
    · replace hF := zh_f cy1 hF
      refine z_lload_n d_M_average_56 3 rfl rfl ?_
      refine z_aload_n d_M_average_57 0 rfl rfl ?_
      refine z_getr d_M_average_58 (q := (q + 11)) f_M_46 (hm 0 _ rfl) rfl ?_
      refine z_bipush d_M_average_61 (v := 10) (by decide) ?_
      refine z_iload d_M_average_63 4 rfl ?_
      refine z_imul d_M_average_65 ?_
      refine z_iconst d_M_average_66 (v := 1) (by decide) ?_
      refine z_iadd d_M_average_67 ?_
      obtain ⟨hy3, hF⟩ := zh_if hF
      refine z_iald d_M_average_68 (hm 11 _ rfl) (zin_vp hy3) ?_
      refine z_i2l d_M_average_69 ?_
      refine z_ladd d_M_average_70 ?_
      obtain ⟨y4, hy4, hF⟩ := zh_let hF
      refine z_eql hy4 ?_
      refine z_lstore_n d_M_average_71 rfl (by decide) (L2 := [(3, .long y4), (0, .ref (ad q)), (1, .int x1), (2, .int x2), (5, .int x5)]) rfl ?_
      refine z_iinc d_M_average_72 (k := 4) (v := (x5 + 1)) rfl rfl (by decide) (L2 := [(5, .int (x5 + 1)), (3, .long y4), (0, .ref (ad q)), (1, .int x1), (2, .int x2)]) rfl ?_
      refine z_goto d_M_average_75 (tgt := 50) (by decide) ?_
      refine z_sub [2, 3, 4, 1, 0] (L' := [(0, .ref (ad q)), (1, .int x1), (2, .int x2), (3, .long y4), (5, .int (x5 + 1))]) rfl ?_
      exact ih _ _ _ _ _ _ hF
def e_M_average_44 (q : Nat)  (x1 : Int32) (s0 : Int32) (μ : zI) (ν : zJ) : Option (Int32 × zI × zJ) := f_M_average_50 q zFuel x1 s0 0 0 μ ν
theorem z_M_average_44 {l : Launch} {D : va_G} {dA : Nat → ClassId} {ad : Nat → Nat} {sh : List zSE}  {q : Nat} (hm : zMo sh q)  {x1 : Int32} {s0 : Int32} {μ : zI} {ν : zJ} {out : (Int32 × zI × zJ)} (hF : e_M_average_44 q  x1 s0 μ ν = some out) : Z l D dA ad sh m_M_average (zR 0 0 0) (zS ad) (zOi out) 0 0 0 0 [] 44 [(0, .ref (ad q)), (1, .int x1)] [.int s0] μ ν := by
  unfold e_M_average_44 at hF
  refine z_istore_n d_M_average_44 rfl (by decide) (L2 := [(2, .int s0), (0, .ref (ad q)), (1, .int x1)]) rfl ?_
  refine z_lconst d_M_average_45 (v := 0) (by decide) ?_
  refine z_lstore_n d_M_average_46 rfl (by decide) (L2 := [(3, .long 0), (2, .int s0), (0, .ref (ad q)), (1, .int x1)]) rfl ?_
  refine z_iconst d_M_average_47 (v := 0) (by decide) ?_
  refine z_istore d_M_average_48 (by decide) (L2 := [(5, .int 0), (3, .long 0), (2, .int s0), (0, .ref (ad q)), (1, .int x1)]) rfl ?_
  refine z_sub [3, 4, 2, 1, 0] (L' := [(0, .ref (ad q)), (1, .int x1), (2, .int s0), (3, .long 0), (5, .int 0)]) rfl ?_
  exact z_M_average_50 hm  zFuel _ _ _ _ _ _ hF
def e_M_average_0 (q : Nat)  (x1 : Int32) (μ : zI) (ν : zJ) : Option (Int32 × zI × zJ) := zlet (zu μ q 0 0) fun μy1 => (if x1 < 1 then e_M_average_16 q x1 μy1 ν else (if x1 ≤ 100 then (if (μy1 q 28) = 0 then some ((-2), μy1, ν) else (if (μy1 q 28) ≤ x1 then e_M_average_44 q x1 (μy1 q 28) μy1 ν else e_M_average_44 q x1 x1 μy1 ν)) else e_M_average_16 q x1 μy1 ν))
theorem z_M_average_0 {l : Launch} {D : va_G} {dA : Nat → ClassId} {ad : Nat → Nat} {sh : List zSE}  {q : Nat} (hm : zMo sh q)  {x1 : Int32} {μ : zI} {ν : zJ} {out : (Int32 × zI × zJ)} (hF : e_M_average_0 q  x1 μ ν = some out) : Z l D dA ad sh m_M_average (zR 0 0 0) (zS ad) (zOi out) 0 0 0 0 [] 0 [(0, .ref (ad q)), (1, .int x1)] [] μ ν := by
  unfold e_M_average_0 at hF
  refine z_aload_n d_M_average_0 0 rfl rfl ?_
  refine z_iconst d_M_average_1 (v := 0) (by decide) ?_
  refine z_put d_M_average_2 f_M_55 (hm 0 _ rfl) rfl (CL_fin _ _ (fun q hq => by cases hq; rfl)) rfl rfl ?_
  obtain ⟨μy1, hy1, hF⟩ := zh_let hF
  refine z_eqm hy1 ?_
  refine z_iload_n d_M_average_5 1 rfl rfl ?_
  refine z_iconst d_M_average_6 (v := 1) (by decide) ?_
  refine z_icmp_lt d_M_average_7 (tgt := 16) (by decide) (fun cy2 => ?_) (fun cy2 => ?_)
  · replace hF := zh_t cy2 hF
    exact z_M_average_16 hm  hF
  · replace hF := zh_f cy2 hF
    refine z_iload_n d_M_average_10 1 rfl rfl ?_
    refine z_bipush d_M_average_11 (v := 100) (by decide) ?_
    refine z_icmp_le d_M_average_13 (tgt := 18) (by decide) (fun cy3 => ?_) (fun cy3 => ?_)
    · replace hF := zh_t cy3 hF
      refine z_aload_n d_M_average_18 0 rfl rfl ?_
      refine z_get d_M_average_19 f_M_175 (hm 0 _ rfl) rfl ?_
      refine z_if_ne d_M_average_22 (tgt := 28) (by decide) (fun cy4 => ?_) (fun cy4 => ?_)
      · replace hF := zh_f cy4 hF
        refine z_iload_n d_M_average_28 1 rfl rfl ?_
        refine z_aload_n d_M_average_29 0 rfl rfl ?_
        refine z_get d_M_average_30 f_M_175 (hm 0 _ rfl) rfl ?_
        refine z_icmp_ge d_M_average_33 (tgt := 40) (by decide) (fun cy5 => ?_) (fun cy5 => ?_)
        · replace hF := zh_t cy5 hF
          refine z_aload_n d_M_average_40 0 rfl rfl ?_
          refine z_get d_M_average_41 f_M_175 (hm 0 _ rfl) rfl ?_
          exact z_M_average_44 hm  hF
        · replace hF := zh_f cy5 hF
          refine z_iload_n d_M_average_36 1 rfl rfl ?_
          refine z_goto d_M_average_37 (tgt := 44) (by decide) ?_
          exact z_M_average_44 hm  hF
      · replace hF := zh_t cy4 hF
        refine z_bipush d_M_average_25 (v := (-2)) (by decide) ?_
        cases hF
        exact z_ireturn d_M_average_27 rfl rfl ⟨rfl, rfl, rfl⟩
    · replace hF := zh_f cy3 hF
      exact z_M_average_16 hm  hF
def E_M_average (q : Nat) (x1 : Int32) (μ : zI) (ν : zJ) : Option (Int32 × zI × zJ) := e_M_average_0 q x1 μ ν
theorem c_M_average {l : Launch} {D : va_G} {dA : Nat → ClassId} {ad : Nat → Nat} {sh : List zSE} {μ : zI} {ν : zJ} {q : Nat} {x1 : Int32} (hm : zMo sh q) {out : (Int32 × zI × zJ)} (hE : E_M_average q x1 μ ν = some out) : zC l D dA ad sh m_M_average 0 0 0 [.ref (ad q), .int x1] μ ν (zOi out) :=
  zC.of (by decide) (Nat.le_of_ble_eq_true rfl) (z_M_average_0 hm hE)
def e_M_worst_14 (q : Nat)  (x1 : Int32) (μ : zI) (ν : zJ) : Option (Int32 × zI × zJ) := some ((-1), μ, ν)
theorem z_M_worst_14 {l : Launch} {D : va_G} {dA : Nat → ClassId} {ad : Nat → Nat} {sh : List zSE}  {q : Nat} (hm : zMo sh q)  {x1 : Int32} {μ : zI} {ν : zJ} {out : (Int32 × zI × zJ)} (hF : e_M_worst_14 q  x1 μ ν = some out) : Z l D dA ad sh m_M_worst (zR 0 0 0) (zS ad) (zOi out) 0 0 0 0 [] 14 [(0, .ref (ad q)), (1, .int x1)] [] μ ν := by
  unfold e_M_worst_14 at hF
  refine z_iconst d_M_worst_14 (v := (-1)) (by decide) ?_
  cases hF
  exact z_ireturn d_M_worst_15 rfl rfl ⟨rfl, rfl, rfl⟩
def e_M_worst_75 (q : Nat) (r24 : Int32 → Int32 → Int32 → Int32 → zI → zJ → Option (Int32 × zI × zJ)) (x1 : Int32) (x2 : Int32) (x3 : Int32) (x4 : Int32) (x5 : Int32) (μ : zI) (ν : zJ) : Option (Int32 × zI × zJ) := r24 x1 x2 x3 (x4 + 1) μ ν
theorem z_M_worst_75 {l : Launch} {D : va_G} {dA : Nat → ClassId} {ad : Nat → Nat} {sh : List zSE}  {q : Nat} (hm : zMo sh q) {r24 : Int32 → Int32 → Int32 → Int32 → zI → zJ → Option (Int32 × zI × zJ)} {x1 : Int32} {x2 : Int32} {x3 : Int32} {x4 : Int32} {x5 : Int32} {μ : zI} {ν : zJ} {out : (Int32 × zI × zJ)} (hr24 : ∀ (x1 : Int32) (x2 : Int32) (x3 : Int32) (x4 : Int32) (μ : zI) (ν : zJ), r24 x1 x2 x3 x4 μ ν = some out → Z l D dA ad sh m_M_worst (zR 0 0 0) (zS ad) (zOi out) 0 0 0 0 [] 24 [(0, .ref (ad q)), (1, .int x1), (2, .int x2), (3, .int x3), (4, .int x4)] [] μ ν) (hF : e_M_worst_75 q r24 x1 x2 x3 x4 x5 μ ν = some out) : Z l D dA ad sh m_M_worst (zR 0 0 0) (zS ad) (zOi out) 0 0 0 0 [] 75 [(0, .ref (ad q)), (1, .int x1), (2, .int x2), (3, .int x3), (4, .int x4), (5, .int x5)] [] μ ν := by
  unfold e_M_worst_75 at hF
  refine z_iinc d_M_worst_75 (k := 4) (v := (x4 + 1)) rfl rfl (by decide) (L2 := [(4, .int (x4 + 1)), (0, .ref (ad q)), (1, .int x1), (2, .int x2), (3, .int x3), (5, .int x5)]) rfl ?_
  refine z_goto d_M_worst_78 (tgt := 24) (by decide) ?_
  refine z_sub [1, 2, 3, 4, 0] (L' := [(0, .ref (ad q)), (1, .int x1), (2, .int x2), (3, .int x3), (4, .int (x4 + 1))]) rfl ?_
  exact hr24 _ _ _ _ _ _ hF
def e_M_worst_96 (q : Nat)  (x1 : Int32) (x2 : Int32) (x3 : Int32) (x4 : Int32) (s0 : Int32) (μ : zI) (ν : zJ) : Option (Int32 × zI × zJ) := some (s0, μ, ν)
theorem z_M_worst_96 {l : Launch} {D : va_G} {dA : Nat → ClassId} {ad : Nat → Nat} {sh : List zSE}  {q : Nat} (hm : zMo sh q)  {x1 : Int32} {x2 : Int32} {x3 : Int32} {x4 : Int32} {s0 : Int32} {μ : zI} {ν : zJ} {out : (Int32 × zI × zJ)} (hF : e_M_worst_96 q  x1 x2 x3 x4 s0 μ ν = some out) : Z l D dA ad sh m_M_worst (zR 0 0 0) (zS ad) (zOi out) 0 0 0 0 [] 96 [(0, .ref (ad q)), (1, .int x1), (2, .int x2), (3, .int x3), (4, .int x4)] [.int s0] μ ν := by
  unfold e_M_worst_96 at hF
  cases hF
  exact z_ireturn d_M_worst_96 rfl rfl ⟨rfl, rfl, rfl⟩
def e_M_worst_91 (q : Nat)  (x1 : Int32) (x2 : Int32) (x3 : Int32) (x4 : Int32) (μ : zI) (ν : zJ) : Option (Int32 × zI × zJ) := e_M_worst_96 q x1 x2 x3 x4 x2 μ ν
theorem z_M_worst_91 {l : Launch} {D : va_G} {dA : Nat → ClassId} {ad : Nat → Nat} {sh : List zSE}  {q : Nat} (hm : zMo sh q)  {x1 : Int32} {x2 : Int32} {x3 : Int32} {x4 : Int32} {μ : zI} {ν : zJ} {out : (Int32 × zI × zJ)} (hF : e_M_worst_91 q  x1 x2 x3 x4 μ ν = some out) : Z l D dA ad sh m_M_worst (zR 0 0 0) (zS ad) (zOi out) 0 0 0 0 [] 91 [(0, .ref (ad q)), (1, .int x1), (2, .int x2), (3, .int x3), (4, .int x4)] [] μ ν := by
  unfold e_M_worst_91 at hF
  refine z_iload_n d_M_worst_91 2 rfl rfl ?_
  refine z_goto d_M_worst_92 (tgt := 96) (by decide) ?_
  exact z_M_worst_96 hm  hF
def f_M_worst_24 (q : Nat)  : Nat → Int32 → Int32 → Int32 → Int32 → zI → zJ → Option (Int32 × zI × zJ)
  | 0, _, _, _, _, _, _ => none
  | n + 1, x1, x2, x3, x4, μ, ν => (if (μ q 28) ≤ x4 then (if x1 = 0 then e_M_worst_91 q x1 x2 x3 x4 μ ν else (if x2 = (-2) then e_M_worst_91 q x1 x2 x3 x4 μ ν else e_M_worst_96 q x1 x2 x3 x4 x3 μ ν)) else (if zin ((10 * x4) + 2) 1000 = true then (if zin ((10 * x4) + 1) 1000 = true then zlet (α := Int32) ((μ (q + 11) (Int32.toNatClampNeg ((10 * x4) + 2))) - (μ (q + 11) (Int32.toNatClampNeg ((10 * x4) + 1)))) fun y6 => (if x3 < y6 then e_M_worst_75 q (f_M_worst_24 q n) x1 x4 y6 x4 y6 μ ν else e_M_worst_75 q (f_M_worst_24 q n) x1 x2 x3 x4 y6 μ ν) else none) else none))
theorem z_M_worst_24 {l : Launch} {D : va_G} {dA : Nat → ClassId} {ad : Nat → Nat} {sh : List zSE}  {q : Nat} (hm : zMo sh q)  {out : (Int32 × zI × zJ)} : ∀ (n : Nat) (x1 : Int32) (x2 : Int32) (x3 : Int32) (x4 : Int32) (μ : zI) (ν : zJ), f_M_worst_24 q  n x1 x2 x3 x4 μ ν = some out → Z l D dA ad sh m_M_worst (zR 0 0 0) (zS ad) (zOi out) 0 0 0 0 [] 24 [(0, .ref (ad q)), (1, .int x1), (2, .int x2), (3, .int x3), (4, .int x4)] [] μ ν := by
  intro n
  induction n with
  | zero => intro x1 x2 x3 x4 μ ν hF; cases hF
  | succ n ih =>
    intro x1 x2 x3 x4 μ ν hF
    dsimp only [f_M_worst_24] at hF
    refine z_iload d_M_worst_24 4 rfl ?_
    refine z_aload_n d_M_worst_26 0 rfl rfl ?_
    refine z_get d_M_worst_27 f_M_175 (hm 0 _ rfl) rfl ?_
    refine z_icmp_ge d_M_worst_30 (tgt := 81) (by decide) (fun cy1 => ?_) (fun cy1 => ?_)
    · replace hF := zh_t cy1 hF
      refine z_iload_n d_M_worst_81 1 rfl rfl ?_
      refine z_if_eq d_M_worst_82 (tgt := 91) (by decide) (fun cy2 => ?_) (fun cy2 => ?_)
      · replace hF := zh_t cy2 hF
        exact z_M_worst_91 hm  hF
      · replace hF := zh_f cy2 hF
        refine z_iload_n d_M_worst_85 2 rfl rfl ?_
        refine z_bipush d_M_worst_86 (v := (-2)) (by decide) ?_
        refine z_icmp_ne d_M_worst_88 (tgt := 95) (by decide) (fun cy3 => ?_) (fun cy3 => ?_)
        · replace hF := zh_f cy3 hF
          refine z_iload_n d_M_worst_95 3 rfl rfl ?_
          exact z_M_worst_96 hm  hF
        · replace hF := zh_t cy3 hF
          exact z_M_worst_91 hm  hF
    · replace hF := zh_f cy1 hF
      refine z_aload_n d_M_worst_33 0 rfl rfl ?_
      refine z_getr d_M_worst_34 (q := (q + 11)) f_M_46 (hm 0 _ rfl) rfl ?_
      refine z_bipush d_M_worst_37 (v := 10) (by decide) ?_
      refine z_iload d_M_worst_39 4 rfl ?_
      refine z_imul d_M_worst_41 ?_
      refine z_iconst d_M_worst_42 (v := 2) (by decide) ?_
      refine z_iadd d_M_worst_43 ?_
      obtain ⟨hy4, hF⟩ := zh_if hF
      refine z_iald d_M_worst_44 (hm 11 _ rfl) (zin_vp hy4) ?_
      refine z_aload_n d_M_worst_45 0 rfl rfl ?_
      refine z_getr d_M_worst_46 (q := (q + 11)) f_M_46 (hm 0 _ rfl) rfl ?_
      refine z_bipush d_M_worst_49 (v := 10) (by decide) ?_
      refine z_iload d_M_worst_51 4 rfl ?_
      refine z_imul d_M_worst_53 ?_
      refine z_iconst d_M_worst_54 (v := 1) (by decide) ?_
      refine z_iadd d_M_worst_55 ?_
      obtain ⟨hy5, hF⟩ := zh_if hF
      refine z_iald d_M_worst_56 (hm 11 _ rfl) (zin_vp hy5) ?_
      refine z_isub d_M_worst_57 ?_
      obtain ⟨y6, hy6, hF⟩ := zh_let hF
      refine z_eqi hy6 ?_
      refine z_istore d_M_worst_58 (by decide) (L2 := [(5, .int y6), (0, .ref (ad q)), (1, .int x1), (2, .int x2), (3, .int x3), (4, .int x4)]) rfl ?_
      refine z_iload d_M_worst_60 0 rfl ?_
      refine z_iload_n d_M_worst_62 4 rfl rfl ?_
      refine z_icmp_gt d_M_worst_63 (tgt := 69) (by decide) (fun cy7 => ?_) (fun cy7 => ?_)
      · replace hF := zh_t cy7 hF
        refine z_iload d_M_worst_69 5 rfl ?_
        refine z_istore_n d_M_worst_71 rfl (by decide) (L2 := [(2, .int x4), (5, .int y6), (0, .ref (ad q)), (1, .int x1), (3, .int x3), (4, .int x4)]) rfl ?_
        refine z_iload d_M_worst_72 1 rfl ?_
        refine z_istore_n d_M_worst_74 rfl (by decide) (L2 := [(3, .int y6), (2, .int x4), (5, .int y6), (0, .ref (ad q)), (1, .int x1), (4, .int x4)]) rfl ?_
        refine z_sub [3, 4, 1, 0, 5, 2] (L' := [(0, .ref (ad q)), (1, .int x1), (2, .int x4), (3, .int y6), (4, .int x4), (5, .int y6)]) rfl ?_
        exact z_M_worst_75 hm (fun a0 a1 a2 a3 a4 a5 => ih a0 a1 a2 a3 a4 a5) hF
      · replace hF := zh_f cy7 hF
        refine z_goto d_M_worst_66 (tgt := 75) (by decide) ?_
        refine z_sub [1, 2, 3, 4, 5, 0] (L' := [(0, .ref (ad q)), (1, .int x1), (2, .int x2), (3, .int x3), (4, .int x4), (5, .int y6)]) rfl ?_
        exact z_M_worst_75 hm (fun a0 a1 a2 a3 a4 a5 => ih a0 a1 a2 a3 a4 a5) hF
def e_M_worst_0 (q : Nat)  (x1 : Int32) (μ : zI) (ν : zJ) : Option (Int32 × zI × zJ) := zlet (zu μ q 0 0) fun μy1 => (if x1 < 0 then e_M_worst_14 q x1 μy1 ν else (if x1 ≤ 1 then f_M_worst_24 q zFuel x1 (-2) (-1) 0 μy1 ν else e_M_worst_14 q x1 μy1 ν))
theorem z_M_worst_0 {l : Launch} {D : va_G} {dA : Nat → ClassId} {ad : Nat → Nat} {sh : List zSE}  {q : Nat} (hm : zMo sh q)  {x1 : Int32} {μ : zI} {ν : zJ} {out : (Int32 × zI × zJ)} (hF : e_M_worst_0 q  x1 μ ν = some out) : Z l D dA ad sh m_M_worst (zR 0 0 0) (zS ad) (zOi out) 0 0 0 0 [] 0 [(0, .ref (ad q)), (1, .int x1)] [] μ ν := by
  unfold e_M_worst_0 at hF
  refine z_aload_n d_M_worst_0 0 rfl rfl ?_
  refine z_iconst d_M_worst_1 (v := 0) (by decide) ?_
  refine z_put d_M_worst_2 f_M_55 (hm 0 _ rfl) rfl (CL_fin _ _ (fun q hq => by cases hq; rfl)) rfl rfl ?_
  obtain ⟨μy1, hy1, hF⟩ := zh_let hF
  refine z_eqm hy1 ?_
  refine z_iload_n d_M_worst_5 1 rfl rfl ?_
  refine z_if_lt d_M_worst_6 (tgt := 14) (by decide) (fun cy2 => ?_) (fun cy2 => ?_)
  · replace hF := zh_t cy2 hF
    exact z_M_worst_14 hm  hF
  · replace hF := zh_f cy2 hF
    refine z_iload_n d_M_worst_9 1 rfl rfl ?_
    refine z_iconst d_M_worst_10 (v := 1) (by decide) ?_
    refine z_icmp_le d_M_worst_11 (tgt := 16) (by decide) (fun cy3 => ?_) (fun cy3 => ?_)
    · replace hF := zh_t cy3 hF
      refine z_bipush d_M_worst_16 (v := (-2)) (by decide) ?_
      refine z_istore_n d_M_worst_18 rfl (by decide) (L2 := [(2, .int (-2)), (0, .ref (ad q)), (1, .int x1)]) rfl ?_
      refine z_iconst d_M_worst_19 (v := (-1)) (by decide) ?_
      refine z_istore_n d_M_worst_20 rfl (by decide) (L2 := [(3, .int (-1)), (2, .int (-2)), (0, .ref (ad q)), (1, .int x1)]) rfl ?_
      refine z_iconst d_M_worst_21 (v := 0) (by decide) ?_
      refine z_istore d_M_worst_22 (by decide) (L2 := [(4, .int 0), (3, .int (-1)), (2, .int (-2)), (0, .ref (ad q)), (1, .int x1)]) rfl ?_
      refine z_sub [3, 4, 2, 1, 0] (L' := [(0, .ref (ad q)), (1, .int x1), (2, .int (-2)), (3, .int (-1)), (4, .int 0)]) rfl ?_
      exact z_M_worst_24 hm  zFuel _ _ _ _ _ _ hF
    · replace hF := zh_f cy3 hF
      exact z_M_worst_14 hm  hF
def E_M_worst (q : Nat) (x1 : Int32) (μ : zI) (ν : zJ) : Option (Int32 × zI × zJ) := e_M_worst_0 q x1 μ ν
theorem c_M_worst {l : Launch} {D : va_G} {dA : Nat → ClassId} {ad : Nat → Nat} {sh : List zSE} {μ : zI} {ν : zJ} {q : Nat} {x1 : Int32} (hm : zMo sh q) {out : (Int32 × zI × zJ)} (hE : E_M_worst q x1 μ ν = some out) : zC l D dA ad sh m_M_worst 0 0 0 [.ref (ad q), .int x1] μ ν (zOi out) :=
  zC.of (by decide) (Nat.le_of_ble_eq_true rfl) (z_M_worst_0 hm hE)
def e_M_comes_18 (q : Nat)  (x1 : Int32) (x2 : Int32) (μ : zI) (ν : zJ) : Option (Int32 × zI × zJ) := some ((-1), μ, ν)
theorem z_M_comes_18 {l : Launch} {D : va_G} {dA : Nat → ClassId} {ad : Nat → Nat} {sh : List zSE}  {q : Nat} (hm : zMo sh q)  {x1 : Int32} {x2 : Int32} {μ : zI} {ν : zJ} {out : (Int32 × zI × zJ)} (hF : e_M_comes_18 q  x1 x2 μ ν = some out) : Z l D dA ad sh m_M_comes (zR 0 0 0) (zS ad) (zOi out) 0 0 0 0 [] 18 [(0, .ref (ad q)), (1, .int x1), (2, .int x2)] [] μ ν := by
  unfold e_M_comes_18 at hF
  refine z_iconst d_M_comes_18 (v := (-1)) (by decide) ?_
  cases hF
  exact z_ireturn d_M_comes_19 rfl rfl ⟨rfl, rfl, rfl⟩
def e_M_comes_49 (q : Nat)  (x1 : Int32) (x2 : Int32) (s0 : Int32) (μ : zI) (ν : zJ) : Option (Int32 × zI × zJ) := some (s0, μ, ν)
theorem z_M_comes_49 {l : Launch} {D : va_G} {dA : Nat → ClassId} {ad : Nat → Nat} {sh : List zSE}  {q : Nat} (hm : zMo sh q)  {x1 : Int32} {x2 : Int32} {s0 : Int32} {μ : zI} {ν : zJ} {out : (Int32 × zI × zJ)} (hF : e_M_comes_49 q  x1 x2 s0 μ ν = some out) : Z l D dA ad sh m_M_comes (zR 0 0 0) (zS ad) (zOi out) 0 0 0 0 [] 49 [(0, .ref (ad q)), (1, .int x1), (2, .int x2)] [.int s0] μ ν := by
  unfold e_M_comes_49 at hF
  cases hF
  exact z_ireturn d_M_comes_49 rfl rfl ⟨rfl, rfl, rfl⟩
def e_M_comes_0 (q : Nat)  (x1 : Int32) (x2 : Int32) (μ : zI) (ν : zJ) : Option (Int32 × zI × zJ) := zlet (zu μ q 0 0) fun μy1 => (if x1 < 0 then e_M_comes_18 q x1 x2 μy1 ν else (if x2 < 0 then e_M_comes_18 q x1 x2 μy1 ν else (if x2 ≤ 3 then (if (μy1 (q + 7) 46) ≤ x1 then e_M_comes_49 q x1 x2 (-2) μy1 ν else (if zin ((47 + (4 * x1)) + x2) 146 = true then e_M_comes_49 q x1 x2 (μy1 (q + 7) (Int32.toNatClampNeg ((47 + (4 * x1)) + x2))) μy1 ν else none)) else e_M_comes_18 q x1 x2 μy1 ν)))
theorem z_M_comes_0 {l : Launch} {D : va_G} {dA : Nat → ClassId} {ad : Nat → Nat} {sh : List zSE}  {q : Nat} (hm : zMo sh q)  {x1 : Int32} {x2 : Int32} {μ : zI} {ν : zJ} {out : (Int32 × zI × zJ)} (hF : e_M_comes_0 q  x1 x2 μ ν = some out) : Z l D dA ad sh m_M_comes (zR 0 0 0) (zS ad) (zOi out) 0 0 0 0 [] 0 [(0, .ref (ad q)), (1, .int x1), (2, .int x2)] [] μ ν := by
  unfold e_M_comes_0 at hF
  refine z_aload_n d_M_comes_0 0 rfl rfl ?_
  refine z_iconst d_M_comes_1 (v := 0) (by decide) ?_
  refine z_put d_M_comes_2 f_M_55 (hm 0 _ rfl) rfl (CL_fin _ _ (fun q hq => by cases hq; rfl)) rfl rfl ?_
  obtain ⟨μy1, hy1, hF⟩ := zh_let hF
  refine z_eqm hy1 ?_
  refine z_iload_n d_M_comes_5 1 rfl rfl ?_
  refine z_if_lt d_M_comes_6 (tgt := 18) (by decide) (fun cy2 => ?_) (fun cy2 => ?_)
  · replace hF := zh_t cy2 hF
    exact z_M_comes_18 hm  hF
  · replace hF := zh_f cy2 hF
    refine z_iload_n d_M_comes_9 2 rfl rfl ?_
    refine z_if_lt d_M_comes_10 (tgt := 18) (by decide) (fun cy3 => ?_) (fun cy3 => ?_)
    · replace hF := zh_t cy3 hF
      exact z_M_comes_18 hm  hF
    · replace hF := zh_f cy3 hF
      refine z_iload_n d_M_comes_13 2 rfl rfl ?_
      refine z_iconst d_M_comes_14 (v := 3) (by decide) ?_
      refine z_icmp_le d_M_comes_15 (tgt := 20) (by decide) (fun cy4 => ?_) (fun cy4 => ?_)
      · replace hF := zh_t cy4 hF
        refine z_iload_n d_M_comes_20 1 rfl rfl ?_
        refine z_aload_n d_M_comes_21 0 rfl rfl ?_
        refine z_getr d_M_comes_22 (q := (q + 7)) f_M_33 (hm 0 _ rfl) rfl ?_
        refine z_bipush d_M_comes_25 (v := 46) (by decide) ?_
        refine z_iald d_M_comes_27 (hm 7 _ rfl) (zin_vp rfl) ?_
        show Z _ _ _ _ _ _ _ _ _ _ _ _ _ _ _ _ [.int (μy1 (q + 7) 46), .int x1] _ _
        refine z_icmp_ge d_M_comes_28 (tgt := 47) (by decide) (fun cy5 => ?_) (fun cy5 => ?_)
        · replace hF := zh_t cy5 hF
          refine z_bipush d_M_comes_47 (v := (-2)) (by decide) ?_
          exact z_M_comes_49 hm  hF
        · replace hF := zh_f cy5 hF
          refine z_aload_n d_M_comes_31 0 rfl rfl ?_
          refine z_getr d_M_comes_32 (q := (q + 7)) f_M_33 (hm 0 _ rfl) rfl ?_
          refine z_bipush d_M_comes_35 (v := 47) (by decide) ?_
          refine z_iconst d_M_comes_37 (v := 4) (by decide) ?_
          refine z_iload_n d_M_comes_38 1 rfl rfl ?_
          refine z_imul d_M_comes_39 ?_
          refine z_iadd d_M_comes_40 ?_
          refine z_iload_n d_M_comes_41 2 rfl rfl ?_
          refine z_iadd d_M_comes_42 ?_
          obtain ⟨hy6, hF⟩ := zh_if hF
          refine z_iald d_M_comes_43 (hm 7 _ rfl) (zin_vp hy6) ?_
          refine z_goto d_M_comes_44 (tgt := 49) (by decide) ?_
          exact z_M_comes_49 hm  hF
      · replace hF := zh_f cy4 hF
        exact z_M_comes_18 hm  hF
def E_M_comes (q : Nat) (x1 : Int32) (x2 : Int32) (μ : zI) (ν : zJ) : Option (Int32 × zI × zJ) := e_M_comes_0 q x1 x2 μ ν
theorem c_M_comes {l : Launch} {D : va_G} {dA : Nat → ClassId} {ad : Nat → Nat} {sh : List zSE} {μ : zI} {ν : zJ} {q : Nat} {x1 : Int32} {x2 : Int32} (hm : zMo sh q) {out : (Int32 × zI × zJ)} (hE : E_M_comes q x1 x2 μ ν = some out) : zC l D dA ad sh m_M_comes 0 0 0 [.ref (ad q), .int x1, .int x2] μ ν (zOi out) :=
  zC.of (by decide) (Nat.le_of_ble_eq_true rfl) (z_M_comes_0 hm hE)
def e_M_cancel_0 (q : Nat)  (x1 : Int32) (μ : zI) (ν : zJ) : Option (Int32 × zI × zJ) := zlet (zu μ q 0 0) fun μy1 => (if 0 ≤ x1 then (if x1 < (μy1 (q + 7) 46) then Option.bind (E_M_removes q x1 μy1 ν) fun ty4 => some ((ty4.1 (q + 7) 46), ty4.1, ty4.2) else some ((-2), μy1, ν)) else some ((-1), μy1, ν))
theorem z_M_cancel_0 {l : Launch} {D : va_G} {dA : Nat → ClassId} {ad : Nat → Nat} {sh : List zSE}  {q : Nat} (hm : zMo sh q)  {x1 : Int32} {μ : zI} {ν : zJ} {out : (Int32 × zI × zJ)} (hF : e_M_cancel_0 q  x1 μ ν = some out) : Z l D dA ad sh m_M_cancel (zR 1 0 0) (zS ad) (zOi out) 0 0 0 0 [] 0 [(0, .ref (ad q)), (1, .int x1)] [] μ ν := by
  unfold e_M_cancel_0 at hF
  refine z_aload_n d_M_cancel_0 0 rfl rfl ?_
  refine z_iconst d_M_cancel_1 (v := 0) (by decide) ?_
  refine z_put d_M_cancel_2 f_M_55 (hm 0 _ rfl) rfl (CL_fin _ _ (fun q hq => by cases hq; rfl)) rfl rfl ?_
  obtain ⟨μy1, hy1, hF⟩ := zh_let hF
  refine z_eqm hy1 ?_
  refine z_iload_n d_M_cancel_5 1 rfl rfl ?_
  refine z_if_ge d_M_cancel_6 (tgt := 11) (by decide) (fun cy2 => ?_) (fun cy2 => ?_)
  · replace hF := zh_t cy2 hF
    refine z_iload_n d_M_cancel_11 1 rfl rfl ?_
    refine z_aload_n d_M_cancel_12 0 rfl rfl ?_
    refine z_getr d_M_cancel_13 (q := (q + 7)) f_M_33 (hm 0 _ rfl) rfl ?_
    refine z_bipush d_M_cancel_16 (v := 46) (by decide) ?_
    refine z_iald d_M_cancel_18 (hm 7 _ rfl) (zin_vp rfl) ?_
    show Z _ _ _ _ _ _ _ _ _ _ _ _ _ _ _ _ [.int (μy1 (q + 7) 46), .int x1] _ _
    refine z_icmp_lt d_M_cancel_19 (tgt := 25) (by decide) (fun cy3 => ?_) (fun cy3 => ?_)
    · replace hF := zh_t cy3 hF
      refine z_aload_n d_M_cancel_25 0 rfl rfl ?_
      refine z_iload_n d_M_cancel_26 1 rfl rfl ?_
      obtain ⟨ty4, hty4, hF⟩ := zh_bind hF
      refine z_callV d_M_cancel_27 (c_M_removes hm hty4) mv_M_removes l_M_197 (fun _ _ h => h) (hm 0 _ rfl) rfl rfl ⟨Nat.le_of_ble_eq_true rfl, Nat.le_of_ble_eq_true rfl⟩ ⟨Nat.le_of_ble_eq_true rfl, Nat.le_of_ble_eq_true rfl⟩ rfl (Nat.le_of_ble_eq_true rfl) (fun r μ' ν' hq => ?_)
      obtain ⟨rfl, rfl, rfl⟩ := hq
      show Z _ _ _ _ _ _ _ _ _ _ _ 0 0 _ _ _ [] _ _
      refine z_aload_n d_M_cancel_30 0 rfl rfl ?_
      refine z_getr d_M_cancel_31 (q := (q + 7)) f_M_33 (hm 0 _ rfl) rfl ?_
      refine z_bipush d_M_cancel_34 (v := 46) (by decide) ?_
      refine z_iald d_M_cancel_36 (hm 7 _ rfl) (zin_vp rfl) ?_
      show Z _ _ _ _ _ _ _ _ _ _ _ _ _ _ _ _ [.int (ty4.1 (q + 7) 46)] _ _
      cases hF
      exact z_ireturn d_M_cancel_37 rfl rfl ⟨rfl, rfl, rfl⟩
    · replace hF := zh_f cy3 hF
      refine z_bipush d_M_cancel_22 (v := (-2)) (by decide) ?_
      cases hF
      exact z_ireturn d_M_cancel_24 rfl rfl ⟨rfl, rfl, rfl⟩
  · replace hF := zh_f cy2 hF
    refine z_iconst d_M_cancel_9 (v := (-1)) (by decide) ?_
    cases hF
    exact z_ireturn d_M_cancel_10 rfl rfl ⟨rfl, rfl, rfl⟩
def E_M_cancel (q : Nat) (x1 : Int32) (μ : zI) (ν : zJ) : Option (Int32 × zI × zJ) := e_M_cancel_0 q x1 μ ν
theorem c_M_cancel {l : Launch} {D : va_G} {dA : Nat → ClassId} {ad : Nat → Nat} {sh : List zSE} {μ : zI} {ν : zJ} {q : Nat} {x1 : Int32} (hm : zMo sh q) {out : (Int32 × zI × zJ)} (hE : E_M_cancel q x1 μ ν = some out) : zC l D dA ad sh m_M_cancel 1 0 0 [.ref (ad q), .int x1] μ ν (zOi out) :=
  zC.of (by decide) (Nat.le_of_ble_eq_true rfl) (z_M_cancel_0 hm hE)
def e_M_canTry_24 (q : Nat)  (x1 : Int32) (s0 : Int32) (μ : zI) (ν : zJ) : Option (Int32 × zI × zJ) := (if zb s0 = true then some (s0, μ, ν) else none)
theorem z_M_canTry_24 {l : Launch} {D : va_G} {dA : Nat → ClassId} {ad : Nat → Nat} {sh : List zSE}  {q : Nat} (hm : zMo sh q)  {x1 : Int32} {s0 : Int32} {μ : zI} {ν : zJ} {out : (Int32 × zI × zJ)} (hF : e_M_canTry_24 q  x1 s0 μ ν = some out) : Z l D dA ad sh m_M_canTry (zR 0 0 0) (zS ad) (zOi out) 0 0 0 0 [] 24 [(0, .ref (ad q)), (1, .int x1)] [.int s0] μ ν := by
  unfold e_M_canTry_24 at hF
  obtain ⟨hy1, hF⟩ := zh_if hF
  cases hF
  exact z_ireturn d_M_canTry_24 rfl (zb_n hy1) ⟨rfl, rfl, rfl⟩
def e_M_canTry_23 (q : Nat)  (x1 : Int32) (μ : zI) (ν : zJ) : Option (Int32 × zI × zJ) := e_M_canTry_24 q x1 0 μ ν
theorem z_M_canTry_23 {l : Launch} {D : va_G} {dA : Nat → ClassId} {ad : Nat → Nat} {sh : List zSE}  {q : Nat} (hm : zMo sh q)  {x1 : Int32} {μ : zI} {ν : zJ} {out : (Int32 × zI × zJ)} (hF : e_M_canTry_23 q  x1 μ ν = some out) : Z l D dA ad sh m_M_canTry (zR 0 0 0) (zS ad) (zOi out) 0 0 0 0 [] 23 [(0, .ref (ad q)), (1, .int x1)] [] μ ν := by
  unfold e_M_canTry_23 at hF
  refine z_iconst d_M_canTry_23 (v := 0) (by decide) ?_
  exact z_M_canTry_24 hm  hF
def e_M_canTry_0 (q : Nat)  (x1 : Int32) (μ : zI) (ν : zJ) : Option (Int32 × zI × zJ) := (if x1 < 1 then e_M_canTry_23 q x1 μ ν else (if 300 < x1 then e_M_canTry_23 q x1 μ ν else (if (μ q 9) ≤ 0 then e_M_canTry_23 q x1 μ ν else e_M_canTry_24 q x1 1 μ ν)))
theorem z_M_canTry_0 {l : Launch} {D : va_G} {dA : Nat → ClassId} {ad : Nat → Nat} {sh : List zSE}  {q : Nat} (hm : zMo sh q)  {x1 : Int32} {μ : zI} {ν : zJ} {out : (Int32 × zI × zJ)} (hF : e_M_canTry_0 q  x1 μ ν = some out) : Z l D dA ad sh m_M_canTry (zR 0 0 0) (zS ad) (zOi out) 0 0 0 0 [] 0 [(0, .ref (ad q)), (1, .int x1)] [] μ ν := by
  unfold e_M_canTry_0 at hF
  refine z_iload_n d_M_canTry_0 1 rfl rfl ?_
  refine z_iconst d_M_canTry_1 (v := 1) (by decide) ?_
  refine z_icmp_lt d_M_canTry_2 (tgt := 23) (by decide) (fun cy1 => ?_) (fun cy1 => ?_)
  · replace hF := zh_t cy1 hF
    exact z_M_canTry_23 hm  hF
  · replace hF := zh_f cy1 hF
    refine z_iload_n d_M_canTry_5 1 rfl rfl ?_
    refine z_sipush d_M_canTry_6 (v := 300) (by decide) ?_
    refine z_icmp_gt d_M_canTry_9 (tgt := 23) (by decide) (fun cy2 => ?_) (fun cy2 => ?_)
    · replace hF := zh_t cy2 hF
      exact z_M_canTry_23 hm  hF
    · replace hF := zh_f cy2 hF
      refine z_aload_n d_M_canTry_12 0 rfl rfl ?_
      refine z_get d_M_canTry_13 f_M_168 (hm 0 _ rfl) rfl ?_
      refine z_if_le d_M_canTry_16 (tgt := 23) (by decide) (fun cy3 => ?_) (fun cy3 => ?_)
      · replace hF := zh_t cy3 hF
        exact z_M_canTry_23 hm  hF
      · replace hF := zh_f cy3 hF
        refine z_iconst d_M_canTry_19 (v := 1) (by decide) ?_
        refine z_goto d_M_canTry_20 (tgt := 24) (by decide) ?_
        exact z_M_canTry_24 hm  hF
def E_M_canTry (q : Nat) (x1 : Int32) (μ : zI) (ν : zJ) : Option (Int32 × zI × zJ) := e_M_canTry_0 q x1 μ ν
theorem c_M_canTry {l : Launch} {D : va_G} {dA : Nat → ClassId} {ad : Nat → Nat} {sh : List zSE} {μ : zI} {ν : zJ} {q : Nat} {x1 : Int32} (hm : zMo sh q) {out : (Int32 × zI × zJ)} (hE : E_M_canTry q x1 μ ν = some out) : zC l D dA ad sh m_M_canTry 0 0 0 [.ref (ad q), .int x1] μ ν (zOi out) :=
  zC.of (by decide) (Nat.le_of_ble_eq_true rfl) (z_M_canTry_0 hm hE)
def f_M_runs_2 (q : Nat)  : Nat → Int32 → Int32 → zI → zJ → Option (zI × zJ)
  | 0, _, _, _, _ => none
  | n + 1, x1, x2, μ, ν => (if x1 ≤ x2 then some (μ, ν) else Option.bind (E_M_ticksOnce q μ ν) fun ty2 => (f_M_runs_2 q n) x1 (x2 + 1) ty2.1 ty2.2)
theorem z_M_runs_2 {l : Launch} {D : va_G} {dA : Nat → ClassId} {ad : Nat → Nat} {sh : List zSE}  {q : Nat} (hm : zMo sh q)  {out : (zI × zJ)} : ∀ (n : Nat) (x1 : Int32) (x2 : Int32) (μ : zI) (ν : zJ), f_M_runs_2 q  n x1 x2 μ ν = some out → Z l D dA ad sh m_M_runs (zR 7 0 0) (zS ad) (zOv out) 0 0 0 0 [] 2 [(0, .ref (ad q)), (1, .int x1), (2, .int x2)] [] μ ν := by
  intro n
  induction n with
  | zero => intro x1 x2 μ ν hF; cases hF
  | succ n ih =>
    intro x1 x2 μ ν hF
    dsimp only [f_M_runs_2] at hF
    refine z_iload_n d_M_runs_2 2 rfl rfl ?_
    refine z_iload_n d_M_runs_3 1 rfl rfl ?_
    refine z_icmp_ge d_M_runs_4 (tgt := 17) (by decide) (fun cy1 => ?_) (fun cy1 => ?_)
    · replace hF := zh_t cy1 hF
      cases hF
      exact z_return d_M_runs_17 rfl ⟨rfl, rfl, rfl⟩
    · replace hF := zh_f cy1 hF
      refine z_aload_n d_M_runs_7 0 rfl rfl ?_
      obtain ⟨ty2, hty2, hF⟩ := zh_bind hF
      refine z_callV d_M_runs_8 (c_M_ticksOnce hm hty2) mv_M_ticksOnce l_M_262 (fun _ _ h => h) (hm 0 _ rfl) rfl rfl ⟨Nat.le_of_ble_eq_true rfl, Nat.le_of_ble_eq_true rfl⟩ ⟨Nat.le_of_ble_eq_true rfl, Nat.le_of_ble_eq_true rfl⟩ rfl (Nat.le_of_ble_eq_true rfl) (fun r μ' ν' hq => ?_)
      obtain ⟨rfl, rfl, rfl⟩ := hq
      show Z _ _ _ _ _ _ _ _ _ _ _ 0 0 _ _ _ [] _ _
      refine z_iinc d_M_runs_11 (k := 2) (v := (x2 + 1)) rfl rfl (by decide) (L2 := [(2, .int (x2 + 1)), (0, .ref (ad q)), (1, .int x1)]) rfl ?_
      refine z_goto d_M_runs_14 (tgt := 2) (by decide) ?_
      refine z_sub [1, 2, 0] (L' := [(0, .ref (ad q)), (1, .int x1), (2, .int (x2 + 1))]) rfl ?_
      exact ih _ _ _ _ hF
def e_M_runs_0 (q : Nat)  (x1 : Int32) (μ : zI) (ν : zJ) : Option (zI × zJ) := f_M_runs_2 q zFuel x1 0 μ ν
theorem z_M_runs_0 {l : Launch} {D : va_G} {dA : Nat → ClassId} {ad : Nat → Nat} {sh : List zSE}  {q : Nat} (hm : zMo sh q)  {x1 : Int32} {μ : zI} {ν : zJ} {out : (zI × zJ)} (hF : e_M_runs_0 q  x1 μ ν = some out) : Z l D dA ad sh m_M_runs (zR 7 0 0) (zS ad) (zOv out) 0 0 0 0 [] 0 [(0, .ref (ad q)), (1, .int x1)] [] μ ν := by
  unfold e_M_runs_0 at hF
  refine z_iconst d_M_runs_0 (v := 0) (by decide) ?_
  refine z_istore_n d_M_runs_1 rfl (by decide) (L2 := [(2, .int 0), (0, .ref (ad q)), (1, .int x1)]) rfl ?_
  refine z_sub [1, 2, 0] (L' := [(0, .ref (ad q)), (1, .int x1), (2, .int 0)]) rfl ?_
  exact z_M_runs_2 hm  zFuel _ _ _ _ hF
def E_M_runs (q : Nat) (x1 : Int32) (μ : zI) (ν : zJ) : Option (zI × zJ) := e_M_runs_0 q x1 μ ν
theorem c_M_runs {l : Launch} {D : va_G} {dA : Nat → ClassId} {ad : Nat → Nat} {sh : List zSE} {μ : zI} {ν : zJ} {q : Nat} {x1 : Int32} (hm : zMo sh q) {out : (zI × zJ)} (hE : E_M_runs q x1 μ ν = some out) : zC l D dA ad sh m_M_runs 7 0 0 [.ref (ad q), .int x1] μ ν (zOv out) :=
  zC.of (by decide) (Nat.le_of_ble_eq_true rfl) (z_M_runs_0 hm hE)
def e_M_ifTicks_23 (q : Nat)  (x1 : Int32) (x2 : Int32) (μ : zI) (ν : zJ) : Option (Int32 × zI × zJ) := some ((-1), μ, ν)
theorem z_M_ifTicks_23 {l : Launch} {D : va_G} {dA : Nat → ClassId} {ad : Nat → Nat} {sh : List zSE}  {q : Nat} (hm : zMo sh q)  {x1 : Int32} {x2 : Int32} {μ : zI} {ν : zJ} {out : (Int32 × zI × zJ)} (hF : e_M_ifTicks_23 q  x1 x2 μ ν = some out) : Z l D dA ad sh m_M_ifTicks (zR 8 0 0) (zS ad) (zOi out) 0 0 0 0 [] 23 [(0, .ref (ad q)), (1, .int x1), (2, .int x2)] [] μ ν := by
  unfold e_M_ifTicks_23 at hF
  refine z_iconst d_M_ifTicks_23 (v := (-1)) (by decide) ?_
  cases hF
  exact z_ireturn d_M_ifTicks_24 rfl rfl ⟨rfl, rfl, rfl⟩
def e_M_ifTicks_166 (q : Nat)  (x1 : Int32) (x2 : Int32) (x3 : Int32) (μ : zI) (ν : zJ) : Option (Int32 × zI × zJ) := Option.bind (E_M_comesBack q μ ν) fun ty1 => some (x3, ty1.1, ty1.2)
theorem z_M_ifTicks_166 {l : Launch} {D : va_G} {dA : Nat → ClassId} {ad : Nat → Nat} {sh : List zSE}  {q : Nat} (hm : zMo sh q)  {x1 : Int32} {x2 : Int32} {x3 : Int32} {μ : zI} {ν : zJ} {out : (Int32 × zI × zJ)} (hF : e_M_ifTicks_166 q  x1 x2 x3 μ ν = some out) : Z l D dA ad sh m_M_ifTicks (zR 8 0 0) (zS ad) (zOi out) 0 0 0 0 [] 166 [(0, .ref (ad q)), (1, .int x1), (2, .int x2), (3, .int x3)] [] μ ν := by
  unfold e_M_ifTicks_166 at hF
  refine z_aload_n d_M_ifTicks_166 0 rfl rfl ?_
  obtain ⟨ty1, hty1, hF⟩ := zh_bind hF
  refine z_callV d_M_ifTicks_167 (c_M_comesBack hm hty1) mv_M_comesBack l_M_303 (fun _ _ h => h) (hm 0 _ rfl) rfl rfl ⟨Nat.le_of_ble_eq_true rfl, Nat.le_of_ble_eq_true rfl⟩ ⟨Nat.le_of_ble_eq_true rfl, Nat.le_of_ble_eq_true rfl⟩ rfl (Nat.le_of_ble_eq_true rfl) (fun r μ' ν' hq => ?_)
  obtain ⟨rfl, rfl, rfl⟩ := hq
  show Z _ _ _ _ _ _ _ _ _ _ _ 0 0 _ _ _ [] _ _
  refine z_iload_n d_M_ifTicks_170 3 rfl rfl ?_
  cases hF
  exact z_ireturn d_M_ifTicks_171 rfl rfl ⟨rfl, rfl, rfl⟩
def e_M_ifTicks_0 (q : Nat)  (x1 : Int32) (x2 : Int32) (μ : zI) (ν : zJ) : Option (Int32 × zI × zJ) := zlet (zu μ q 0 0) fun μy1 => Option.bind (E_M_canTry q x1 μy1 ν) fun ty2 => (if ty2.1 = 0 then e_M_ifTicks_23 q x1 x2 ty2.2.1 ty2.2.2 else (if x2 < 0 then e_M_ifTicks_23 q x1 x2 ty2.2.1 ty2.2.2 else (if x2 ≤ 7 then Option.bind (E_M_goesAside q ty2.2.1 ty2.2.2) fun ty6 => Option.bind (E_M_runs q x1 ty6.1 ty6.2) fun ty7 => (if x2 = 0 then zlet (α := Int32) (Int64.toInt32 ((ty7.2 (q + 9) 0) - (ty7.2 (q + 10) 0))) fun y15 => e_M_ifTicks_166 q x1 x2 y15 ty7.1 ty7.2 else (if x2 = 1 then (if zin (x2 + 1) 11 = true then (if zin (x2 + 1) 11 = true then zlet (α := Int32) (Int64.toInt32 ((ty7.2 (q + 9) (Int32.toNatClampNeg (x2 + 1))) - (ty7.2 (q + 10) (Int32.toNatClampNeg (x2 + 1))))) fun y18 => e_M_ifTicks_166 q x1 x2 y18 ty7.1 ty7.2 else none) else none) else (if x2 = 2 then (if zin (x2 + 1) 11 = true then (if zin (x2 + 1) 11 = true then zlet (α := Int32) (Int64.toInt32 ((ty7.2 (q + 9) (Int32.toNatClampNeg (x2 + 1))) - (ty7.2 (q + 10) (Int32.toNatClampNeg (x2 + 1))))) fun y21 => e_M_ifTicks_166 q x1 x2 y21 ty7.1 ty7.2 else none) else none) else (if x2 = 3 then (if zin (x2 + 1) 11 = true then (if zin (x2 + 1) 11 = true then zlet (α := Int32) (Int64.toInt32 ((ty7.2 (q + 9) (Int32.toNatClampNeg (x2 + 1))) - (ty7.2 (q + 10) (Int32.toNatClampNeg (x2 + 1))))) fun y24 => e_M_ifTicks_166 q x1 x2 y24 ty7.1 ty7.2 else none) else none) else (if x2 = 4 then zlet (α := Int32) (ty7.1 (q + 7) 33) fun y25 => e_M_ifTicks_166 q x1 x2 y25 ty7.1 ty7.2 else (if x2 = 5 then zlet (α := Int32) (ty7.1 (q + 7) 34) fun y26 => e_M_ifTicks_166 q x1 x2 y26 ty7.1 ty7.2 else (if x2 = 6 then zlet (α := Int32) (Int64.toInt32 ((ty7.2 (q + 9) 6) - (ty7.2 (q + 10) 6))) fun y27 => e_M_ifTicks_166 q x1 x2 y27 ty7.1 ty7.2 else zlet (α := Int32) (ty7.1 (q + 7) 26) fun y28 => e_M_ifTicks_166 q x1 x2 y28 ty7.1 ty7.2))))))) else e_M_ifTicks_23 q x1 x2 ty2.2.1 ty2.2.2)))
theorem z_M_ifTicks_0 {l : Launch} {D : va_G} {dA : Nat → ClassId} {ad : Nat → Nat} {sh : List zSE}  {q : Nat} (hm : zMo sh q)  {x1 : Int32} {x2 : Int32} {μ : zI} {ν : zJ} {out : (Int32 × zI × zJ)} (hF : e_M_ifTicks_0 q  x1 x2 μ ν = some out) : Z l D dA ad sh m_M_ifTicks (zR 8 0 0) (zS ad) (zOi out) 0 0 0 0 [] 0 [(0, .ref (ad q)), (1, .int x1), (2, .int x2)] [] μ ν := by
  unfold e_M_ifTicks_0 at hF
  refine z_aload_n d_M_ifTicks_0 0 rfl rfl ?_
  refine z_iconst d_M_ifTicks_1 (v := 0) (by decide) ?_
  refine z_put d_M_ifTicks_2 f_M_55 (hm 0 _ rfl) rfl (CL_fin _ _ (fun q hq => by cases hq; rfl)) rfl rfl ?_
  obtain ⟨μy1, hy1, hF⟩ := zh_let hF
  refine z_eqm hy1 ?_
  refine z_aload_n d_M_ifTicks_5 0 rfl rfl ?_
  refine z_iload_n d_M_ifTicks_6 1 rfl rfl ?_
  obtain ⟨ty2, hty2, hF⟩ := zh_bind hF
  refine z_callV d_M_ifTicks_7 (c_M_canTry hm hty2) mv_M_canTry l_M_294 (fun _ _ h => h) (hm 0 _ rfl) rfl rfl ⟨Nat.le_of_ble_eq_true rfl, Nat.le_of_ble_eq_true rfl⟩ ⟨Nat.le_of_ble_eq_true rfl, Nat.le_of_ble_eq_true rfl⟩ rfl (Nat.le_of_ble_eq_true rfl) (fun r μ' ν' hq => ?_)
  obtain ⟨rfl, rfl, rfl⟩ := hq
  show Z _ _ _ _ _ _ _ _ _ _ _ 0 0 _ _ _ [.int ty2.1] _ _
  refine z_if_eq d_M_ifTicks_10 (tgt := 23) (by decide) (fun cy3 => ?_) (fun cy3 => ?_)
  · replace hF := zh_t cy3 hF
    exact z_M_ifTicks_23 hm  hF
  · replace hF := zh_f cy3 hF
    refine z_iload_n d_M_ifTicks_13 2 rfl rfl ?_
    refine z_if_lt d_M_ifTicks_14 (tgt := 23) (by decide) (fun cy4 => ?_) (fun cy4 => ?_)
    · replace hF := zh_t cy4 hF
      exact z_M_ifTicks_23 hm  hF
    · replace hF := zh_f cy4 hF
      refine z_iload_n d_M_ifTicks_17 2 rfl rfl ?_
      refine z_bipush d_M_ifTicks_18 (v := 7) (by decide) ?_
      refine z_icmp_le d_M_ifTicks_20 (tgt := 25) (by decide) (fun cy5 => ?_) (fun cy5 => ?_)
      · replace hF := zh_t cy5 hF
        refine z_aload_n d_M_ifTicks_25 0 rfl rfl ?_
        obtain ⟨ty6, hty6, hF⟩ := zh_bind hF
        refine z_callV d_M_ifTicks_26 (c_M_goesAside hm hty6) mv_M_goesAside l_M_297 (fun _ _ h => h) (hm 0 _ rfl) rfl rfl ⟨Nat.le_of_ble_eq_true rfl, Nat.le_of_ble_eq_true rfl⟩ ⟨Nat.le_of_ble_eq_true rfl, Nat.le_of_ble_eq_true rfl⟩ rfl (Nat.le_of_ble_eq_true rfl) (fun r μ' ν' hq => ?_)
        obtain ⟨rfl, rfl, rfl⟩ := hq
        show Z _ _ _ _ _ _ _ _ _ _ _ 0 0 _ _ _ [] _ _
        refine z_aload_n d_M_ifTicks_29 0 rfl rfl ?_
        refine z_iload_n d_M_ifTicks_30 1 rfl rfl ?_
        obtain ⟨ty7, hty7, hF⟩ := zh_bind hF
        refine z_callV d_M_ifTicks_31 (c_M_runs hm hty7) mv_M_runs l_M_300 (fun _ _ h => h) (hm 0 _ rfl) rfl rfl ⟨Nat.le_of_ble_eq_true rfl, Nat.le_of_ble_eq_true rfl⟩ ⟨Nat.le_of_ble_eq_true rfl, Nat.le_of_ble_eq_true rfl⟩ rfl (Nat.le_of_ble_eq_true rfl) (fun r μ' ν' hq => ?_)
        obtain ⟨rfl, rfl, rfl⟩ := hq
        show Z _ _ _ _ _ _ _ _ _ _ _ 0 0 _ _ _ [] _ _
        refine z_iload_n d_M_ifTicks_34 2 rfl rfl ?_
        by_cases cy8 : x2 = 0
        · replace hF := zh_t cy8 hF
          refine z_tabIn d_M_ifTicks_35 (tgt := 76) 0 cy8 (by decide) (by decide) (off := 41) (by decide) (by decide) ?_
          refine z_aload_n d_M_ifTicks_76 0 rfl rfl ?_
          refine z_getr d_M_ifTicks_77 (q := (q + 9)) f_M_39 (hm 0 _ rfl) rfl ?_
          refine z_iconst d_M_ifTicks_80 (v := 0) (by decide) ?_
          refine z_lald d_M_ifTicks_81 (hm 9 _ rfl) (zin_vp rfl) ?_
          show Z _ _ _ _ _ _ _ _ _ _ _ _ _ _ _ _ [.long (ty7.2 (q + 9) 0)] _ _
          refine z_aload_n d_M_ifTicks_82 0 rfl rfl ?_
          refine z_getr d_M_ifTicks_83 (q := (q + 10)) f_M_43 (hm 0 _ rfl) rfl ?_
          refine z_iconst d_M_ifTicks_86 (v := 0) (by decide) ?_
          refine z_lald d_M_ifTicks_87 (hm 10 _ rfl) (zin_vp rfl) ?_
          show Z _ _ _ _ _ _ _ _ _ _ _ _ _ _ _ _ [.long (ty7.2 (q + 10) 0), .long (ty7.2 (q + 9) 0)] _ _
          refine z_lsub d_M_ifTicks_88 ?_
          refine z_l2i d_M_ifTicks_89 ?_
          obtain ⟨y15, hy15, hF⟩ := zh_let hF
          refine z_eqi hy15 ?_
          refine z_istore_n d_M_ifTicks_90 rfl (by decide) (L2 := [(3, .int y15), (0, .ref (ad q)), (1, .int x1), (2, .int x2)]) rfl ?_
          refine z_goto d_M_ifTicks_91 (tgt := 166) (by decide) ?_
          refine z_sub [1, 2, 3, 0] (L' := [(0, .ref (ad q)), (1, .int x1), (2, .int x2), (3, .int y15)]) rfl ?_
          exact z_M_ifTicks_166 hm  hF
        · replace hF := zh_f cy8 hF
          by_cases cy9 : x2 = 1
          · replace hF := zh_t cy9 hF
            refine z_tabIn d_M_ifTicks_35 (tgt := 94) 1 cy9 (by decide) (by decide) (off := 59) (by decide) (by decide) ?_
            refine z_aload_n d_M_ifTicks_94 0 rfl rfl ?_
            refine z_getr d_M_ifTicks_95 (q := (q + 9)) f_M_39 (hm 0 _ rfl) rfl ?_
            refine z_iload_n d_M_ifTicks_98 2 rfl rfl ?_
            refine z_iconst d_M_ifTicks_99 (v := 1) (by decide) ?_
            refine z_iadd d_M_ifTicks_100 ?_
            obtain ⟨hy16, hF⟩ := zh_if hF
            refine z_lald d_M_ifTicks_101 (hm 9 _ rfl) (zin_vp hy16) ?_
            refine z_aload_n d_M_ifTicks_102 0 rfl rfl ?_
            refine z_getr d_M_ifTicks_103 (q := (q + 10)) f_M_43 (hm 0 _ rfl) rfl ?_
            refine z_iload_n d_M_ifTicks_106 2 rfl rfl ?_
            refine z_iconst d_M_ifTicks_107 (v := 1) (by decide) ?_
            refine z_iadd d_M_ifTicks_108 ?_
            obtain ⟨hy17, hF⟩ := zh_if hF
            refine z_lald d_M_ifTicks_109 (hm 10 _ rfl) (zin_vp hy17) ?_
            refine z_lsub d_M_ifTicks_110 ?_
            refine z_l2i d_M_ifTicks_111 ?_
            obtain ⟨y18, hy18, hF⟩ := zh_let hF
            refine z_eqi hy18 ?_
            refine z_istore_n d_M_ifTicks_112 rfl (by decide) (L2 := [(3, .int y18), (0, .ref (ad q)), (1, .int x1), (2, .int x2)]) rfl ?_
            refine z_goto d_M_ifTicks_113 (tgt := 166) (by decide) ?_
            refine z_sub [1, 2, 3, 0] (L' := [(0, .ref (ad q)), (1, .int x1), (2, .int x2), (3, .int y18)]) rfl ?_
            exact z_M_ifTicks_166 hm  hF
          · replace hF := zh_f cy9 hF
            by_cases cy10 : x2 = 2
            · replace hF := zh_t cy10 hF
              refine z_tabIn d_M_ifTicks_35 (tgt := 94) 2 cy10 (by decide) (by decide) (off := 59) (by decide) (by decide) ?_
              refine z_aload_n d_M_ifTicks_94 0 rfl rfl ?_
              refine z_getr d_M_ifTicks_95 (q := (q + 9)) f_M_39 (hm 0 _ rfl) rfl ?_
              refine z_iload_n d_M_ifTicks_98 2 rfl rfl ?_
              refine z_iconst d_M_ifTicks_99 (v := 1) (by decide) ?_
              refine z_iadd d_M_ifTicks_100 ?_
              obtain ⟨hy19, hF⟩ := zh_if hF
              refine z_lald d_M_ifTicks_101 (hm 9 _ rfl) (zin_vp hy19) ?_
              refine z_aload_n d_M_ifTicks_102 0 rfl rfl ?_
              refine z_getr d_M_ifTicks_103 (q := (q + 10)) f_M_43 (hm 0 _ rfl) rfl ?_
              refine z_iload_n d_M_ifTicks_106 2 rfl rfl ?_
              refine z_iconst d_M_ifTicks_107 (v := 1) (by decide) ?_
              refine z_iadd d_M_ifTicks_108 ?_
              obtain ⟨hy20, hF⟩ := zh_if hF
              refine z_lald d_M_ifTicks_109 (hm 10 _ rfl) (zin_vp hy20) ?_
              refine z_lsub d_M_ifTicks_110 ?_
              refine z_l2i d_M_ifTicks_111 ?_
              obtain ⟨y21, hy21, hF⟩ := zh_let hF
              refine z_eqi hy21 ?_
              refine z_istore_n d_M_ifTicks_112 rfl (by decide) (L2 := [(3, .int y21), (0, .ref (ad q)), (1, .int x1), (2, .int x2)]) rfl ?_
              refine z_goto d_M_ifTicks_113 (tgt := 166) (by decide) ?_
              refine z_sub [1, 2, 3, 0] (L' := [(0, .ref (ad q)), (1, .int x1), (2, .int x2), (3, .int y21)]) rfl ?_
              exact z_M_ifTicks_166 hm  hF
            · replace hF := zh_f cy10 hF
              by_cases cy11 : x2 = 3
              · replace hF := zh_t cy11 hF
                refine z_tabIn d_M_ifTicks_35 (tgt := 94) 3 cy11 (by decide) (by decide) (off := 59) (by decide) (by decide) ?_
                refine z_aload_n d_M_ifTicks_94 0 rfl rfl ?_
                refine z_getr d_M_ifTicks_95 (q := (q + 9)) f_M_39 (hm 0 _ rfl) rfl ?_
                refine z_iload_n d_M_ifTicks_98 2 rfl rfl ?_
                refine z_iconst d_M_ifTicks_99 (v := 1) (by decide) ?_
                refine z_iadd d_M_ifTicks_100 ?_
                obtain ⟨hy22, hF⟩ := zh_if hF
                refine z_lald d_M_ifTicks_101 (hm 9 _ rfl) (zin_vp hy22) ?_
                refine z_aload_n d_M_ifTicks_102 0 rfl rfl ?_
                refine z_getr d_M_ifTicks_103 (q := (q + 10)) f_M_43 (hm 0 _ rfl) rfl ?_
                refine z_iload_n d_M_ifTicks_106 2 rfl rfl ?_
                refine z_iconst d_M_ifTicks_107 (v := 1) (by decide) ?_
                refine z_iadd d_M_ifTicks_108 ?_
                obtain ⟨hy23, hF⟩ := zh_if hF
                refine z_lald d_M_ifTicks_109 (hm 10 _ rfl) (zin_vp hy23) ?_
                refine z_lsub d_M_ifTicks_110 ?_
                refine z_l2i d_M_ifTicks_111 ?_
                obtain ⟨y24, hy24, hF⟩ := zh_let hF
                refine z_eqi hy24 ?_
                refine z_istore_n d_M_ifTicks_112 rfl (by decide) (L2 := [(3, .int y24), (0, .ref (ad q)), (1, .int x1), (2, .int x2)]) rfl ?_
                refine z_goto d_M_ifTicks_113 (tgt := 166) (by decide) ?_
                refine z_sub [1, 2, 3, 0] (L' := [(0, .ref (ad q)), (1, .int x1), (2, .int x2), (3, .int y24)]) rfl ?_
                exact z_M_ifTicks_166 hm  hF
              · replace hF := zh_f cy11 hF
                by_cases cy12 : x2 = 4
                · replace hF := zh_t cy12 hF
                  refine z_tabIn d_M_ifTicks_35 (tgt := 116) 4 cy12 (by decide) (by decide) (off := 81) (by decide) (by decide) ?_
                  refine z_aload_n d_M_ifTicks_116 0 rfl rfl ?_
                  refine z_getr d_M_ifTicks_117 (q := (q + 7)) f_M_33 (hm 0 _ rfl) rfl ?_
                  refine z_bipush d_M_ifTicks_120 (v := 33) (by decide) ?_
                  refine z_iald d_M_ifTicks_122 (hm 7 _ rfl) (zin_vp rfl) ?_
                  show Z _ _ _ _ _ _ _ _ _ _ _ _ _ _ _ _ [.int (ty7.1 (q + 7) 33)] _ _
                  obtain ⟨y25, hy25, hF⟩ := zh_let hF
                  refine z_eqi hy25 ?_
                  refine z_istore_n d_M_ifTicks_123 rfl (by decide) (L2 := [(3, .int y25), (0, .ref (ad q)), (1, .int x1), (2, .int x2)]) rfl ?_
                  refine z_goto d_M_ifTicks_124 (tgt := 166) (by decide) ?_
                  refine z_sub [1, 2, 3, 0] (L' := [(0, .ref (ad q)), (1, .int x1), (2, .int x2), (3, .int y25)]) rfl ?_
                  exact z_M_ifTicks_166 hm  hF
                · replace hF := zh_f cy12 hF
                  by_cases cy13 : x2 = 5
                  · replace hF := zh_t cy13 hF
                    refine z_tabIn d_M_ifTicks_35 (tgt := 127) 5 cy13 (by decide) (by decide) (off := 92) (by decide) (by decide) ?_
                    refine z_aload_n d_M_ifTicks_127 0 rfl rfl ?_
                    refine z_getr d_M_ifTicks_128 (q := (q + 7)) f_M_33 (hm 0 _ rfl) rfl ?_
                    refine z_bipush d_M_ifTicks_131 (v := 34) (by decide) ?_
                    refine z_iald d_M_ifTicks_133 (hm 7 _ rfl) (zin_vp rfl) ?_
                    show Z _ _ _ _ _ _ _ _ _ _ _ _ _ _ _ _ [.int (ty7.1 (q + 7) 34)] _ _
                    obtain ⟨y26, hy26, hF⟩ := zh_let hF
                    refine z_eqi hy26 ?_
                    refine z_istore_n d_M_ifTicks_134 rfl (by decide) (L2 := [(3, .int y26), (0, .ref (ad q)), (1, .int x1), (2, .int x2)]) rfl ?_
                    refine z_goto d_M_ifTicks_135 (tgt := 166) (by decide) ?_
                    refine z_sub [1, 2, 3, 0] (L' := [(0, .ref (ad q)), (1, .int x1), (2, .int x2), (3, .int y26)]) rfl ?_
                    exact z_M_ifTicks_166 hm  hF
                  · replace hF := zh_f cy13 hF
                    by_cases cy14 : x2 = 6
                    · replace hF := zh_t cy14 hF
                      refine z_tabIn d_M_ifTicks_35 (tgt := 138) 6 cy14 (by decide) (by decide) (off := 103) (by decide) (by decide) ?_
                      refine z_aload_n d_M_ifTicks_138 0 rfl rfl ?_
                      refine z_getr d_M_ifTicks_139 (q := (q + 9)) f_M_39 (hm 0 _ rfl) rfl ?_
                      refine z_bipush d_M_ifTicks_142 (v := 6) (by decide) ?_
                      refine z_lald d_M_ifTicks_144 (hm 9 _ rfl) (zin_vp rfl) ?_
                      show Z _ _ _ _ _ _ _ _ _ _ _ _ _ _ _ _ [.long (ty7.2 (q + 9) 6)] _ _
                      refine z_aload_n d_M_ifTicks_145 0 rfl rfl ?_
                      refine z_getr d_M_ifTicks_146 (q := (q + 10)) f_M_43 (hm 0 _ rfl) rfl ?_
                      refine z_bipush d_M_ifTicks_149 (v := 6) (by decide) ?_
                      refine z_lald d_M_ifTicks_151 (hm 10 _ rfl) (zin_vp rfl) ?_
                      show Z _ _ _ _ _ _ _ _ _ _ _ _ _ _ _ _ [.long (ty7.2 (q + 10) 6), .long (ty7.2 (q + 9) 6)] _ _
                      refine z_lsub d_M_ifTicks_152 ?_
                      refine z_l2i d_M_ifTicks_153 ?_
                      obtain ⟨y27, hy27, hF⟩ := zh_let hF
                      refine z_eqi hy27 ?_
                      refine z_istore_n d_M_ifTicks_154 rfl (by decide) (L2 := [(3, .int y27), (0, .ref (ad q)), (1, .int x1), (2, .int x2)]) rfl ?_
                      refine z_goto d_M_ifTicks_155 (tgt := 166) (by decide) ?_
                      refine z_sub [1, 2, 3, 0] (L' := [(0, .ref (ad q)), (1, .int x1), (2, .int x2), (3, .int y27)]) rfl ?_
                      exact z_M_ifTicks_166 hm  hF
                    · replace hF := zh_f cy14 hF
                      refine z_tabOut d_M_ifTicks_35 (tgt := 158) [0, 1, 2, 3, 4, 5, 6] (List.forall_mem_cons.mpr ⟨cy8, List.forall_mem_cons.mpr ⟨cy9, List.forall_mem_cons.mpr ⟨cy10, List.forall_mem_cons.mpr ⟨cy11, List.forall_mem_cons.mpr ⟨cy12, List.forall_mem_cons.mpr ⟨cy13, List.forall_mem_cons.mpr ⟨cy14, fun _ h => absurd h List.not_mem_nil⟩⟩⟩⟩⟩⟩⟩) (by decide) (by decide) ?_
                      refine z_aload_n d_M_ifTicks_158 0 rfl rfl ?_
                      refine z_getr d_M_ifTicks_159 (q := (q + 7)) f_M_33 (hm 0 _ rfl) rfl ?_
                      refine z_bipush d_M_ifTicks_162 (v := 26) (by decide) ?_
                      refine z_iald d_M_ifTicks_164 (hm 7 _ rfl) (zin_vp rfl) ?_
                      show Z _ _ _ _ _ _ _ _ _ _ _ _ _ _ _ _ [.int (ty7.1 (q + 7) 26)] _ _
                      obtain ⟨y28, hy28, hF⟩ := zh_let hF
                      refine z_eqi hy28 ?_
                      refine z_istore_n d_M_ifTicks_165 rfl (by decide) (L2 := [(3, .int y28), (0, .ref (ad q)), (1, .int x1), (2, .int x2)]) rfl ?_
                      refine z_sub [1, 2, 3, 0] (L' := [(0, .ref (ad q)), (1, .int x1), (2, .int x2), (3, .int y28)]) rfl ?_
                      exact z_M_ifTicks_166 hm  hF
      · replace hF := zh_f cy5 hF
        exact z_M_ifTicks_23 hm  hF
def E_M_ifTicks (q : Nat) (x1 : Int32) (x2 : Int32) (μ : zI) (ν : zJ) : Option (Int32 × zI × zJ) := e_M_ifTicks_0 q x1 x2 μ ν
theorem c_M_ifTicks {l : Launch} {D : va_G} {dA : Nat → ClassId} {ad : Nat → Nat} {sh : List zSE} {μ : zI} {ν : zJ} {q : Nat} {x1 : Int32} {x2 : Int32} (hm : zMo sh q) {out : (Int32 × zI × zJ)} (hE : E_M_ifTicks q x1 x2 μ ν = some out) : zC l D dA ad sh m_M_ifTicks 8 0 0 [.ref (ad q), .int x1, .int x2] μ ν (zOi out) :=
  zC.of (by decide) (Nat.le_of_ble_eq_true rfl) (z_M_ifTicks_0 hm hE)
def e_M_firstBy_125 (q : Nat) (r20 : Int32 → Int32 → Int32 → Int32 → zI → zJ → Option (Int32 × zI × zJ)) (x1 : Int32) (x2 : Int32) (x3 : Int32) (x4 : Int32) (x5 : Int32) (s0 : Int32) (μ : zI) (ν : zJ) : Option (Int32 × zI × zJ) := r20 x1 x2 s0 (x4 + 1) μ ν
theorem z_M_firstBy_125 {l : Launch} {D : va_G} {dA : Nat → ClassId} {ad : Nat → Nat} {sh : List zSE}  {q : Nat} (hm : zMo sh q) {r20 : Int32 → Int32 → Int32 → Int32 → zI → zJ → Option (Int32 × zI × zJ)} {x1 : Int32} {x2 : Int32} {x3 : Int32} {x4 : Int32} {x5 : Int32} {s0 : Int32} {μ : zI} {ν : zJ} {out : (Int32 × zI × zJ)} (hr20 : ∀ (x1 : Int32) (x2 : Int32) (x3 : Int32) (x4 : Int32) (μ : zI) (ν : zJ), r20 x1 x2 x3 x4 μ ν = some out → Z l D dA ad sh m_M_firstBy (zR 7 0 0) (zS ad) (zOi out) 0 0 0 0 [] 20 [(0, .ref (ad q)), (1, .int x1), (2, .int x2), (3, .int x3), (4, .int x4)] [] μ ν) (hF : e_M_firstBy_125 q r20 x1 x2 x3 x4 x5 s0 μ ν = some out) : Z l D dA ad sh m_M_firstBy (zR 7 0 0) (zS ad) (zOi out) 0 0 0 0 [] 125 [(0, .ref (ad q)), (1, .int x1), (2, .int x2), (3, .int x3), (4, .int x4), (5, .int x5)] [.int s0] μ ν := by
  unfold e_M_firstBy_125 at hF
  refine z_istore_n d_M_firstBy_125 rfl (by decide) (L2 := [(3, .int s0), (0, .ref (ad q)), (1, .int x1), (2, .int x2), (4, .int x4), (5, .int x5)]) rfl ?_
  refine z_iinc d_M_firstBy_126 (k := 4) (v := (x4 + 1)) rfl rfl (by decide) (L2 := [(4, .int (x4 + 1)), (3, .int s0), (0, .ref (ad q)), (1, .int x1), (2, .int x2), (5, .int x5)]) rfl ?_
  refine z_goto d_M_firstBy_129 (tgt := 20) (by decide) ?_
  refine z_sub [2, 3, 4, 1, 0] (L' := [(0, .ref (ad q)), (1, .int x1), (2, .int x2), (3, .int s0), (4, .int (x4 + 1))]) rfl ?_
  exact hr20 _ _ _ _ _ _ hF
def e_M_firstBy_111 (q : Nat) (r20 : Int32 → Int32 → Int32 → Int32 → zI → zJ → Option (Int32 × zI × zJ)) (x1 : Int32) (x2 : Int32) (x3 : Int32) (x4 : Int32) (s0 : Int32) (μ : zI) (ν : zJ) : Option (Int32 × zI × zJ) := (if s0 = 0 then e_M_firstBy_125 q r20 x1 x2 x3 x4 s0 (-2) μ ν else e_M_firstBy_125 q r20 x1 x2 x3 x4 s0 x4 μ ν)
theorem z_M_firstBy_111 {l : Launch} {D : va_G} {dA : Nat → ClassId} {ad : Nat → Nat} {sh : List zSE}  {q : Nat} (hm : zMo sh q) {r20 : Int32 → Int32 → Int32 → Int32 → zI → zJ → Option (Int32 × zI × zJ)} {x1 : Int32} {x2 : Int32} {x3 : Int32} {x4 : Int32} {s0 : Int32} {μ : zI} {ν : zJ} {out : (Int32 × zI × zJ)} (hr20 : ∀ (x1 : Int32) (x2 : Int32) (x3 : Int32) (x4 : Int32) (μ : zI) (ν : zJ), r20 x1 x2 x3 x4 μ ν = some out → Z l D dA ad sh m_M_firstBy (zR 7 0 0) (zS ad) (zOi out) 0 0 0 0 [] 20 [(0, .ref (ad q)), (1, .int x1), (2, .int x2), (3, .int x3), (4, .int x4)] [] μ ν) (hF : e_M_firstBy_111 q r20 x1 x2 x3 x4 s0 μ ν = some out) : Z l D dA ad sh m_M_firstBy (zR 7 0 0) (zS ad) (zOi out) 0 0 0 0 [] 111 [(0, .ref (ad q)), (1, .int x1), (2, .int x2), (3, .int x3), (4, .int x4)] [.int s0] μ ν := by
  unfold e_M_firstBy_111 at hF
  refine z_istore d_M_firstBy_111 (by decide) (L2 := [(5, .int s0), (0, .ref (ad q)), (1, .int x1), (2, .int x2), (3, .int x3), (4, .int x4)]) rfl ?_
  refine z_iload d_M_firstBy_113 0 rfl ?_
  refine z_if_eq d_M_firstBy_115 (tgt := 123) (by decide) (fun cy1 => ?_) (fun cy1 => ?_)
  · replace hF := zh_t cy1 hF
    refine z_bipush d_M_firstBy_123 (v := (-2)) (by decide) ?_
    refine z_sub [1, 2, 3, 4, 5, 0] (L' := [(0, .ref (ad q)), (1, .int x1), (2, .int x2), (3, .int x3), (4, .int x4), (5, .int s0)]) rfl ?_
    exact z_M_firstBy_125 hm hr20 hF
  · replace hF := zh_f cy1 hF
    refine z_iload d_M_firstBy_118 5 rfl ?_
    refine z_goto d_M_firstBy_120 (tgt := 125) (by decide) ?_
    refine z_sub [1, 2, 3, 4, 5, 0] (L' := [(0, .ref (ad q)), (1, .int x1), (2, .int x2), (3, .int x3), (4, .int x4), (5, .int s0)]) rfl ?_
    exact z_M_firstBy_125 hm hr20 hF
def e_M_firstBy_132 (q : Nat)  (x1 : Int32) (x2 : Int32) (x3 : Int32) (x4 : Int32) (μ : zI) (ν : zJ) : Option (Int32 × zI × zJ) := Option.bind (E_M_comesBack q μ ν) fun ty1 => some (x3, ty1.1, ty1.2)
theorem z_M_firstBy_132 {l : Launch} {D : va_G} {dA : Nat → ClassId} {ad : Nat → Nat} {sh : List zSE}  {q : Nat} (hm : zMo sh q)  {x1 : Int32} {x2 : Int32} {x3 : Int32} {x4 : Int32} {μ : zI} {ν : zJ} {out : (Int32 × zI × zJ)} (hF : e_M_firstBy_132 q  x1 x2 x3 x4 μ ν = some out) : Z l D dA ad sh m_M_firstBy (zR 7 0 0) (zS ad) (zOi out) 0 0 0 0 [] 132 [(0, .ref (ad q)), (1, .int x1), (2, .int x2), (3, .int x3), (4, .int x4)] [] μ ν := by
  unfold e_M_firstBy_132 at hF
  refine z_aload_n d_M_firstBy_132 0 rfl rfl ?_
  obtain ⟨ty1, hty1, hF⟩ := zh_bind hF
  refine z_callV d_M_firstBy_133 (c_M_comesBack hm hty1) mv_M_comesBack l_M_303 (fun _ _ h => h) (hm 0 _ rfl) rfl rfl ⟨Nat.le_of_ble_eq_true rfl, Nat.le_of_ble_eq_true rfl⟩ ⟨Nat.le_of_ble_eq_true rfl, Nat.le_of_ble_eq_true rfl⟩ rfl (Nat.le_of_ble_eq_true rfl) (fun r μ' ν' hq => ?_)
  obtain ⟨rfl, rfl, rfl⟩ := hq
  show Z _ _ _ _ _ _ _ _ _ _ _ 0 0 _ _ _ [] _ _
  refine z_iload_n d_M_firstBy_136 3 rfl rfl ?_
  cases hF
  exact z_ireturn d_M_firstBy_137 rfl rfl ⟨rfl, rfl, rfl⟩
def f_M_firstBy_20 (q : Nat)  : Nat → Int32 → Int32 → Int32 → Int32 → zI → zJ → Option (Int32 × zI × zJ)
  | 0, _, _, _, _, _, _ => none
  | n + 1, x1, x2, x3, x4, μ, ν => (if x1 < x4 then e_M_firstBy_132 q x1 x2 x3 x4 μ ν else (if x3 = (-2) then Option.bind (E_M_ticksOnce q μ ν) fun ty3 => (if x2 = 0 then (if (lg_cmp (ty3.2 (q + 9) 6) (ty3.2 (q + 10) 6)) ≤ 0 then e_M_firstBy_111 q (f_M_firstBy_20 q n) x1 x2 x3 x4 0 ty3.1 ty3.2 else e_M_firstBy_111 q (f_M_firstBy_20 q n) x1 x2 x3 x4 1 ty3.1 ty3.2) else (if x2 = 1 then (if (ty3.1 (q + 7) 34) = 2 then e_M_firstBy_111 q (f_M_firstBy_20 q n) x1 x2 x3 x4 1 ty3.1 ty3.2 else e_M_firstBy_111 q (f_M_firstBy_20 q n) x1 x2 x3 x4 0 ty3.1 ty3.2) else (if (ty3.1 (q + 7) 33) = (ty3.1 (q + 7) 0) then e_M_firstBy_111 q (f_M_firstBy_20 q n) x1 x2 x3 x4 1 ty3.1 ty3.2 else e_M_firstBy_111 q (f_M_firstBy_20 q n) x1 x2 x3 x4 0 ty3.1 ty3.2))) else e_M_firstBy_132 q x1 x2 x3 x4 μ ν))
theorem z_M_firstBy_20 {l : Launch} {D : va_G} {dA : Nat → ClassId} {ad : Nat → Nat} {sh : List zSE}  {q : Nat} (hm : zMo sh q)  {out : (Int32 × zI × zJ)} : ∀ (n : Nat) (x1 : Int32) (x2 : Int32) (x3 : Int32) (x4 : Int32) (μ : zI) (ν : zJ), f_M_firstBy_20 q  n x1 x2 x3 x4 μ ν = some out → Z l D dA ad sh m_M_firstBy (zR 7 0 0) (zS ad) (zOi out) 0 0 0 0 [] 20 [(0, .ref (ad q)), (1, .int x1), (2, .int x2), (3, .int x3), (4, .int x4)] [] μ ν := by
  intro n
  induction n with
  | zero => intro x1 x2 x3 x4 μ ν hF; cases hF
  | succ n ih =>
    intro x1 x2 x3 x4 μ ν hF
    dsimp only [f_M_firstBy_20] at hF
    refine z_iload d_M_firstBy_20 4 rfl ?_
    refine z_iload_n d_M_firstBy_22 1 rfl rfl ?_
    refine z_icmp_gt d_M_firstBy_23 (tgt := 132) (by decide) (fun cy1 => ?_) (fun cy1 => ?_)
    · replace hF := zh_t cy1 hF
      exact z_M_firstBy_132 hm  hF
    · replace hF := zh_f cy1 hF
      refine z_iload_n d_M_firstBy_26 3 rfl rfl ?_
      refine z_bipush d_M_firstBy_27 (v := (-2)) (by decide) ?_
      refine z_icmp_ne d_M_firstBy_29 (tgt := 132) (by decide) (fun cy2 => ?_) (fun cy2 => ?_)
      · replace hF := zh_f cy2 hF
        exact z_M_firstBy_132 hm  hF
      · replace hF := zh_t cy2 hF
        refine z_aload_n d_M_firstBy_32 0 rfl rfl ?_
        obtain ⟨ty3, hty3, hF⟩ := zh_bind hF
        refine z_callV d_M_firstBy_33 (c_M_ticksOnce hm hty3) mv_M_ticksOnce l_M_262 (fun _ _ h => h) (hm 0 _ rfl) rfl rfl ⟨Nat.le_of_ble_eq_true rfl, Nat.le_of_ble_eq_true rfl⟩ ⟨Nat.le_of_ble_eq_true rfl, Nat.le_of_ble_eq_true rfl⟩ rfl (Nat.le_of_ble_eq_true rfl) (fun r μ' ν' hq => ?_)
        obtain ⟨rfl, rfl, rfl⟩ := hq
        show Z _ _ _ _ _ _ _ _ _ _ _ 0 0 _ _ _ [] _ _
        refine z_iload_n d_M_firstBy_36 2 rfl rfl ?_
        refine z_if_ne d_M_firstBy_37 (tgt := 66) (by decide) (fun cy4 => ?_) (fun cy4 => ?_)
        · replace hF := zh_f cy4 hF
          refine z_iload_n d_M_firstBy_66 2 rfl rfl ?_
          refine z_iconst d_M_firstBy_67 (v := 1) (by decide) ?_
          refine z_icmp_ne d_M_firstBy_68 (tgt := 90) (by decide) (fun cy5 => ?_) (fun cy5 => ?_)
          · replace hF := zh_f cy5 hF
            refine z_aload_n d_M_firstBy_90 0 rfl rfl ?_
            refine z_getr d_M_firstBy_91 (q := (q + 7)) f_M_33 (hm 0 _ rfl) rfl ?_
            refine z_bipush d_M_firstBy_94 (v := 33) (by decide) ?_
            refine z_iald d_M_firstBy_96 (hm 7 _ rfl) (zin_vp rfl) ?_
            show Z _ _ _ _ _ _ _ _ _ _ _ _ _ _ _ _ [.int (ty3.1 (q + 7) 33)] _ _
            refine z_aload_n d_M_firstBy_97 0 rfl rfl ?_
            refine z_getr d_M_firstBy_98 (q := (q + 7)) f_M_33 (hm 0 _ rfl) rfl ?_
            refine z_iconst d_M_firstBy_101 (v := 0) (by decide) ?_
            refine z_iald d_M_firstBy_102 (hm 7 _ rfl) (zin_vp rfl) ?_
            show Z _ _ _ _ _ _ _ _ _ _ _ _ _ _ _ _ [.int (ty3.1 (q + 7) 0), .int (ty3.1 (q + 7) 33)] _ _
            refine z_icmp_ne d_M_firstBy_103 (tgt := 110) (by decide) (fun cy6 => ?_) (fun cy6 => ?_)
            · replace hF := zh_f cy6 hF
              refine z_iconst d_M_firstBy_110 (v := 0) (by decide) ?_
              exact z_M_firstBy_111 hm (fun a0 a1 a2 a3 a4 a5 => ih a0 a1 a2 a3 a4 a5) hF
            · replace hF := zh_t cy6 hF
              refine z_iconst d_M_firstBy_106 (v := 1) (by decide) ?_
              refine z_goto d_M_firstBy_107 (tgt := 111) (by decide) ?_
              exact z_M_firstBy_111 hm (fun a0 a1 a2 a3 a4 a5 => ih a0 a1 a2 a3 a4 a5) hF
          · replace hF := zh_t cy5 hF
            refine z_aload_n d_M_firstBy_71 0 rfl rfl ?_
            refine z_getr d_M_firstBy_72 (q := (q + 7)) f_M_33 (hm 0 _ rfl) rfl ?_
            refine z_bipush d_M_firstBy_75 (v := 34) (by decide) ?_
            refine z_iald d_M_firstBy_77 (hm 7 _ rfl) (zin_vp rfl) ?_
            show Z _ _ _ _ _ _ _ _ _ _ _ _ _ _ _ _ [.int (ty3.1 (q + 7) 34)] _ _
            refine z_iconst d_M_firstBy_78 (v := 2) (by decide) ?_
            refine z_icmp_ne d_M_firstBy_79 (tgt := 86) (by decide) (fun cy7 => ?_) (fun cy7 => ?_)
            · replace hF := zh_f cy7 hF
              refine z_iconst d_M_firstBy_86 (v := 0) (by decide) ?_
              refine z_goto d_M_firstBy_87 (tgt := 111) (by decide) ?_
              exact z_M_firstBy_111 hm (fun a0 a1 a2 a3 a4 a5 => ih a0 a1 a2 a3 a4 a5) hF
            · replace hF := zh_t cy7 hF
              refine z_iconst d_M_firstBy_82 (v := 1) (by decide) ?_
              refine z_goto d_M_firstBy_83 (tgt := 111) (by decide) ?_
              exact z_M_firstBy_111 hm (fun a0 a1 a2 a3 a4 a5 => ih a0 a1 a2 a3 a4 a5) hF
        · replace hF := zh_t cy4 hF
          refine z_aload_n d_M_firstBy_40 0 rfl rfl ?_
          refine z_getr d_M_firstBy_41 (q := (q + 9)) f_M_39 (hm 0 _ rfl) rfl ?_
          refine z_bipush d_M_firstBy_44 (v := 6) (by decide) ?_
          refine z_lald d_M_firstBy_46 (hm 9 _ rfl) (zin_vp rfl) ?_
          show Z _ _ _ _ _ _ _ _ _ _ _ _ _ _ _ _ [.long (ty3.2 (q + 9) 6)] _ _
          refine z_aload_n d_M_firstBy_47 0 rfl rfl ?_
          refine z_getr d_M_firstBy_48 (q := (q + 10)) f_M_43 (hm 0 _ rfl) rfl ?_
          refine z_bipush d_M_firstBy_51 (v := 6) (by decide) ?_
          refine z_lald d_M_firstBy_53 (hm 10 _ rfl) (zin_vp rfl) ?_
          show Z _ _ _ _ _ _ _ _ _ _ _ _ _ _ _ _ [.long (ty3.2 (q + 10) 6), .long (ty3.2 (q + 9) 6)] _ _
          refine z_lcmp d_M_firstBy_54 ?_
          refine z_if_le d_M_firstBy_55 (tgt := 62) (by decide) (fun cy8 => ?_) (fun cy8 => ?_)
          · replace hF := zh_t cy8 hF
            refine z_iconst d_M_firstBy_62 (v := 0) (by decide) ?_
            refine z_goto d_M_firstBy_63 (tgt := 111) (by decide) ?_
            exact z_M_firstBy_111 hm (fun a0 a1 a2 a3 a4 a5 => ih a0 a1 a2 a3 a4 a5) hF
          · replace hF := zh_f cy8 hF
            refine z_iconst d_M_firstBy_58 (v := 1) (by decide) ?_
            refine z_goto d_M_firstBy_59 (tgt := 111) (by decide) ?_
            exact z_M_firstBy_111 hm (fun a0 a1 a2 a3 a4 a5 => ih a0 a1 a2 a3 a4 a5) hF
def e_M_firstBy_0 (q : Nat)  (x1 : Int32) (x2 : Int32) (μ : zI) (ν : zJ) : Option (Int32 × zI × zJ) := Option.bind (E_M_canTry q x1 μ ν) fun ty1 => (if ty1.1 = 0 then some ((-1), ty1.2.1, ty1.2.2) else Option.bind (E_M_goesAside q ty1.2.1 ty1.2.2) fun ty3 => f_M_firstBy_20 q zFuel x1 x2 (-2) 1 ty3.1 ty3.2)
theorem z_M_firstBy_0 {l : Launch} {D : va_G} {dA : Nat → ClassId} {ad : Nat → Nat} {sh : List zSE}  {q : Nat} (hm : zMo sh q)  {x1 : Int32} {x2 : Int32} {μ : zI} {ν : zJ} {out : (Int32 × zI × zJ)} (hF : e_M_firstBy_0 q  x1 x2 μ ν = some out) : Z l D dA ad sh m_M_firstBy (zR 7 0 0) (zS ad) (zOi out) 0 0 0 0 [] 0 [(0, .ref (ad q)), (1, .int x1), (2, .int x2)] [] μ ν := by
  unfold e_M_firstBy_0 at hF
  refine z_aload_n d_M_firstBy_0 0 rfl rfl ?_
  refine z_iload_n d_M_firstBy_1 1 rfl rfl ?_
  obtain ⟨ty1, hty1, hF⟩ := zh_bind hF
  refine z_callV d_M_firstBy_2 (c_M_canTry hm hty1) mv_M_canTry l_M_294 (fun _ _ h => h) (hm 0 _ rfl) rfl rfl ⟨Nat.le_of_ble_eq_true rfl, Nat.le_of_ble_eq_true rfl⟩ ⟨Nat.le_of_ble_eq_true rfl, Nat.le_of_ble_eq_true rfl⟩ rfl (Nat.le_of_ble_eq_true rfl) (fun r μ' ν' hq => ?_)
  obtain ⟨rfl, rfl, rfl⟩ := hq
  show Z _ _ _ _ _ _ _ _ _ _ _ 0 0 _ _ _ [.int ty1.1] _ _
  refine z_if_ne d_M_firstBy_5 (tgt := 10) (by decide) (fun cy2 => ?_) (fun cy2 => ?_)
  · replace hF := zh_f cy2 hF
    refine z_aload_n d_M_firstBy_10 0 rfl rfl ?_
    obtain ⟨ty3, hty3, hF⟩ := zh_bind hF
    refine z_callV d_M_firstBy_11 (c_M_goesAside hm hty3) mv_M_goesAside l_M_297 (fun _ _ h => h) (hm 0 _ rfl) rfl rfl ⟨Nat.le_of_ble_eq_true rfl, Nat.le_of_ble_eq_true rfl⟩ ⟨Nat.le_of_ble_eq_true rfl, Nat.le_of_ble_eq_true rfl⟩ rfl (Nat.le_of_ble_eq_true rfl) (fun r μ' ν' hq => ?_)
    obtain ⟨rfl, rfl, rfl⟩ := hq
    show Z _ _ _ _ _ _ _ _ _ _ _ 0 0 _ _ _ [] _ _
    refine z_bipush d_M_firstBy_14 (v := (-2)) (by decide) ?_
    refine z_istore_n d_M_firstBy_16 rfl (by decide) (L2 := [(3, .int (-2)), (0, .ref (ad q)), (1, .int x1), (2, .int x2)]) rfl ?_
    refine z_iconst d_M_firstBy_17 (v := 1) (by decide) ?_
    refine z_istore d_M_firstBy_18 (by decide) (L2 := [(4, .int 1), (3, .int (-2)), (0, .ref (ad q)), (1, .int x1), (2, .int x2)]) rfl ?_
    refine z_sub [2, 3, 4, 1, 0] (L' := [(0, .ref (ad q)), (1, .int x1), (2, .int x2), (3, .int (-2)), (4, .int 1)]) rfl ?_
    exact z_M_firstBy_20 hm  zFuel _ _ _ _ _ _ hF
  · replace hF := zh_t cy2 hF
    refine z_iconst d_M_firstBy_8 (v := (-1)) (by decide) ?_
    cases hF
    exact z_ireturn d_M_firstBy_9 rfl rfl ⟨rfl, rfl, rfl⟩
def E_M_firstBy (q : Nat) (x1 : Int32) (x2 : Int32) (μ : zI) (ν : zJ) : Option (Int32 × zI × zJ) := e_M_firstBy_0 q x1 x2 μ ν
theorem c_M_firstBy {l : Launch} {D : va_G} {dA : Nat → ClassId} {ad : Nat → Nat} {sh : List zSE} {μ : zI} {ν : zJ} {q : Nat} {x1 : Int32} {x2 : Int32} (hm : zMo sh q) {out : (Int32 × zI × zJ)} (hE : E_M_firstBy q x1 x2 μ ν = some out) : zC l D dA ad sh m_M_firstBy 7 0 0 [.ref (ad q), .int x1, .int x2] μ ν (zOi out) :=
  zC.of (by decide) (Nat.le_of_ble_eq_true rfl) (z_M_firstBy_0 hm hE)
def e_M_firstSeen_0 (q : Nat)  (x1 : Int32) (μ : zI) (ν : zJ) : Option (Int32 × zI × zJ) := zlet (zu μ q 0 0) fun μy1 => Option.bind (E_M_firstBy q x1 0 μy1 ν) fun ty2 => some (ty2.1, ty2.2.1, ty2.2.2)
theorem z_M_firstSeen_0 {l : Launch} {D : va_G} {dA : Nat → ClassId} {ad : Nat → Nat} {sh : List zSE}  {q : Nat} (hm : zMo sh q)  {x1 : Int32} {μ : zI} {ν : zJ} {out : (Int32 × zI × zJ)} (hF : e_M_firstSeen_0 q  x1 μ ν = some out) : Z l D dA ad sh m_M_firstSeen (zR 8 0 0) (zS ad) (zOi out) 0 0 0 0 [] 0 [(0, .ref (ad q)), (1, .int x1)] [] μ ν := by
  unfold e_M_firstSeen_0 at hF
  refine z_aload_n d_M_firstSeen_0 0 rfl rfl ?_
  refine z_iconst d_M_firstSeen_1 (v := 0) (by decide) ?_
  refine z_put d_M_firstSeen_2 f_M_55 (hm 0 _ rfl) rfl (CL_fin _ _ (fun q hq => by cases hq; rfl)) rfl rfl ?_
  obtain ⟨μy1, hy1, hF⟩ := zh_let hF
  refine z_eqm hy1 ?_
  refine z_aload_n d_M_firstSeen_5 0 rfl rfl ?_
  refine z_iload_n d_M_firstSeen_6 1 rfl rfl ?_
  refine z_iconst d_M_firstSeen_7 (v := 0) (by decide) ?_
  obtain ⟨ty2, hty2, hF⟩ := zh_bind hF
  refine z_callV d_M_firstSeen_8 (c_M_firstBy hm hty2) mv_M_firstBy l_M_306 (fun _ _ h => h) (hm 0 _ rfl) rfl rfl ⟨Nat.le_of_ble_eq_true rfl, Nat.le_of_ble_eq_true rfl⟩ ⟨Nat.le_of_ble_eq_true rfl, Nat.le_of_ble_eq_true rfl⟩ rfl (Nat.le_of_ble_eq_true rfl) (fun r μ' ν' hq => ?_)
  obtain ⟨rfl, rfl, rfl⟩ := hq
  show Z _ _ _ _ _ _ _ _ _ _ _ 0 0 _ _ _ [.int ty2.1] _ _
  cases hF
  exact z_ireturn d_M_firstSeen_11 rfl rfl ⟨rfl, rfl, rfl⟩
def E_M_firstSeen (q : Nat) (x1 : Int32) (μ : zI) (ν : zJ) : Option (Int32 × zI × zJ) := e_M_firstSeen_0 q x1 μ ν
theorem c_M_firstSeen {l : Launch} {D : va_G} {dA : Nat → ClassId} {ad : Nat → Nat} {sh : List zSE} {μ : zI} {ν : zJ} {q : Nat} {x1 : Int32} (hm : zMo sh q) {out : (Int32 × zI × zJ)} (hE : E_M_firstSeen q x1 μ ν = some out) : zC l D dA ad sh m_M_firstSeen 8 0 0 [.ref (ad q), .int x1] μ ν (zOi out) :=
  zC.of (by decide) (Nat.le_of_ble_eq_true rfl) (z_M_firstSeen_0 hm hE)
def e_M_firstFloat_0 (q : Nat)  (x1 : Int32) (μ : zI) (ν : zJ) : Option (Int32 × zI × zJ) := zlet (zu μ q 0 0) fun μy1 => Option.bind (E_M_firstBy q x1 1 μy1 ν) fun ty2 => some (ty2.1, ty2.2.1, ty2.2.2)
theorem z_M_firstFloat_0 {l : Launch} {D : va_G} {dA : Nat → ClassId} {ad : Nat → Nat} {sh : List zSE}  {q : Nat} (hm : zMo sh q)  {x1 : Int32} {μ : zI} {ν : zJ} {out : (Int32 × zI × zJ)} (hF : e_M_firstFloat_0 q  x1 μ ν = some out) : Z l D dA ad sh m_M_firstFloat (zR 8 0 0) (zS ad) (zOi out) 0 0 0 0 [] 0 [(0, .ref (ad q)), (1, .int x1)] [] μ ν := by
  unfold e_M_firstFloat_0 at hF
  refine z_aload_n d_M_firstFloat_0 0 rfl rfl ?_
  refine z_iconst d_M_firstFloat_1 (v := 0) (by decide) ?_
  refine z_put d_M_firstFloat_2 f_M_55 (hm 0 _ rfl) rfl (CL_fin _ _ (fun q hq => by cases hq; rfl)) rfl rfl ?_
  obtain ⟨μy1, hy1, hF⟩ := zh_let hF
  refine z_eqm hy1 ?_
  refine z_aload_n d_M_firstFloat_5 0 rfl rfl ?_
  refine z_iload_n d_M_firstFloat_6 1 rfl rfl ?_
  refine z_iconst d_M_firstFloat_7 (v := 1) (by decide) ?_
  obtain ⟨ty2, hty2, hF⟩ := zh_bind hF
  refine z_callV d_M_firstFloat_8 (c_M_firstBy hm hty2) mv_M_firstBy l_M_306 (fun _ _ h => h) (hm 0 _ rfl) rfl rfl ⟨Nat.le_of_ble_eq_true rfl, Nat.le_of_ble_eq_true rfl⟩ ⟨Nat.le_of_ble_eq_true rfl, Nat.le_of_ble_eq_true rfl⟩ rfl (Nat.le_of_ble_eq_true rfl) (fun r μ' ν' hq => ?_)
  obtain ⟨rfl, rfl, rfl⟩ := hq
  show Z _ _ _ _ _ _ _ _ _ _ _ 0 0 _ _ _ [.int ty2.1] _ _
  cases hF
  exact z_ireturn d_M_firstFloat_11 rfl rfl ⟨rfl, rfl, rfl⟩
def E_M_firstFloat (q : Nat) (x1 : Int32) (μ : zI) (ν : zJ) : Option (Int32 × zI × zJ) := e_M_firstFloat_0 q x1 μ ν
theorem c_M_firstFloat {l : Launch} {D : va_G} {dA : Nat → ClassId} {ad : Nat → Nat} {sh : List zSE} {μ : zI} {ν : zJ} {q : Nat} {x1 : Int32} (hm : zMo sh q) {out : (Int32 × zI × zJ)} (hE : E_M_firstFloat q x1 μ ν = some out) : zC l D dA ad sh m_M_firstFloat 8 0 0 [.ref (ad q), .int x1] μ ν (zOi out) :=
  zC.of (by decide) (Nat.le_of_ble_eq_true rfl) (z_M_firstFloat_0 hm hE)
def e_M_firstFull_0 (q : Nat)  (x1 : Int32) (μ : zI) (ν : zJ) : Option (Int32 × zI × zJ) := zlet (zu μ q 0 0) fun μy1 => Option.bind (E_M_firstBy q x1 2 μy1 ν) fun ty2 => some (ty2.1, ty2.2.1, ty2.2.2)
theorem z_M_firstFull_0 {l : Launch} {D : va_G} {dA : Nat → ClassId} {ad : Nat → Nat} {sh : List zSE}  {q : Nat} (hm : zMo sh q)  {x1 : Int32} {μ : zI} {ν : zJ} {out : (Int32 × zI × zJ)} (hF : e_M_firstFull_0 q  x1 μ ν = some out) : Z l D dA ad sh m_M_firstFull (zR 8 0 0) (zS ad) (zOi out) 0 0 0 0 [] 0 [(0, .ref (ad q)), (1, .int x1)] [] μ ν := by
  unfold e_M_firstFull_0 at hF
  refine z_aload_n d_M_firstFull_0 0 rfl rfl ?_
  refine z_iconst d_M_firstFull_1 (v := 0) (by decide) ?_
  refine z_put d_M_firstFull_2 f_M_55 (hm 0 _ rfl) rfl (CL_fin _ _ (fun q hq => by cases hq; rfl)) rfl rfl ?_
  obtain ⟨μy1, hy1, hF⟩ := zh_let hF
  refine z_eqm hy1 ?_
  refine z_aload_n d_M_firstFull_5 0 rfl rfl ?_
  refine z_iload_n d_M_firstFull_6 1 rfl rfl ?_
  refine z_iconst d_M_firstFull_7 (v := 2) (by decide) ?_
  obtain ⟨ty2, hty2, hF⟩ := zh_bind hF
  refine z_callV d_M_firstFull_8 (c_M_firstBy hm hty2) mv_M_firstBy l_M_306 (fun _ _ h => h) (hm 0 _ rfl) rfl rfl ⟨Nat.le_of_ble_eq_true rfl, Nat.le_of_ble_eq_true rfl⟩ ⟨Nat.le_of_ble_eq_true rfl, Nat.le_of_ble_eq_true rfl⟩ rfl (Nat.le_of_ble_eq_true rfl) (fun r μ' ν' hq => ?_)
  obtain ⟨rfl, rfl, rfl⟩ := hq
  show Z _ _ _ _ _ _ _ _ _ _ _ 0 0 _ _ _ [.int ty2.1] _ _
  cases hF
  exact z_ireturn d_M_firstFull_11 rfl rfl ⟨rfl, rfl, rfl⟩
def E_M_firstFull (q : Nat) (x1 : Int32) (μ : zI) (ν : zJ) : Option (Int32 × zI × zJ) := e_M_firstFull_0 q x1 μ ν
theorem c_M_firstFull {l : Launch} {D : va_G} {dA : Nat → ClassId} {ad : Nat → Nat} {sh : List zSE} {μ : zI} {ν : zJ} {q : Nat} {x1 : Int32} (hm : zMo sh q) {out : (Int32 × zI × zJ)} (hE : E_M_firstFull q x1 μ ν = some out) : zC l D dA ad sh m_M_firstFull 8 0 0 [.ref (ad q), .int x1] μ ν (zOi out) :=
  zC.of (by decide) (Nat.le_of_ble_eq_true rfl) (z_M_firstFull_0 hm hE)
def e_M_seenIn_54 (q : Nat) (r21 : Int32 → Int32 → Int32 → Int32 → Int32 → Int32 → zI → zJ → Option (Int32 × zI × zJ)) (x1 : Int32) (x2 : Int32) (x3 : Int32) (x4 : Int32) (x5 : Int32) (x6 : Int32) (s0 : Int32) (μ : zI) (ν : zJ) : Option (Int32 × zI × zJ) := (if s0 < (μ (q + 7) 8) then r21 x1 x2 x3 x4 s0 (x6 + 1) μ ν else some (x6, μ, ν))
theorem z_M_seenIn_54 {l : Launch} {D : va_G} {dA : Nat → ClassId} {ad : Nat → Nat} {sh : List zSE}  {q : Nat} (hm : zMo sh q) {r21 : Int32 → Int32 → Int32 → Int32 → Int32 → Int32 → zI → zJ → Option (Int32 × zI × zJ)} {x1 : Int32} {x2 : Int32} {x3 : Int32} {x4 : Int32} {x5 : Int32} {x6 : Int32} {s0 : Int32} {μ : zI} {ν : zJ} {out : (Int32 × zI × zJ)} (hr21 : ∀ (x1 : Int32) (x2 : Int32) (x3 : Int32) (x4 : Int32) (x5 : Int32) (x6 : Int32) (μ : zI) (ν : zJ), r21 x1 x2 x3 x4 x5 x6 μ ν = some out → Z l D dA ad sh m_M_seenIn (zR 1 0 0) (zS ad) (zOi out) 0 0 0 0 [] 21 [(0, .ref (ad q)), (1, .int x1), (2, .int x2), (3, .int x3), (4, .int x4), (5, .int x5), (6, .int x6)] [] μ ν) (hF : e_M_seenIn_54 q r21 x1 x2 x3 x4 x5 x6 s0 μ ν = some out) : Z l D dA ad sh m_M_seenIn (zR 1 0 0) (zS ad) (zOi out) 0 0 0 0 [] 54 [(0, .ref (ad q)), (1, .int x1), (2, .int x2), (3, .int x3), (4, .int x4), (5, .int x5), (6, .int x6)] [.int s0] μ ν := by
  unfold e_M_seenIn_54 at hF
  refine z_istore d_M_seenIn_54 (by decide) (L2 := [(5, .int s0), (0, .ref (ad q)), (1, .int x1), (2, .int x2), (3, .int x3), (4, .int x4), (6, .int x6)]) rfl ?_
  refine z_iload d_M_seenIn_56 0 rfl ?_
  refine z_aload_n d_M_seenIn_58 1 rfl rfl ?_
  refine z_getr d_M_seenIn_59 (q := (q + 7)) f_M_33 (hm 0 _ rfl) rfl ?_
  refine z_bipush d_M_seenIn_62 (v := 8) (by decide) ?_
  refine z_iald d_M_seenIn_64 (hm 7 _ rfl) (zin_vp rfl) ?_
  show Z _ _ _ _ _ _ _ _ _ _ _ _ _ _ _ _ [.int (μ (q + 7) 8), .int s0] _ _
  refine z_icmp_lt d_M_seenIn_65 (tgt := 71) (by decide) (fun cy1 => ?_) (fun cy1 => ?_)
  · replace hF := zh_t cy1 hF
    refine z_iinc d_M_seenIn_71 (k := 6) (v := (x6 + 1)) rfl rfl (by decide) (L2 := [(6, .int (x6 + 1)), (5, .int s0), (0, .ref (ad q)), (1, .int x1), (2, .int x2), (3, .int x3), (4, .int x4)]) rfl ?_
    refine z_goto d_M_seenIn_74 (tgt := 21) (by decide) ?_
    refine z_sub [2, 3, 4, 5, 6, 1, 0] (L' := [(0, .ref (ad q)), (1, .int x1), (2, .int x2), (3, .int x3), (4, .int x4), (5, .int s0), (6, .int (x6 + 1))]) rfl ?_
    exact hr21 _ _ _ _ _ _ _ _ hF
  · replace hF := zh_f cy1 hF
    refine z_iload d_M_seenIn_68 6 rfl ?_
    cases hF
    exact z_ireturn d_M_seenIn_70 rfl rfl ⟨rfl, rfl, rfl⟩
def f_M_seenIn_21 (q : Nat)  : Nat → Int32 → Int32 → Int32 → Int32 → Int32 → Int32 → zI → zJ → Option (Int32 × zI × zJ)
  | 0, _, _, _, _, _, _, _, _ => none
  | n + 1, x1, x2, x3, x4, x5, x6, μ, ν => (if x1 < x6 then some ((-2), μ, ν) else Option.bind (E_M_drifts q x4 x2 x3 μ ν) fun ty2 => zlet (α := Int32) ty2.1 fun y3 => Option.bind (E_M_isFar q y3 ty2.2.1 ty2.2.2) fun ty4 => (if ty4.1 = 0 then e_M_seenIn_54 q (f_M_seenIn_21 q n) x1 x2 x3 y3 x5 x6 0 ty4.2.1 ty4.2.2 else e_M_seenIn_54 q (f_M_seenIn_21 q n) x1 x2 x3 y3 x5 x6 (x5 + 1) ty4.2.1 ty4.2.2))
theorem z_M_seenIn_21 {l : Launch} {D : va_G} {dA : Nat → ClassId} {ad : Nat → Nat} {sh : List zSE}  {q : Nat} (hm : zMo sh q)  {out : (Int32 × zI × zJ)} : ∀ (n : Nat) (x1 : Int32) (x2 : Int32) (x3 : Int32) (x4 : Int32) (x5 : Int32) (x6 : Int32) (μ : zI) (ν : zJ), f_M_seenIn_21 q  n x1 x2 x3 x4 x5 x6 μ ν = some out → Z l D dA ad sh m_M_seenIn (zR 1 0 0) (zS ad) (zOi out) 0 0 0 0 [] 21 [(0, .ref (ad q)), (1, .int x1), (2, .int x2), (3, .int x3), (4, .int x4), (5, .int x5), (6, .int x6)] [] μ ν := by
  intro n
  induction n with
  | zero => intro x1 x2 x3 x4 x5 x6 μ ν hF; cases hF
  | succ n ih =>
    intro x1 x2 x3 x4 x5 x6 μ ν hF
    dsimp only [f_M_seenIn_21] at hF
    refine z_iload d_M_seenIn_21 6 rfl ?_
    refine z_iload_n d_M_seenIn_23 1 rfl rfl ?_
    refine z_icmp_gt d_M_seenIn_24 (tgt := 77) (by decide) (fun cy1 => ?_) (fun cy1 => ?_)
    · replace hF := zh_t cy1 hF
      refine z_bipush d_M_seenIn_77 (v := (-2)) (by decide) ?_
      cases hF
      exact z_ireturn d_M_seenIn_79 rfl rfl ⟨rfl, rfl, rfl⟩
    · replace hF := zh_f cy1 hF
      refine z_aload_n d_M_seenIn_27 0 rfl rfl ?_
      refine z_iload d_M_seenIn_28 4 rfl ?_
      refine z_iload_n d_M_seenIn_30 2 rfl rfl ?_
      refine z_iload_n d_M_seenIn_31 3 rfl rfl ?_
      obtain ⟨ty2, hty2, hF⟩ := zh_bind hF
      refine z_callV d_M_seenIn_32 (c_M_drifts hm hty2) mv_M_drifts l_M_237 (fun _ _ h => h) (hm 0 _ rfl) rfl rfl ⟨Nat.le_of_ble_eq_true rfl, Nat.le_of_ble_eq_true rfl⟩ ⟨Nat.le_of_ble_eq_true rfl, Nat.le_of_ble_eq_true rfl⟩ rfl (Nat.le_of_ble_eq_true rfl) (fun r μ' ν' hq => ?_)
      obtain ⟨rfl, rfl, rfl⟩ := hq
      show Z _ _ _ _ _ _ _ _ _ _ _ 0 0 _ _ _ [.int ty2.1] _ _
      obtain ⟨y3, hy3, hF⟩ := zh_let hF
      refine z_eqi hy3 ?_
      refine z_istore d_M_seenIn_35 (by decide) (L2 := [(4, .int y3), (0, .ref (ad q)), (1, .int x1), (2, .int x2), (3, .int x3), (5, .int x5), (6, .int x6)]) rfl ?_
      refine z_aload_n d_M_seenIn_37 1 rfl rfl ?_
      refine z_iload d_M_seenIn_38 0 rfl ?_
      obtain ⟨ty4, hty4, hF⟩ := zh_bind hF
      refine z_callV d_M_seenIn_40 (c_M_isFar hm hty4) mv_M_isFar l_M_241 (fun _ _ h => h) (hm 0 _ rfl) rfl rfl ⟨Nat.le_of_ble_eq_true rfl, Nat.le_of_ble_eq_true rfl⟩ ⟨Nat.le_of_ble_eq_true rfl, Nat.le_of_ble_eq_true rfl⟩ rfl (Nat.le_of_ble_eq_true rfl) (fun r μ' ν' hq => ?_)
      obtain ⟨rfl, rfl, rfl⟩ := hq
      show Z _ _ _ _ _ _ _ _ _ _ _ 0 0 _ _ _ [.int ty4.1] _ _
      refine z_if_eq d_M_seenIn_43 (tgt := 53) (by decide) (fun cy5 => ?_) (fun cy5 => ?_)
      · replace hF := zh_t cy5 hF
        refine z_iconst d_M_seenIn_53 (v := 0) (by decide) ?_
        refine z_sub [1, 2, 3, 4, 0, 5, 6] (L' := [(0, .ref (ad q)), (1, .int x1), (2, .int x2), (3, .int x3), (4, .int y3), (5, .int x5), (6, .int x6)]) rfl ?_
        exact z_M_seenIn_54 hm (fun a0 a1 a2 a3 a4 a5 a6 a7 => ih a0 a1 a2 a3 a4 a5 a6 a7) hF
      · replace hF := zh_f cy5 hF
        refine z_iload d_M_seenIn_46 5 rfl ?_
        refine z_iconst d_M_seenIn_48 (v := 1) (by decide) ?_
        refine z_iadd d_M_seenIn_49 ?_
        refine z_goto d_M_seenIn_50 (tgt := 54) (by decide) ?_
        refine z_sub [1, 2, 3, 4, 0, 5, 6] (L' := [(0, .ref (ad q)), (1, .int x1), (2, .int x2), (3, .int x3), (4, .int y3), (5, .int x5), (6, .int x6)]) rfl ?_
        exact z_M_seenIn_54 hm (fun a0 a1 a2 a3 a4 a5 a6 a7 => ih a0 a1 a2 a3 a4 a5 a6 a7) hF
def e_M_seenIn_0 (q : Nat)  (x1 : Int32) (x2 : Int32) (x3 : Int32) (μ : zI) (ν : zJ) : Option (Int32 × zI × zJ) := zlet (α := Int32) (μ (q + 7) 39) fun y1 => zlet (α := Int32) (μ (q + 7) 41) fun y2 => f_M_seenIn_21 q zFuel x1 x2 x3 y1 y2 1 μ ν
theorem z_M_seenIn_0 {l : Launch} {D : va_G} {dA : Nat → ClassId} {ad : Nat → Nat} {sh : List zSE}  {q : Nat} (hm : zMo sh q)  {x1 : Int32} {x2 : Int32} {x3 : Int32} {μ : zI} {ν : zJ} {out : (Int32 × zI × zJ)} (hF : e_M_seenIn_0 q  x1 x2 x3 μ ν = some out) : Z l D dA ad sh m_M_seenIn (zR 1 0 0) (zS ad) (zOi out) 0 0 0 0 [] 0 [(0, .ref (ad q)), (1, .int x1), (2, .int x2), (3, .int x3)] [] μ ν := by
  unfold e_M_seenIn_0 at hF
  refine z_aload_n d_M_seenIn_0 0 rfl rfl ?_
  refine z_getr d_M_seenIn_1 (q := (q + 7)) f_M_33 (hm 0 _ rfl) rfl ?_
  refine z_bipush d_M_seenIn_4 (v := 39) (by decide) ?_
  refine z_iald d_M_seenIn_6 (hm 7 _ rfl) (zin_vp rfl) ?_
  show Z _ _ _ _ _ _ _ _ _ _ _ _ _ _ _ _ [.int (μ (q + 7) 39)] _ _
  obtain ⟨y1, hy1, hF⟩ := zh_let hF
  refine z_eqi hy1 ?_
  refine z_istore d_M_seenIn_7 (by decide) (L2 := [(4, .int y1), (0, .ref (ad q)), (1, .int x1), (2, .int x2), (3, .int x3)]) rfl ?_
  refine z_aload_n d_M_seenIn_9 1 rfl rfl ?_
  refine z_getr d_M_seenIn_10 (q := (q + 7)) f_M_33 (hm 0 _ rfl) rfl ?_
  refine z_bipush d_M_seenIn_13 (v := 41) (by decide) ?_
  refine z_iald d_M_seenIn_15 (hm 7 _ rfl) (zin_vp rfl) ?_
  show Z _ _ _ _ _ _ _ _ _ _ _ _ _ _ _ _ [.int (μ (q + 7) 41)] _ _
  obtain ⟨y2, hy2, hF⟩ := zh_let hF
  refine z_eqi hy2 ?_
  refine z_istore d_M_seenIn_16 (by decide) (L2 := [(5, .int y2), (4, .int y1), (0, .ref (ad q)), (1, .int x1), (2, .int x2), (3, .int x3)]) rfl ?_
  refine z_iconst d_M_seenIn_18 (v := 1) (by decide) ?_
  refine z_istore d_M_seenIn_19 (by decide) (L2 := [(6, .int 1), (5, .int y2), (4, .int y1), (0, .ref (ad q)), (1, .int x1), (2, .int x2), (3, .int x3)]) rfl ?_
  refine z_sub [3, 4, 5, 6, 2, 1, 0] (L' := [(0, .ref (ad q)), (1, .int x1), (2, .int x2), (3, .int x3), (4, .int y1), (5, .int y2), (6, .int 1)]) rfl ?_
  exact z_M_seenIn_21 hm  zFuel _ _ _ _ _ _ _ _ hF
def E_M_seenIn (q : Nat) (x1 : Int32) (x2 : Int32) (x3 : Int32) (μ : zI) (ν : zJ) : Option (Int32 × zI × zJ) := e_M_seenIn_0 q x1 x2 x3 μ ν
theorem c_M_seenIn {l : Launch} {D : va_G} {dA : Nat → ClassId} {ad : Nat → Nat} {sh : List zSE} {μ : zI} {ν : zJ} {q : Nat} {x1 : Int32} {x2 : Int32} {x3 : Int32} (hm : zMo sh q) {out : (Int32 × zI × zJ)} (hE : E_M_seenIn q x1 x2 x3 μ ν = some out) : zC l D dA ad sh m_M_seenIn 1 0 0 [.ref (ad q), .int x1, .int x2, .int x3] μ ν (zOi out) :=
  zC.of (by decide) (Nat.le_of_ble_eq_true rfl) (z_M_seenIn_0 hm hE)
def e_M_isSome_17   (x0 : Int32) (s0 : Int32) (μ : zI) (ν : zJ) : Option (Int32 × zI × zJ) := (if zb s0 = true then some (s0, μ, ν) else none)
theorem z_M_isSome_17 {l : Launch} {D : va_G} {dA : Nat → ClassId} {ad : Nat → Nat} {sh : List zSE}    {x0 : Int32} {s0 : Int32} {μ : zI} {ν : zJ} {out : (Int32 × zI × zJ)} (hF : e_M_isSome_17   x0 s0 μ ν = some out) : Z l D dA ad sh m_M_isSome (zR 0 0 0) (zS ad) (zOi out) 0 0 0 0 [] 17 [(0, .int x0)] [.int s0] μ ν := by
  unfold e_M_isSome_17 at hF
  obtain ⟨hy1, hF⟩ := zh_if hF
  cases hF
  exact z_ireturn d_M_isSome_17 rfl (zb_n hy1) ⟨rfl, rfl, rfl⟩
def e_M_isSome_16   (x0 : Int32) (μ : zI) (ν : zJ) : Option (Int32 × zI × zJ) := e_M_isSome_17 x0 0 μ ν
theorem z_M_isSome_16 {l : Launch} {D : va_G} {dA : Nat → ClassId} {ad : Nat → Nat} {sh : List zSE}    {x0 : Int32} {μ : zI} {ν : zJ} {out : (Int32 × zI × zJ)} (hF : e_M_isSome_16   x0 μ ν = some out) : Z l D dA ad sh m_M_isSome (zR 0 0 0) (zS ad) (zOi out) 0 0 0 0 [] 16 [(0, .int x0)] [] μ ν := by
  unfold e_M_isSome_16 at hF
  refine z_iconst d_M_isSome_16 (v := 0) (by decide) ?_
  exact z_M_isSome_17   hF
def e_M_isSome_0   (x0 : Int32) (μ : zI) (ν : zJ) : Option (Int32 × zI × zJ) := (if x0 < 1 then e_M_isSome_16 x0 μ ν else (if 200 < x0 then e_M_isSome_16 x0 μ ν else e_M_isSome_17 x0 1 μ ν))
theorem z_M_isSome_0 {l : Launch} {D : va_G} {dA : Nat → ClassId} {ad : Nat → Nat} {sh : List zSE}    {x0 : Int32} {μ : zI} {ν : zJ} {out : (Int32 × zI × zJ)} (hF : e_M_isSome_0   x0 μ ν = some out) : Z l D dA ad sh m_M_isSome (zR 0 0 0) (zS ad) (zOi out) 0 0 0 0 [] 0 [(0, .int x0)] [] μ ν := by
  unfold e_M_isSome_0 at hF
  refine z_iload_n d_M_isSome_0 0 rfl rfl ?_
  refine z_iconst d_M_isSome_1 (v := 1) (by decide) ?_
  refine z_icmp_lt d_M_isSome_2 (tgt := 16) (by decide) (fun cy1 => ?_) (fun cy1 => ?_)
  · replace hF := zh_t cy1 hF
    exact z_M_isSome_16   hF
  · replace hF := zh_f cy1 hF
    refine z_iload_n d_M_isSome_5 0 rfl rfl ?_
    refine z_sipush d_M_isSome_6 (v := 200) (by decide) ?_
    refine z_icmp_gt d_M_isSome_9 (tgt := 16) (by decide) (fun cy2 => ?_) (fun cy2 => ?_)
    · replace hF := zh_t cy2 hF
      exact z_M_isSome_16   hF
    · replace hF := zh_f cy2 hF
      refine z_iconst d_M_isSome_12 (v := 1) (by decide) ?_
      refine z_goto d_M_isSome_13 (tgt := 17) (by decide) ?_
      exact z_M_isSome_17   hF
def E_M_isSome  (x0 : Int32) (μ : zI) (ν : zJ) : Option (Int32 × zI × zJ) := e_M_isSome_0 x0 μ ν
theorem c_M_isSome {l : Launch} {D : va_G} {dA : Nat → ClassId} {ad : Nat → Nat} {sh : List zSE} {μ : zI} {ν : zJ} {x0 : Int32}  {out : (Int32 × zI × zJ)} (hE : E_M_isSome x0 μ ν = some out) : zC l D dA ad sh m_M_isSome 0 0 0 [.int x0] μ ν (zOi out) :=
  zC.of (by decide) (Nat.le_of_ble_eq_true rfl) (z_M_isSome_0  hE)
def f_M_leastPush_16 (q : Nat)  : Nat → Int32 → Int32 → zI → zJ → Option (Int32 × zI × zJ)
  | 0, _, _, _, _ => none
  | n + 1, x1, x2, μ, ν => (if 1000 < x2 then some ((-2), μ, ν) else Option.bind (E_M_seenIn q x1 (μ (q + 7) 38) x2 μ ν) fun ty2 => (if ty2.1 = (-2) then (f_M_leastPush_16 q n) x1 (x2 + 1) ty2.2.1 ty2.2.2 else some (x2, ty2.2.1, ty2.2.2)))
theorem z_M_leastPush_16 {l : Launch} {D : va_G} {dA : Nat → ClassId} {ad : Nat → Nat} {sh : List zSE}  {q : Nat} (hm : zMo sh q)  {out : (Int32 × zI × zJ)} : ∀ (n : Nat) (x1 : Int32) (x2 : Int32) (μ : zI) (ν : zJ), f_M_leastPush_16 q  n x1 x2 μ ν = some out → Z l D dA ad sh m_M_leastPush (zR 2 0 0) (zS ad) (zOi out) 0 0 0 0 [] 16 [(0, .ref (ad q)), (1, .int x1), (2, .int x2)] [] μ ν := by
  intro n
  induction n with
  | zero => intro x1 x2 μ ν hF; cases hF
  | succ n ih =>
    intro x1 x2 μ ν hF
    dsimp only [f_M_leastPush_16] at hF
    refine z_iload_n d_M_leastPush_16 2 rfl rfl ?_
    refine z_sipush d_M_leastPush_17 (v := 1000) (by decide) ?_
    refine z_icmp_gt d_M_leastPush_20 (tgt := 49) (by decide) (fun cy1 => ?_) (fun cy1 => ?_)
    · replace hF := zh_t cy1 hF
      refine z_bipush d_M_leastPush_49 (v := (-2)) (by decide) ?_
      cases hF
      exact z_ireturn d_M_leastPush_51 rfl rfl ⟨rfl, rfl, rfl⟩
    · replace hF := zh_f cy1 hF
      refine z_aload_n d_M_leastPush_23 0 rfl rfl ?_
      refine z_iload_n d_M_leastPush_24 1 rfl rfl ?_
      refine z_aload_n d_M_leastPush_25 0 rfl rfl ?_
      refine z_getr d_M_leastPush_26 (q := (q + 7)) f_M_33 (hm 0 _ rfl) rfl ?_
      refine z_bipush d_M_leastPush_29 (v := 38) (by decide) ?_
      refine z_iald d_M_leastPush_31 (hm 7 _ rfl) (zin_vp rfl) ?_
      show Z _ _ _ _ _ _ _ _ _ _ _ _ _ _ _ _ [.int (μ (q + 7) 38), .int x1, .ref (ad q)] _ _
      refine z_iload_n d_M_leastPush_32 2 rfl rfl ?_
      obtain ⟨ty2, hty2, hF⟩ := zh_bind hF
      refine z_callV d_M_leastPush_33 (c_M_seenIn hm hty2) mv_M_seenIn l_M_312 (fun _ _ h => h) (hm 0 _ rfl) rfl rfl ⟨Nat.le_of_ble_eq_true rfl, Nat.le_of_ble_eq_true rfl⟩ ⟨Nat.le_of_ble_eq_true rfl, Nat.le_of_ble_eq_true rfl⟩ rfl (Nat.le_of_ble_eq_true rfl) (fun r μ' ν' hq => ?_)
      obtain ⟨rfl, rfl, rfl⟩ := hq
      show Z _ _ _ _ _ _ _ _ _ _ _ 0 0 _ _ _ [.int ty2.1] _ _
      refine z_bipush d_M_leastPush_36 (v := (-2)) (by decide) ?_
      refine z_icmp_eq d_M_leastPush_38 (tgt := 43) (by decide) (fun cy3 => ?_) (fun cy3 => ?_)
      · replace hF := zh_t cy3 hF
        refine z_iinc d_M_leastPush_43 (k := 2) (v := (x2 + 1)) rfl rfl (by decide) (L2 := [(2, .int (x2 + 1)), (0, .ref (ad q)), (1, .int x1)]) rfl ?_
        refine z_goto d_M_leastPush_46 (tgt := 16) (by decide) ?_
        refine z_sub [1, 2, 0] (L' := [(0, .ref (ad q)), (1, .int x1), (2, .int (x2 + 1))]) rfl ?_
        exact ih _ _ _ _ hF
      · replace hF := zh_f cy3 hF
        refine z_iload_n d_M_leastPush_41 2 rfl rfl ?_
        cases hF
        exact z_ireturn d_M_leastPush_42 rfl rfl ⟨rfl, rfl, rfl⟩
def e_M_leastPush_0 (q : Nat)  (x1 : Int32) (μ : zI) (ν : zJ) : Option (Int32 × zI × zJ) := zlet (zu μ q 0 0) fun μy1 => Option.bind (E_M_isSome x1 μy1 ν) fun ty2 => (if ty2.1 = 0 then some ((-1), ty2.2.1, ty2.2.2) else f_M_leastPush_16 q zFuel x1 0 ty2.2.1 ty2.2.2)
theorem z_M_leastPush_0 {l : Launch} {D : va_G} {dA : Nat → ClassId} {ad : Nat → Nat} {sh : List zSE}  {q : Nat} (hm : zMo sh q)  {x1 : Int32} {μ : zI} {ν : zJ} {out : (Int32 × zI × zJ)} (hF : e_M_leastPush_0 q  x1 μ ν = some out) : Z l D dA ad sh m_M_leastPush (zR 2 0 0) (zS ad) (zOi out) 0 0 0 0 [] 0 [(0, .ref (ad q)), (1, .int x1)] [] μ ν := by
  unfold e_M_leastPush_0 at hF
  refine z_aload_n d_M_leastPush_0 0 rfl rfl ?_
  refine z_iconst d_M_leastPush_1 (v := 0) (by decide) ?_
  refine z_put d_M_leastPush_2 f_M_55 (hm 0 _ rfl) rfl (CL_fin _ _ (fun q hq => by cases hq; rfl)) rfl rfl ?_
  obtain ⟨μy1, hy1, hF⟩ := zh_let hF
  refine z_eqm hy1 ?_
  refine z_iload_n d_M_leastPush_5 1 rfl rfl ?_
  obtain ⟨ty2, hty2, hF⟩ := zh_bind hF
  refine z_callS d_M_leastPush_6 (c_M_isSome  hty2) ms_M_isSome l_M_309 (fun _ _ h => h) rfl ⟨Nat.le_of_ble_eq_true rfl, Nat.le_of_ble_eq_true rfl⟩ ⟨Nat.le_of_ble_eq_true rfl, Nat.le_of_ble_eq_true rfl⟩ rfl (Nat.le_of_ble_eq_true rfl) (fun r μ' ν' hq => ?_)
  obtain ⟨rfl, rfl, rfl⟩ := hq
  show Z _ _ _ _ _ _ _ _ _ _ _ 0 0 _ _ _ [.int ty2.1] _ _
  refine z_if_ne d_M_leastPush_9 (tgt := 14) (by decide) (fun cy3 => ?_) (fun cy3 => ?_)
  · replace hF := zh_f cy3 hF
    refine z_iconst d_M_leastPush_14 (v := 0) (by decide) ?_
    refine z_istore_n d_M_leastPush_15 rfl (by decide) (L2 := [(2, .int 0), (0, .ref (ad q)), (1, .int x1)]) rfl ?_
    refine z_sub [1, 2, 0] (L' := [(0, .ref (ad q)), (1, .int x1), (2, .int 0)]) rfl ?_
    exact z_M_leastPush_16 hm  zFuel _ _ _ _ hF
  · replace hF := zh_t cy3 hF
    refine z_iconst d_M_leastPush_12 (v := (-1)) (by decide) ?_
    cases hF
    exact z_ireturn d_M_leastPush_13 rfl rfl ⟨rfl, rfl, rfl⟩
def E_M_leastPush (q : Nat) (x1 : Int32) (μ : zI) (ν : zJ) : Option (Int32 × zI × zJ) := e_M_leastPush_0 q x1 μ ν
theorem c_M_leastPush {l : Launch} {D : va_G} {dA : Nat → ClassId} {ad : Nat → Nat} {sh : List zSE} {μ : zI} {ν : zJ} {q : Nat} {x1 : Int32} (hm : zMo sh q) {out : (Int32 × zI × zJ)} (hE : E_M_leastPush q x1 μ ν = some out) : zC l D dA ad sh m_M_leastPush 2 0 0 [.ref (ad q), .int x1] μ ν (zOi out) :=
  zC.of (by decide) (Nat.le_of_ble_eq_true rfl) (z_M_leastPush_0 hm hE)
def e_M_seenBy_41 (q : Nat)  (x1 : Int32) (x2 : Int32) (s0 : Int32) (μ : zI) (ν : zJ) : Option (Int32 × zI × zJ) := some (s0, μ, ν)
theorem z_M_seenBy_41 {l : Launch} {D : va_G} {dA : Nat → ClassId} {ad : Nat → Nat} {sh : List zSE}  {q : Nat} (hm : zMo sh q)  {x1 : Int32} {x2 : Int32} {s0 : Int32} {μ : zI} {ν : zJ} {out : (Int32 × zI × zJ)} (hF : e_M_seenBy_41 q  x1 x2 s0 μ ν = some out) : Z l D dA ad sh m_M_seenBy (zR 2 0 0) (zS ad) (zOi out) 0 0 0 0 [] 41 [(0, .ref (ad q)), (1, .int x1), (2, .int x2)] [.int s0] μ ν := by
  unfold e_M_seenBy_41 at hF
  cases hF
  exact z_ireturn d_M_seenBy_41 rfl rfl ⟨rfl, rfl, rfl⟩
def e_M_seenBy_40 (q : Nat)  (x1 : Int32) (x2 : Int32) (μ : zI) (ν : zJ) : Option (Int32 × zI × zJ) := e_M_seenBy_41 q x1 x2 (-1) μ ν
theorem z_M_seenBy_40 {l : Launch} {D : va_G} {dA : Nat → ClassId} {ad : Nat → Nat} {sh : List zSE}  {q : Nat} (hm : zMo sh q)  {x1 : Int32} {x2 : Int32} {μ : zI} {ν : zJ} {out : (Int32 × zI × zJ)} (hF : e_M_seenBy_40 q  x1 x2 μ ν = some out) : Z l D dA ad sh m_M_seenBy (zR 2 0 0) (zS ad) (zOi out) 0 0 0 0 [] 40 [(0, .ref (ad q)), (1, .int x1), (2, .int x2)] [] μ ν := by
  unfold e_M_seenBy_40 at hF
  refine z_iconst d_M_seenBy_40 (v := (-1)) (by decide) ?_
  exact z_M_seenBy_41 hm  hF
def e_M_seenBy_0 (q : Nat)  (x1 : Int32) (x2 : Int32) (μ : zI) (ν : zJ) : Option (Int32 × zI × zJ) := zlet (zu μ q 0 0) fun μy1 => (if x1 < 45000 then e_M_seenBy_40 q x1 x2 μy1 ν else (if 55000 < x1 then e_M_seenBy_40 q x1 x2 μy1 ν else Option.bind (E_M_isSome x2 μy1 ν) fun ty4 => (if ty4.1 = 0 then e_M_seenBy_40 q x1 x2 ty4.2.1 ty4.2.2 else Option.bind (E_M_seenIn q x2 x1 (ty4.2.1 (q + 7) 9) ty4.2.1 ty4.2.2) fun ty6 => e_M_seenBy_41 q x1 x2 ty6.1 ty6.2.1 ty6.2.2)))
theorem z_M_seenBy_0 {l : Launch} {D : va_G} {dA : Nat → ClassId} {ad : Nat → Nat} {sh : List zSE}  {q : Nat} (hm : zMo sh q)  {x1 : Int32} {x2 : Int32} {μ : zI} {ν : zJ} {out : (Int32 × zI × zJ)} (hF : e_M_seenBy_0 q  x1 x2 μ ν = some out) : Z l D dA ad sh m_M_seenBy (zR 2 0 0) (zS ad) (zOi out) 0 0 0 0 [] 0 [(0, .ref (ad q)), (1, .int x1), (2, .int x2)] [] μ ν := by
  unfold e_M_seenBy_0 at hF
  refine z_aload_n d_M_seenBy_0 0 rfl rfl ?_
  refine z_iconst d_M_seenBy_1 (v := 0) (by decide) ?_
  refine z_put d_M_seenBy_2 f_M_55 (hm 0 _ rfl) rfl (CL_fin _ _ (fun q hq => by cases hq; rfl)) rfl rfl ?_
  obtain ⟨μy1, hy1, hF⟩ := zh_let hF
  refine z_eqm hy1 ?_
  refine z_iload_n d_M_seenBy_5 1 rfl rfl ?_
  refine z_ldc d_M_seenBy_6 k_M_145 ?_
  refine z_icmp_lt d_M_seenBy_8 (tgt := 40) (by decide) (fun cy2 => ?_) (fun cy2 => ?_)
  · replace hF := zh_t cy2 hF
    exact z_M_seenBy_40 hm  hF
  · replace hF := zh_f cy2 hF
    refine z_iload_n d_M_seenBy_11 1 rfl rfl ?_
    refine z_ldc d_M_seenBy_12 k_M_146 ?_
    refine z_icmp_gt d_M_seenBy_14 (tgt := 40) (by decide) (fun cy3 => ?_) (fun cy3 => ?_)
    · replace hF := zh_t cy3 hF
      exact z_M_seenBy_40 hm  hF
    · replace hF := zh_f cy3 hF
      refine z_iload_n d_M_seenBy_17 2 rfl rfl ?_
      obtain ⟨ty4, hty4, hF⟩ := zh_bind hF
      refine z_callS d_M_seenBy_18 (c_M_isSome  hty4) ms_M_isSome l_M_309 (fun _ _ h => h) rfl ⟨Nat.le_of_ble_eq_true rfl, Nat.le_of_ble_eq_true rfl⟩ ⟨Nat.le_of_ble_eq_true rfl, Nat.le_of_ble_eq_true rfl⟩ rfl (Nat.le_of_ble_eq_true rfl) (fun r μ' ν' hq => ?_)
      obtain ⟨rfl, rfl, rfl⟩ := hq
      show Z _ _ _ _ _ _ _ _ _ _ _ 0 0 _ _ _ [.int ty4.1] _ _
      refine z_if_eq d_M_seenBy_21 (tgt := 40) (by decide) (fun cy5 => ?_) (fun cy5 => ?_)
      · replace hF := zh_t cy5 hF
        exact z_M_seenBy_40 hm  hF
      · replace hF := zh_f cy5 hF
        refine z_aload_n d_M_seenBy_24 0 rfl rfl ?_
        refine z_iload_n d_M_seenBy_25 2 rfl rfl ?_
        refine z_iload_n d_M_seenBy_26 1 rfl rfl ?_
        refine z_aload_n d_M_seenBy_27 0 rfl rfl ?_
        refine z_getr d_M_seenBy_28 (q := (q + 7)) f_M_33 (hm 0 _ rfl) rfl ?_
        refine z_bipush d_M_seenBy_31 (v := 9) (by decide) ?_
        refine z_iald d_M_seenBy_33 (hm 7 _ rfl) (zin_vp rfl) ?_
        show Z _ _ _ _ _ _ _ _ _ _ _ _ _ _ _ _ [.int (ty4.2.1 (q + 7) 9), .int x1, .int x2, .ref (ad q)] _ _
        obtain ⟨ty6, hty6, hF⟩ := zh_bind hF
        refine z_callV d_M_seenBy_34 (c_M_seenIn hm hty6) mv_M_seenIn l_M_312 (fun _ _ h => h) (hm 0 _ rfl) rfl rfl ⟨Nat.le_of_ble_eq_true rfl, Nat.le_of_ble_eq_true rfl⟩ ⟨Nat.le_of_ble_eq_true rfl, Nat.le_of_ble_eq_true rfl⟩ rfl (Nat.le_of_ble_eq_true rfl) (fun r μ' ν' hq => ?_)
        obtain ⟨rfl, rfl, rfl⟩ := hq
        show Z _ _ _ _ _ _ _ _ _ _ _ 0 0 _ _ _ [.int ty6.1] _ _
        refine z_goto d_M_seenBy_37 (tgt := 41) (by decide) ?_
        exact z_M_seenBy_41 hm  hF
def E_M_seenBy (q : Nat) (x1 : Int32) (x2 : Int32) (μ : zI) (ν : zJ) : Option (Int32 × zI × zJ) := e_M_seenBy_0 q x1 x2 μ ν
theorem c_M_seenBy {l : Launch} {D : va_G} {dA : Nat → ClassId} {ad : Nat → Nat} {sh : List zSE} {μ : zI} {ν : zJ} {q : Nat} {x1 : Int32} {x2 : Int32} (hm : zMo sh q) {out : (Int32 × zI × zJ)} (hE : E_M_seenBy q x1 x2 μ ν = some out) : zC l D dA ad sh m_M_seenBy 2 0 0 [.ref (ad q), .int x1, .int x2] μ ν (zOi out) :=
  zC.of (by decide) (Nat.le_of_ble_eq_true rfl) (z_M_seenBy_0 hm hE)
def e_M_blind_49 (q : Nat) (r19 : Int32 → Int32 → Int32 → zI → zJ → Option (Int32 × zI × zJ)) (x1 : Int32) (x2 : Int32) (x3 : Int32) (s0 : Int32) (s1 : Int32) (μ : zI) (ν : zJ) : Option (Int32 × zI × zJ) := zlet (α := Int32) (s0 + s1) fun y1 => r19 x1 y1 (x3 + 100) μ ν
theorem z_M_blind_49 {l : Launch} {D : va_G} {dA : Nat → ClassId} {ad : Nat → Nat} {sh : List zSE}  {q : Nat} (hm : zMo sh q) {r19 : Int32 → Int32 → Int32 → zI → zJ → Option (Int32 × zI × zJ)} {x1 : Int32} {x2 : Int32} {x3 : Int32} {s0 : Int32} {s1 : Int32} {μ : zI} {ν : zJ} {out : (Int32 × zI × zJ)} (hr19 : ∀ (x1 : Int32) (x2 : Int32) (x3 : Int32) (μ : zI) (ν : zJ), r19 x1 x2 x3 μ ν = some out → Z l D dA ad sh m_M_blind (zR 2 0 0) (zS ad) (zOi out) 0 0 0 0 [] 19 [(0, .ref (ad q)), (1, .int x1), (2, .int x2), (3, .int x3)] [] μ ν) (hF : e_M_blind_49 q r19 x1 x2 x3 s0 s1 μ ν = some out) : Z l D dA ad sh m_M_blind (zR 2 0 0) (zS ad) (zOi out) 0 0 0 0 [] 49 [(0, .ref (ad q)), (1, .int x1), (2, .int x2), (3, .int x3)] [.int s1, .int s0] μ ν := by
  unfold e_M_blind_49 at hF
  refine z_iadd d_M_blind_49 ?_
  obtain ⟨y1, hy1, hF⟩ := zh_let hF
  refine z_eqi hy1 ?_
  refine z_istore_n d_M_blind_50 rfl (by decide) (L2 := [(2, .int y1), (0, .ref (ad q)), (1, .int x1), (3, .int x3)]) rfl ?_
  refine z_iinc d_M_blind_51 (k := 3) (v := (x3 + 100)) rfl rfl (by decide) (L2 := [(3, .int (x3 + 100)), (2, .int y1), (0, .ref (ad q)), (1, .int x1)]) rfl ?_
  refine z_goto d_M_blind_54 (tgt := 19) (by decide) ?_
  refine z_sub [2, 3, 1, 0] (L' := [(0, .ref (ad q)), (1, .int x1), (2, .int y1), (3, .int (x3 + 100))]) rfl ?_
  exact hr19 _ _ _ _ _ hF
def f_M_blind_19 (q : Nat)  : Nat → Int32 → Int32 → Int32 → zI → zJ → Option (Int32 × zI × zJ)
  | 0, _, _, _, _, _ => none
  | n + 1, x1, x2, x3, μ, ν => (if 55000 < x3 then some (x2, μ, ν) else Option.bind (E_M_seenIn q x1 x3 (μ (q + 7) 9) μ ν) fun ty2 => (if ty2.1 = (-2) then e_M_blind_49 q (f_M_blind_19 q n) x1 x2 x3 x2 1 ty2.2.1 ty2.2.2 else e_M_blind_49 q (f_M_blind_19 q n) x1 x2 x3 x2 0 ty2.2.1 ty2.2.2))
theorem z_M_blind_19 {l : Launch} {D : va_G} {dA : Nat → ClassId} {ad : Nat → Nat} {sh : List zSE}  {q : Nat} (hm : zMo sh q)  {out : (Int32 × zI × zJ)} : ∀ (n : Nat) (x1 : Int32) (x2 : Int32) (x3 : Int32) (μ : zI) (ν : zJ), f_M_blind_19 q  n x1 x2 x3 μ ν = some out → Z l D dA ad sh m_M_blind (zR 2 0 0) (zS ad) (zOi out) 0 0 0 0 [] 19 [(0, .ref (ad q)), (1, .int x1), (2, .int x2), (3, .int x3)] [] μ ν := by
  intro n
  induction n with
  | zero => intro x1 x2 x3 μ ν hF; cases hF
  | succ n ih =>
    intro x1 x2 x3 μ ν hF
    dsimp only [f_M_blind_19] at hF
    refine z_iload_n d_M_blind_19 3 rfl rfl ?_
    refine z_ldc d_M_blind_20 k_M_146 ?_
    refine z_icmp_gt d_M_blind_22 (tgt := 57) (by decide) (fun cy1 => ?_) (fun cy1 => ?_)
    · replace hF := zh_t cy1 hF
      refine z_iload_n d_M_blind_57 2 rfl rfl ?_
      cases hF
      exact z_ireturn d_M_blind_58 rfl rfl ⟨rfl, rfl, rfl⟩
    · replace hF := zh_f cy1 hF
      refine z_iload_n d_M_blind_25 2 rfl rfl ?_
      refine z_aload_n d_M_blind_26 0 rfl rfl ?_
      refine z_iload_n d_M_blind_27 1 rfl rfl ?_
      refine z_iload_n d_M_blind_28 3 rfl rfl ?_
      refine z_aload_n d_M_blind_29 0 rfl rfl ?_
      refine z_getr d_M_blind_30 (q := (q + 7)) f_M_33 (hm 0 _ rfl) rfl ?_
      refine z_bipush d_M_blind_33 (v := 9) (by decide) ?_
      refine z_iald d_M_blind_35 (hm 7 _ rfl) (zin_vp rfl) ?_
      show Z _ _ _ _ _ _ _ _ _ _ _ _ _ _ _ _ [.int (μ (q + 7) 9), .int x3, .int x1, .ref (ad q), .int x2] _ _
      obtain ⟨ty2, hty2, hF⟩ := zh_bind hF
      refine z_callV d_M_blind_36 (c_M_seenIn hm hty2) mv_M_seenIn l_M_312 (fun _ _ h => h) (hm 0 _ rfl) rfl rfl ⟨Nat.le_of_ble_eq_true rfl, Nat.le_of_ble_eq_true rfl⟩ ⟨Nat.le_of_ble_eq_true rfl, Nat.le_of_ble_eq_true rfl⟩ rfl (Nat.le_of_ble_eq_true rfl) (fun r μ' ν' hq => ?_)
      obtain ⟨rfl, rfl, rfl⟩ := hq
      show Z _ _ _ _ _ _ _ _ _ _ _ 0 0 _ _ _ [.int ty2.1, .int x2] _ _
      refine z_bipush d_M_blind_39 (v := (-2)) (by decide) ?_
      refine z_icmp_ne d_M_blind_41 (tgt := 48) (by decide) (fun cy3 => ?_) (fun cy3 => ?_)
      · replace hF := zh_f cy3 hF
        refine z_iconst d_M_blind_48 (v := 0) (by decide) ?_
        exact z_M_blind_49 hm (fun a0 a1 a2 a3 a4 => ih a0 a1 a2 a3 a4) hF
      · replace hF := zh_t cy3 hF
        refine z_iconst d_M_blind_44 (v := 1) (by decide) ?_
        refine z_goto d_M_blind_45 (tgt := 49) (by decide) ?_
        exact z_M_blind_49 hm (fun a0 a1 a2 a3 a4 => ih a0 a1 a2 a3 a4) hF
def e_M_blind_0 (q : Nat)  (x1 : Int32) (μ : zI) (ν : zJ) : Option (Int32 × zI × zJ) := zlet (zu μ q 0 0) fun μy1 => Option.bind (E_M_isSome x1 μy1 ν) fun ty2 => (if ty2.1 = 0 then some ((-1), ty2.2.1, ty2.2.2) else f_M_blind_19 q zFuel x1 0 45000 ty2.2.1 ty2.2.2)
theorem z_M_blind_0 {l : Launch} {D : va_G} {dA : Nat → ClassId} {ad : Nat → Nat} {sh : List zSE}  {q : Nat} (hm : zMo sh q)  {x1 : Int32} {μ : zI} {ν : zJ} {out : (Int32 × zI × zJ)} (hF : e_M_blind_0 q  x1 μ ν = some out) : Z l D dA ad sh m_M_blind (zR 2 0 0) (zS ad) (zOi out) 0 0 0 0 [] 0 [(0, .ref (ad q)), (1, .int x1)] [] μ ν := by
  unfold e_M_blind_0 at hF
  refine z_aload_n d_M_blind_0 0 rfl rfl ?_
  refine z_iconst d_M_blind_1 (v := 0) (by decide) ?_
  refine z_put d_M_blind_2 f_M_55 (hm 0 _ rfl) rfl (CL_fin _ _ (fun q hq => by cases hq; rfl)) rfl rfl ?_
  obtain ⟨μy1, hy1, hF⟩ := zh_let hF
  refine z_eqm hy1 ?_
  refine z_iload_n d_M_blind_5 1 rfl rfl ?_
  obtain ⟨ty2, hty2, hF⟩ := zh_bind hF
  refine z_callS d_M_blind_6 (c_M_isSome  hty2) ms_M_isSome l_M_309 (fun _ _ h => h) rfl ⟨Nat.le_of_ble_eq_true rfl, Nat.le_of_ble_eq_true rfl⟩ ⟨Nat.le_of_ble_eq_true rfl, Nat.le_of_ble_eq_true rfl⟩ rfl (Nat.le_of_ble_eq_true rfl) (fun r μ' ν' hq => ?_)
  obtain ⟨rfl, rfl, rfl⟩ := hq
  show Z _ _ _ _ _ _ _ _ _ _ _ 0 0 _ _ _ [.int ty2.1] _ _
  refine z_if_ne d_M_blind_9 (tgt := 14) (by decide) (fun cy3 => ?_) (fun cy3 => ?_)
  · replace hF := zh_f cy3 hF
    refine z_iconst d_M_blind_14 (v := 0) (by decide) ?_
    refine z_istore_n d_M_blind_15 rfl (by decide) (L2 := [(2, .int 0), (0, .ref (ad q)), (1, .int x1)]) rfl ?_
    refine z_ldc d_M_blind_16 k_M_145 ?_
    refine z_istore_n d_M_blind_18 rfl (by decide) (L2 := [(3, .int 45000), (2, .int 0), (0, .ref (ad q)), (1, .int x1)]) rfl ?_
    refine z_sub [2, 3, 1, 0] (L' := [(0, .ref (ad q)), (1, .int x1), (2, .int 0), (3, .int 45000)]) rfl ?_
    exact z_M_blind_19 hm  zFuel _ _ _ _ _ hF
  · replace hF := zh_t cy3 hF
    refine z_iconst d_M_blind_12 (v := (-1)) (by decide) ?_
    cases hF
    exact z_ireturn d_M_blind_13 rfl rfl ⟨rfl, rfl, rfl⟩
def E_M_blind (q : Nat) (x1 : Int32) (μ : zI) (ν : zJ) : Option (Int32 × zI × zJ) := e_M_blind_0 q x1 μ ν
theorem c_M_blind {l : Launch} {D : va_G} {dA : Nat → ClassId} {ad : Nat → Nat} {sh : List zSE} {μ : zI} {ν : zJ} {q : Nat} {x1 : Int32} (hm : zMo sh q) {out : (Int32 × zI × zJ)} (hE : E_M_blind q x1 μ ν = some out) : zC l D dA ad sh m_M_blind 2 0 0 [.ref (ad q), .int x1] μ ν (zOi out) :=
  zC.of (by decide) (Nat.le_of_ble_eq_true rfl) (z_M_blind_0 hm hE)
def e_M_givenBy_55 (q : Nat)  (x1 : Int32) (x2 : Int32) (x3 : Int32) (μ : zI) (ν : zJ) : Option (Int64 × zI × zJ) := Option.bind (E_M_runs q x1 μ ν) fun ty1 => zlet (α := Int64) ((ty1.2 (q + 9) 0) - (ty1.2 (q + 10) 0)) fun y2 => Option.bind (E_M_comesBack q ty1.1 ty1.2) fun ty3 => some (y2, ty3.1, ty3.2)
theorem z_M_givenBy_55 {l : Launch} {D : va_G} {dA : Nat → ClassId} {ad : Nat → Nat} {sh : List zSE}  {q : Nat} (hm : zMo sh q)  {x1 : Int32} {x2 : Int32} {x3 : Int32} {μ : zI} {ν : zJ} {out : (Int64 × zI × zJ)} (hF : e_M_givenBy_55 q  x1 x2 x3 μ ν = some out) : Z l D dA ad sh m_M_givenBy (zR 8 0 0) (zS ad) (zOl out) 0 0 0 0 [] 55 [(0, .ref (ad q)), (1, .int x1), (2, .int x2), (3, .int x3)] [] μ ν := by
  unfold e_M_givenBy_55 at hF
  refine z_aload_n d_M_givenBy_55 0 rfl rfl ?_
  refine z_iload_n d_M_givenBy_56 1 rfl rfl ?_
  obtain ⟨ty1, hty1, hF⟩ := zh_bind hF
  refine z_callV d_M_givenBy_57 (c_M_runs hm hty1) mv_M_runs l_M_300 (fun _ _ h => h) (hm 0 _ rfl) rfl rfl ⟨Nat.le_of_ble_eq_true rfl, Nat.le_of_ble_eq_true rfl⟩ ⟨Nat.le_of_ble_eq_true rfl, Nat.le_of_ble_eq_true rfl⟩ rfl (Nat.le_of_ble_eq_true rfl) (fun r μ' ν' hq => ?_)
  obtain ⟨rfl, rfl, rfl⟩ := hq
  show Z _ _ _ _ _ _ _ _ _ _ _ 0 0 _ _ _ [] _ _
  refine z_aload_n d_M_givenBy_60 0 rfl rfl ?_
  refine z_getr d_M_givenBy_61 (q := (q + 9)) f_M_39 (hm 0 _ rfl) rfl ?_
  refine z_iconst d_M_givenBy_64 (v := 0) (by decide) ?_
  refine z_lald d_M_givenBy_65 (hm 9 _ rfl) (zin_vp rfl) ?_
  show Z _ _ _ _ _ _ _ _ _ _ _ _ _ _ _ _ [.long (ty1.2 (q + 9) 0)] _ _
  refine z_aload_n d_M_givenBy_66 0 rfl rfl ?_
  refine z_getr d_M_givenBy_67 (q := (q + 10)) f_M_43 (hm 0 _ rfl) rfl ?_
  refine z_iconst d_M_givenBy_70 (v := 0) (by decide) ?_
  refine z_lald d_M_givenBy_71 (hm 10 _ rfl) (zin_vp rfl) ?_
  show Z _ _ _ _ _ _ _ _ _ _ _ _ _ _ _ _ [.long (ty1.2 (q + 10) 0), .long (ty1.2 (q + 9) 0)] _ _
  refine z_lsub d_M_givenBy_72 ?_
  obtain ⟨y2, hy2, hF⟩ := zh_let hF
  refine z_eql hy2 ?_
  refine z_lstore d_M_givenBy_73 (by decide) (L2 := [(4, .long y2), (0, .ref (ad q)), (1, .int x1), (2, .int x2), (3, .int x3)]) rfl ?_
  refine z_aload_n d_M_givenBy_75 1 rfl rfl ?_
  obtain ⟨ty3, hty3, hF⟩ := zh_bind hF
  refine z_callV d_M_givenBy_76 (c_M_comesBack hm hty3) mv_M_comesBack l_M_303 (fun _ _ h => h) (hm 0 _ rfl) rfl rfl ⟨Nat.le_of_ble_eq_true rfl, Nat.le_of_ble_eq_true rfl⟩ ⟨Nat.le_of_ble_eq_true rfl, Nat.le_of_ble_eq_true rfl⟩ rfl (Nat.le_of_ble_eq_true rfl) (fun r μ' ν' hq => ?_)
  obtain ⟨rfl, rfl, rfl⟩ := hq
  show Z _ _ _ _ _ _ _ _ _ _ _ 0 0 _ _ _ [] _ _
  refine z_lload d_M_givenBy_79 0 rfl ?_
  cases hF
  exact z_lreturn d_M_givenBy_81 rfl ⟨rfl, rfl, rfl⟩
def e_M_givenBy_0 (q : Nat)  (x1 : Int32) (x2 : Int32) (x3 : Int32) (μ : zI) (ν : zJ) : Option (Int64 × zI × zJ) := Option.bind (E_M_goesAside q μ ν) fun ty1 => (if x2 = 0 then zlet (zu ty1.1 (q + 7) 12 x3) fun μy7 => zlet (zu μy7 (q + 7) 28 x3) fun μy8 => e_M_givenBy_55 q x1 x2 x3 μy8 ty1.2 else (if x2 = 1 then zlet (zu ty1.1 (q + 7) 14 x3) fun μy5 => Option.bind (E_M_startsScan q μy5 ty1.2) fun ty6 => e_M_givenBy_55 q x1 x2 x3 ty6.1 ty6.2 else zlet (zu ty1.1 (q + 7) 17 x3) fun μy4 => e_M_givenBy_55 q x1 x2 x3 μy4 ty1.2))
theorem z_M_givenBy_0 {l : Launch} {D : va_G} {dA : Nat → ClassId} {ad : Nat → Nat} {sh : List zSE}  {q : Nat} (hm : zMo sh q)  {x1 : Int32} {x2 : Int32} {x3 : Int32} {μ : zI} {ν : zJ} {out : (Int64 × zI × zJ)} (hF : e_M_givenBy_0 q  x1 x2 x3 μ ν = some out) : Z l D dA ad sh m_M_givenBy (zR 8 0 0) (zS ad) (zOl out) 0 0 0 0 [] 0 [(0, .ref (ad q)), (1, .int x1), (2, .int x2), (3, .int x3)] [] μ ν := by
  unfold e_M_givenBy_0 at hF
  refine z_aload_n d_M_givenBy_0 0 rfl rfl ?_
  obtain ⟨ty1, hty1, hF⟩ := zh_bind hF
  refine z_callV d_M_givenBy_1 (c_M_goesAside hm hty1) mv_M_goesAside l_M_297 (fun _ _ h => h) (hm 0 _ rfl) rfl rfl ⟨Nat.le_of_ble_eq_true rfl, Nat.le_of_ble_eq_true rfl⟩ ⟨Nat.le_of_ble_eq_true rfl, Nat.le_of_ble_eq_true rfl⟩ rfl (Nat.le_of_ble_eq_true rfl) (fun r μ' ν' hq => ?_)
  obtain ⟨rfl, rfl, rfl⟩ := hq
  show Z _ _ _ _ _ _ _ _ _ _ _ 0 0 _ _ _ [] _ _
  refine z_iload_n d_M_givenBy_4 2 rfl rfl ?_
  refine z_if_ne d_M_givenBy_5 (tgt := 27) (by decide) (fun cy2 => ?_) (fun cy2 => ?_)
  · replace hF := zh_f cy2 hF
    refine z_iload_n d_M_givenBy_27 2 rfl rfl ?_
    refine z_iconst d_M_givenBy_28 (v := 1) (by decide) ?_
    refine z_icmp_ne d_M_givenBy_29 (tgt := 47) (by decide) (fun cy3 => ?_) (fun cy3 => ?_)
    · replace hF := zh_f cy3 hF
      refine z_aload_n d_M_givenBy_47 0 rfl rfl ?_
      refine z_getr d_M_givenBy_48 (q := (q + 7)) f_M_33 (hm 0 _ rfl) rfl ?_
      refine z_bipush d_M_givenBy_51 (v := 17) (by decide) ?_
      refine z_iload_n d_M_givenBy_53 3 rfl rfl ?_
      refine z_iast d_M_givenBy_54 (hm 7 _ rfl) (zin_vp rfl) ?_
      obtain ⟨μy4, hy4, hF⟩ := zh_let hF
      refine z_eqm hy4 ?_
      exact z_M_givenBy_55 hm  hF
    · replace hF := zh_t cy3 hF
      refine z_aload_n d_M_givenBy_32 0 rfl rfl ?_
      refine z_getr d_M_givenBy_33 (q := (q + 7)) f_M_33 (hm 0 _ rfl) rfl ?_
      refine z_bipush d_M_givenBy_36 (v := 14) (by decide) ?_
      refine z_iload_n d_M_givenBy_38 3 rfl rfl ?_
      refine z_iast d_M_givenBy_39 (hm 7 _ rfl) (zin_vp rfl) ?_
      obtain ⟨μy5, hy5, hF⟩ := zh_let hF
      refine z_eqm hy5 ?_
      refine z_aload_n d_M_givenBy_40 0 rfl rfl ?_
      obtain ⟨ty6, hty6, hF⟩ := zh_bind hF
      refine z_callV d_M_givenBy_41 (c_M_startsScan hm hty6) mv_M_startsScan l_M_229 (fun _ _ h => h) (hm 0 _ rfl) rfl rfl ⟨Nat.le_of_ble_eq_true rfl, Nat.le_of_ble_eq_true rfl⟩ ⟨Nat.le_of_ble_eq_true rfl, Nat.le_of_ble_eq_true rfl⟩ rfl (Nat.le_of_ble_eq_true rfl) (fun r μ' ν' hq => ?_)
      obtain ⟨rfl, rfl, rfl⟩ := hq
      show Z _ _ _ _ _ _ _ _ _ _ _ 0 0 _ _ _ [] _ _
      refine z_goto d_M_givenBy_44 (tgt := 55) (by decide) ?_
      exact z_M_givenBy_55 hm  hF
  · replace hF := zh_t cy2 hF
    refine z_aload_n d_M_givenBy_8 0 rfl rfl ?_
    refine z_getr d_M_givenBy_9 (q := (q + 7)) f_M_33 (hm 0 _ rfl) rfl ?_
    refine z_bipush d_M_givenBy_12 (v := 12) (by decide) ?_
    refine z_iload_n d_M_givenBy_14 3 rfl rfl ?_
    refine z_iast d_M_givenBy_15 (hm 7 _ rfl) (zin_vp rfl) ?_
    obtain ⟨μy7, hy7, hF⟩ := zh_let hF
    refine z_eqm hy7 ?_
    refine z_aload_n d_M_givenBy_16 0 rfl rfl ?_
    refine z_getr d_M_givenBy_17 (q := (q + 7)) f_M_33 (hm 0 _ rfl) rfl ?_
    refine z_bipush d_M_givenBy_20 (v := 28) (by decide) ?_
    refine z_iload_n d_M_givenBy_22 3 rfl rfl ?_
    refine z_iast d_M_givenBy_23 (hm 7 _ rfl) (zin_vp rfl) ?_
    obtain ⟨μy8, hy8, hF⟩ := zh_let hF
    refine z_eqm hy8 ?_
    refine z_goto d_M_givenBy_24 (tgt := 55) (by decide) ?_
    exact z_M_givenBy_55 hm  hF
def E_M_givenBy (q : Nat) (x1 : Int32) (x2 : Int32) (x3 : Int32) (μ : zI) (ν : zJ) : Option (Int64 × zI × zJ) := e_M_givenBy_0 q x1 x2 x3 μ ν
theorem c_M_givenBy {l : Launch} {D : va_G} {dA : Nat → ClassId} {ad : Nat → Nat} {sh : List zSE} {μ : zI} {ν : zJ} {q : Nat} {x1 : Int32} {x2 : Int32} {x3 : Int32} (hm : zMo sh q) {out : (Int64 × zI × zJ)} (hE : E_M_givenBy q x1 x2 x3 μ ν = some out) : zC l D dA ad sh m_M_givenBy 8 0 0 [.ref (ad q), .int x1, .int x2, .int x3] μ ν (zOl out) :=
  zC.of (by decide) (Nat.le_of_ble_eq_true rfl) (z_M_givenBy_0 hm hE)
def e_M_bestStep_57 (q : Nat) (r24 : Int32 → Int32 → Int64 → Int32 → zI → zJ → Option (Int32 × zI × zJ)) (x1 : Int32) (x2 : Int32) (w3 : Int64) (x5 : Int32) (w6 : Int64) (μ : zI) (ν : zJ) : Option (Int32 × zI × zJ) := zlet (α := Int32) (x5 * 2) fun y1 => r24 x1 x2 w3 y1 μ ν
theorem z_M_bestStep_57 {l : Launch} {D : va_G} {dA : Nat → ClassId} {ad : Nat → Nat} {sh : List zSE}  {q : Nat} (hm : zMo sh q) {r24 : Int32 → Int32 → Int64 → Int32 → zI → zJ → Option (Int32 × zI × zJ)} {x1 : Int32} {x2 : Int32} {w3 : Int64} {x5 : Int32} {w6 : Int64} {μ : zI} {ν : zJ} {out : (Int32 × zI × zJ)} (hr24 : ∀ (x1 : Int32) (x2 : Int32) (w3 : Int64) (x5 : Int32) (μ : zI) (ν : zJ), r24 x1 x2 w3 x5 μ ν = some out → Z l D dA ad sh m_M_bestStep (zR 9 0 0) (zS ad) (zOi out) 0 0 0 0 [] 24 [(0, .ref (ad q)), (1, .int x1), (2, .int x2), (3, .long w3), (5, .int x5)] [] μ ν) (hF : e_M_bestStep_57 q r24 x1 x2 w3 x5 w6 μ ν = some out) : Z l D dA ad sh m_M_bestStep (zR 9 0 0) (zS ad) (zOi out) 0 0 0 0 [] 57 [(0, .ref (ad q)), (1, .int x1), (2, .int x2), (3, .long w3), (5, .int x5), (6, .long w6)] [] μ ν := by
  unfold e_M_bestStep_57 at hF
  refine z_iload d_M_bestStep_57 4 rfl ?_
  refine z_iconst d_M_bestStep_59 (v := 2) (by decide) ?_
  refine z_imul d_M_bestStep_60 ?_
  obtain ⟨y1, hy1, hF⟩ := zh_let hF
  refine z_eqi hy1 ?_
  refine z_istore d_M_bestStep_61 (by decide) (L2 := [(5, .int y1), (0, .ref (ad q)), (1, .int x1), (2, .int x2), (3, .long w3), (6, .long w6)]) rfl ?_
  refine z_goto d_M_bestStep_63 (tgt := 24) (by decide) ?_
  refine z_sub [1, 2, 3, 4, 0] (L' := [(0, .ref (ad q)), (1, .int x1), (2, .int x2), (3, .long w3), (5, .int y1)]) rfl ?_
  exact hr24 _ _ _ _ _ _ hF
def f_M_bestStep_24 (q : Nat)  : Nat → Int32 → Int32 → Int64 → Int32 → zI → zJ → Option (Int32 × zI × zJ)
  | 0, _, _, _, _, _, _ => none
  | n + 1, x1, x2, w3, x5, μ, ν => (if 64 < x5 then some (x2, μ, ν) else Option.bind (E_M_givenBy q x1 0 x5 μ ν) fun ty2 => zlet (α := Int64) ty2.1 fun y3 => (if 0 < (lg_cmp y3 w3) then e_M_bestStep_57 q (f_M_bestStep_24 q n) x1 x5 y3 x5 y3 ty2.2.1 ty2.2.2 else e_M_bestStep_57 q (f_M_bestStep_24 q n) x1 x2 w3 x5 y3 ty2.2.1 ty2.2.2))
theorem z_M_bestStep_24 {l : Launch} {D : va_G} {dA : Nat → ClassId} {ad : Nat → Nat} {sh : List zSE}  {q : Nat} (hm : zMo sh q)  {out : (Int32 × zI × zJ)} : ∀ (n : Nat) (x1 : Int32) (x2 : Int32) (w3 : Int64) (x5 : Int32) (μ : zI) (ν : zJ), f_M_bestStep_24 q  n x1 x2 w3 x5 μ ν = some out → Z l D dA ad sh m_M_bestStep (zR 9 0 0) (zS ad) (zOi out) 0 0 0 0 [] 24 [(0, .ref (ad q)), (1, .int x1), (2, .int x2), (3, .long w3), (5, .int x5)] [] μ ν := by
  intro n
  induction n with
  | zero => intro x1 x2 w3 x5 μ ν hF; cases hF
  | succ n ih =>
    intro x1 x2 w3 x5 μ ν hF
    dsimp only [f_M_bestStep_24] at hF
    refine z_iload d_M_bestStep_24 4 rfl ?_
    refine z_bipush d_M_bestStep_26 (v := 64) (by decide) ?_
    refine z_icmp_gt d_M_bestStep_28 (tgt := 66) (by decide) (fun cy1 => ?_) (fun cy1 => ?_)
    · replace hF := zh_t cy1 hF
      refine z_iload_n d_M_bestStep_66 2 rfl rfl ?_
      cases hF
      exact z_ireturn d_M_bestStep_67 rfl rfl ⟨rfl, rfl, rfl⟩
    · replace hF := zh_f cy1 hF
      refine z_aload_n d_M_bestStep_31 0 rfl rfl ?_
      refine z_iload_n d_M_bestStep_32 1 rfl rfl ?_
      refine z_iconst d_M_bestStep_33 (v := 0) (by decide) ?_
      refine z_iload d_M_bestStep_34 4 rfl ?_
      obtain ⟨ty2, hty2, hF⟩ := zh_bind hF
      refine z_callV d_M_bestStep_36 (c_M_givenBy hm hty2) mv_M_givenBy l_M_315 (fun _ _ h => h) (hm 0 _ rfl) rfl rfl ⟨Nat.le_of_ble_eq_true rfl, Nat.le_of_ble_eq_true rfl⟩ ⟨Nat.le_of_ble_eq_true rfl, Nat.le_of_ble_eq_true rfl⟩ rfl (Nat.le_of_ble_eq_true rfl) (fun r μ' ν' hq => ?_)
      obtain ⟨rfl, rfl, rfl⟩ := hq
      show Z _ _ _ _ _ _ _ _ _ _ _ 0 0 _ _ _ [.long ty2.1] _ _
      obtain ⟨y3, hy3, hF⟩ := zh_let hF
      refine z_eql hy3 ?_
      refine z_lstore d_M_bestStep_39 (by decide) (L2 := [(6, .long y3), (0, .ref (ad q)), (1, .int x1), (2, .int x2), (3, .long w3), (5, .int x5)]) rfl ?_
      refine z_lload d_M_bestStep_41 0 rfl ?_
      refine z_lload_n d_M_bestStep_43 4 rfl rfl ?_
      refine z_lcmp d_M_bestStep_44 ?_
      refine z_if_gt d_M_bestStep_45 (tgt := 51) (by decide) (fun cy4 => ?_) (fun cy4 => ?_)
      · replace hF := zh_t cy4 hF
        refine z_iload d_M_bestStep_51 5 rfl ?_
        refine z_istore_n d_M_bestStep_53 rfl (by decide) (L2 := [(2, .int x5), (6, .long y3), (0, .ref (ad q)), (1, .int x1), (3, .long w3), (5, .int x5)]) rfl ?_
        refine z_lload d_M_bestStep_54 1 rfl ?_
        refine z_lstore_n d_M_bestStep_56 rfl (by decide) (L2 := [(3, .long y3), (2, .int x5), (6, .long y3), (0, .ref (ad q)), (1, .int x1), (5, .int x5)]) rfl ?_
        refine z_sub [3, 4, 1, 0, 5, 2] (L' := [(0, .ref (ad q)), (1, .int x1), (2, .int x5), (3, .long y3), (5, .int x5), (6, .long y3)]) rfl ?_
        exact z_M_bestStep_57 hm (fun a0 a1 a2 a3 a4 a5 => ih a0 a1 a2 a3 a4 a5) hF
      · replace hF := zh_f cy4 hF
        refine z_goto d_M_bestStep_48 (tgt := 57) (by decide) ?_
        refine z_sub [1, 2, 3, 4, 5, 0] (L' := [(0, .ref (ad q)), (1, .int x1), (2, .int x2), (3, .long w3), (5, .int x5), (6, .long y3)]) rfl ?_
        exact z_M_bestStep_57 hm (fun a0 a1 a2 a3 a4 a5 => ih a0 a1 a2 a3 a4 a5) hF
def e_M_bestStep_0 (q : Nat)  (x1 : Int32) (μ : zI) (ν : zJ) : Option (Int32 × zI × zJ) := zlet (zu μ q 0 0) fun μy1 => Option.bind (E_M_canTry q x1 μy1 ν) fun ty2 => (if ty2.1 = 0 then some ((-1), ty2.2.1, ty2.2.2) else f_M_bestStep_24 q zFuel x1 (-1) (-1) 1 ty2.2.1 ty2.2.2)
theorem z_M_bestStep_0 {l : Launch} {D : va_G} {dA : Nat → ClassId} {ad : Nat → Nat} {sh : List zSE}  {q : Nat} (hm : zMo sh q)  {x1 : Int32} {μ : zI} {ν : zJ} {out : (Int32 × zI × zJ)} (hF : e_M_bestStep_0 q  x1 μ ν = some out) : Z l D dA ad sh m_M_bestStep (zR 9 0 0) (zS ad) (zOi out) 0 0 0 0 [] 0 [(0, .ref (ad q)), (1, .int x1)] [] μ ν := by
  unfold e_M_bestStep_0 at hF
  refine z_aload_n d_M_bestStep_0 0 rfl rfl ?_
  refine z_iconst d_M_bestStep_1 (v := 0) (by decide) ?_
  refine z_put d_M_bestStep_2 f_M_55 (hm 0 _ rfl) rfl (CL_fin _ _ (fun q hq => by cases hq; rfl)) rfl rfl ?_
  obtain ⟨μy1, hy1, hF⟩ := zh_let hF
  refine z_eqm hy1 ?_
  refine z_aload_n d_M_bestStep_5 0 rfl rfl ?_
  refine z_iload_n d_M_bestStep_6 1 rfl rfl ?_
  obtain ⟨ty2, hty2, hF⟩ := zh_bind hF
  refine z_callV d_M_bestStep_7 (c_M_canTry hm hty2) mv_M_canTry l_M_294 (fun _ _ h => h) (hm 0 _ rfl) rfl rfl ⟨Nat.le_of_ble_eq_true rfl, Nat.le_of_ble_eq_true rfl⟩ ⟨Nat.le_of_ble_eq_true rfl, Nat.le_of_ble_eq_true rfl⟩ rfl (Nat.le_of_ble_eq_true rfl) (fun r μ' ν' hq => ?_)
  obtain ⟨rfl, rfl, rfl⟩ := hq
  show Z _ _ _ _ _ _ _ _ _ _ _ 0 0 _ _ _ [.int ty2.1] _ _
  refine z_if_ne d_M_bestStep_10 (tgt := 15) (by decide) (fun cy3 => ?_) (fun cy3 => ?_)
  · replace hF := zh_f cy3 hF
    refine z_iconst d_M_bestStep_15 (v := (-1)) (by decide) ?_
    refine z_istore_n d_M_bestStep_16 rfl (by decide) (L2 := [(2, .int (-1)), (0, .ref (ad q)), (1, .int x1)]) rfl ?_
    refine z_ldc2 d_M_bestStep_17 k_M_285 ?_
    refine z_lstore_n d_M_bestStep_20 rfl (by decide) (L2 := [(3, .long (-1)), (2, .int (-1)), (0, .ref (ad q)), (1, .int x1)]) rfl ?_
    refine z_iconst d_M_bestStep_21 (v := 1) (by decide) ?_
    refine z_istore d_M_bestStep_22 (by decide) (L2 := [(5, .int 1), (3, .long (-1)), (2, .int (-1)), (0, .ref (ad q)), (1, .int x1)]) rfl ?_
    refine z_sub [3, 4, 2, 1, 0] (L' := [(0, .ref (ad q)), (1, .int x1), (2, .int (-1)), (3, .long (-1)), (5, .int 1)]) rfl ?_
    exact z_M_bestStep_24 hm  zFuel _ _ _ _ _ _ hF
  · replace hF := zh_t cy3 hF
    refine z_iconst d_M_bestStep_13 (v := (-1)) (by decide) ?_
    cases hF
    exact z_ireturn d_M_bestStep_14 rfl rfl ⟨rfl, rfl, rfl⟩
def E_M_bestStep (q : Nat) (x1 : Int32) (μ : zI) (ν : zJ) : Option (Int32 × zI × zJ) := e_M_bestStep_0 q x1 μ ν
theorem c_M_bestStep {l : Launch} {D : va_G} {dA : Nat → ClassId} {ad : Nat → Nat} {sh : List zSE} {μ : zI} {ν : zJ} {q : Nat} {x1 : Int32} (hm : zMo sh q) {out : (Int32 × zI × zJ)} (hE : E_M_bestStep q x1 μ ν = some out) : zC l D dA ad sh m_M_bestStep 9 0 0 [.ref (ad q), .int x1] μ ν (zOi out) :=
  zC.of (by decide) (Nat.le_of_ble_eq_true rfl) (z_M_bestStep_0 hm hE)
def e_M_bestGap_59 (q : Nat) (r25 : Int32 → Int32 → Int64 → Int32 → zI → zJ → Option (Int32 × zI × zJ)) (x1 : Int32) (x2 : Int32) (w3 : Int64) (x5 : Int32) (w6 : Int64) (μ : zI) (ν : zJ) : Option (Int32 × zI × zJ) := r25 x1 x2 w3 (x5 + 10) μ ν
theorem z_M_bestGap_59 {l : Launch} {D : va_G} {dA : Nat → ClassId} {ad : Nat → Nat} {sh : List zSE}  {q : Nat} (hm : zMo sh q) {r25 : Int32 → Int32 → Int64 → Int32 → zI → zJ → Option (Int32 × zI × zJ)} {x1 : Int32} {x2 : Int32} {w3 : Int64} {x5 : Int32} {w6 : Int64} {μ : zI} {ν : zJ} {out : (Int32 × zI × zJ)} (hr25 : ∀ (x1 : Int32) (x2 : Int32) (w3 : Int64) (x5 : Int32) (μ : zI) (ν : zJ), r25 x1 x2 w3 x5 μ ν = some out → Z l D dA ad sh m_M_bestGap (zR 9 0 0) (zS ad) (zOi out) 0 0 0 0 [] 25 [(0, .ref (ad q)), (1, .int x1), (2, .int x2), (3, .long w3), (5, .int x5)] [] μ ν) (hF : e_M_bestGap_59 q r25 x1 x2 w3 x5 w6 μ ν = some out) : Z l D dA ad sh m_M_bestGap (zR 9 0 0) (zS ad) (zOi out) 0 0 0 0 [] 59 [(0, .ref (ad q)), (1, .int x1), (2, .int x2), (3, .long w3), (5, .int x5), (6, .long w6)] [] μ ν := by
  unfold e_M_bestGap_59 at hF
  refine z_iinc d_M_bestGap_59 (k := 4) (v := (x5 + 10)) rfl rfl (by decide) (L2 := [(5, .int (x5 + 10)), (0, .ref (ad q)), (1, .int x1), (2, .int x2), (3, .long w3), (6, .long w6)]) rfl ?_
  refine z_goto d_M_bestGap_62 (tgt := 25) (by decide) ?_
  refine z_sub [1, 2, 3, 4, 0] (L' := [(0, .ref (ad q)), (1, .int x1), (2, .int x2), (3, .long w3), (5, .int (x5 + 10))]) rfl ?_
  exact hr25 _ _ _ _ _ _ hF
def f_M_bestGap_25 (q : Nat)  : Nat → Int32 → Int32 → Int64 → Int32 → zI → zJ → Option (Int32 × zI × zJ)
  | 0, _, _, _, _, _, _ => none
  | n + 1, x1, x2, w3, x5, μ, ν => (if 200 < x5 then some (x2, μ, ν) else Option.bind (E_M_givenBy q x1 1 x5 μ ν) fun ty2 => zlet (α := Int64) ty2.1 fun y3 => (if 0 < (lg_cmp y3 w3) then e_M_bestGap_59 q (f_M_bestGap_25 q n) x1 x5 y3 x5 y3 ty2.2.1 ty2.2.2 else e_M_bestGap_59 q (f_M_bestGap_25 q n) x1 x2 w3 x5 y3 ty2.2.1 ty2.2.2))
theorem z_M_bestGap_25 {l : Launch} {D : va_G} {dA : Nat → ClassId} {ad : Nat → Nat} {sh : List zSE}  {q : Nat} (hm : zMo sh q)  {out : (Int32 × zI × zJ)} : ∀ (n : Nat) (x1 : Int32) (x2 : Int32) (w3 : Int64) (x5 : Int32) (μ : zI) (ν : zJ), f_M_bestGap_25 q  n x1 x2 w3 x5 μ ν = some out → Z l D dA ad sh m_M_bestGap (zR 9 0 0) (zS ad) (zOi out) 0 0 0 0 [] 25 [(0, .ref (ad q)), (1, .int x1), (2, .int x2), (3, .long w3), (5, .int x5)] [] μ ν := by
  intro n
  induction n with
  | zero => intro x1 x2 w3 x5 μ ν hF; cases hF
  | succ n ih =>
    intro x1 x2 w3 x5 μ ν hF
    dsimp only [f_M_bestGap_25] at hF
    refine z_iload d_M_bestGap_25 4 rfl ?_
    refine z_sipush d_M_bestGap_27 (v := 200) (by decide) ?_
    refine z_icmp_gt d_M_bestGap_30 (tgt := 65) (by decide) (fun cy1 => ?_) (fun cy1 => ?_)
    · replace hF := zh_t cy1 hF
      refine z_iload_n d_M_bestGap_65 2 rfl rfl ?_
      cases hF
      exact z_ireturn d_M_bestGap_66 rfl rfl ⟨rfl, rfl, rfl⟩
    · replace hF := zh_f cy1 hF
      refine z_aload_n d_M_bestGap_33 0 rfl rfl ?_
      refine z_iload_n d_M_bestGap_34 1 rfl rfl ?_
      refine z_iconst d_M_bestGap_35 (v := 1) (by decide) ?_
      refine z_iload d_M_bestGap_36 4 rfl ?_
      obtain ⟨ty2, hty2, hF⟩ := zh_bind hF
      refine z_callV d_M_bestGap_38 (c_M_givenBy hm hty2) mv_M_givenBy l_M_315 (fun _ _ h => h) (hm 0 _ rfl) rfl rfl ⟨Nat.le_of_ble_eq_true rfl, Nat.le_of_ble_eq_true rfl⟩ ⟨Nat.le_of_ble_eq_true rfl, Nat.le_of_ble_eq_true rfl⟩ rfl (Nat.le_of_ble_eq_true rfl) (fun r μ' ν' hq => ?_)
      obtain ⟨rfl, rfl, rfl⟩ := hq
      show Z _ _ _ _ _ _ _ _ _ _ _ 0 0 _ _ _ [.long ty2.1] _ _
      obtain ⟨y3, hy3, hF⟩ := zh_let hF
      refine z_eql hy3 ?_
      refine z_lstore d_M_bestGap_41 (by decide) (L2 := [(6, .long y3), (0, .ref (ad q)), (1, .int x1), (2, .int x2), (3, .long w3), (5, .int x5)]) rfl ?_
      refine z_lload d_M_bestGap_43 0 rfl ?_
      refine z_lload_n d_M_bestGap_45 4 rfl rfl ?_
      refine z_lcmp d_M_bestGap_46 ?_
      refine z_if_gt d_M_bestGap_47 (tgt := 53) (by decide) (fun cy4 => ?_) (fun cy4 => ?_)
      · replace hF := zh_t cy4 hF
        refine z_iload d_M_bestGap_53 5 rfl ?_
        refine z_istore_n d_M_bestGap_55 rfl (by decide) (L2 := [(2, .int x5), (6, .long y3), (0, .ref (ad q)), (1, .int x1), (3, .long w3), (5, .int x5)]) rfl ?_
        refine z_lload d_M_bestGap_56 1 rfl ?_
        refine z_lstore_n d_M_bestGap_58 rfl (by decide) (L2 := [(3, .long y3), (2, .int x5), (6, .long y3), (0, .ref (ad q)), (1, .int x1), (5, .int x5)]) rfl ?_
        refine z_sub [3, 4, 1, 0, 5, 2] (L' := [(0, .ref (ad q)), (1, .int x1), (2, .int x5), (3, .long y3), (5, .int x5), (6, .long y3)]) rfl ?_
        exact z_M_bestGap_59 hm (fun a0 a1 a2 a3 a4 a5 => ih a0 a1 a2 a3 a4 a5) hF
      · replace hF := zh_f cy4 hF
        refine z_goto d_M_bestGap_50 (tgt := 59) (by decide) ?_
        refine z_sub [1, 2, 3, 4, 5, 0] (L' := [(0, .ref (ad q)), (1, .int x1), (2, .int x2), (3, .long w3), (5, .int x5), (6, .long y3)]) rfl ?_
        exact z_M_bestGap_59 hm (fun a0 a1 a2 a3 a4 a5 => ih a0 a1 a2 a3 a4 a5) hF
def e_M_bestGap_0 (q : Nat)  (x1 : Int32) (μ : zI) (ν : zJ) : Option (Int32 × zI × zJ) := zlet (zu μ q 0 0) fun μy1 => Option.bind (E_M_canTry q x1 μy1 ν) fun ty2 => (if ty2.1 = 0 then some ((-1), ty2.2.1, ty2.2.2) else f_M_bestGap_25 q zFuel x1 (-1) (-1) 10 ty2.2.1 ty2.2.2)
theorem z_M_bestGap_0 {l : Launch} {D : va_G} {dA : Nat → ClassId} {ad : Nat → Nat} {sh : List zSE}  {q : Nat} (hm : zMo sh q)  {x1 : Int32} {μ : zI} {ν : zJ} {out : (Int32 × zI × zJ)} (hF : e_M_bestGap_0 q  x1 μ ν = some out) : Z l D dA ad sh m_M_bestGap (zR 9 0 0) (zS ad) (zOi out) 0 0 0 0 [] 0 [(0, .ref (ad q)), (1, .int x1)] [] μ ν := by
  unfold e_M_bestGap_0 at hF
  refine z_aload_n d_M_bestGap_0 0 rfl rfl ?_
  refine z_iconst d_M_bestGap_1 (v := 0) (by decide) ?_
  refine z_put d_M_bestGap_2 f_M_55 (hm 0 _ rfl) rfl (CL_fin _ _ (fun q hq => by cases hq; rfl)) rfl rfl ?_
  obtain ⟨μy1, hy1, hF⟩ := zh_let hF
  refine z_eqm hy1 ?_
  refine z_aload_n d_M_bestGap_5 0 rfl rfl ?_
  refine z_iload_n d_M_bestGap_6 1 rfl rfl ?_
  obtain ⟨ty2, hty2, hF⟩ := zh_bind hF
  refine z_callV d_M_bestGap_7 (c_M_canTry hm hty2) mv_M_canTry l_M_294 (fun _ _ h => h) (hm 0 _ rfl) rfl rfl ⟨Nat.le_of_ble_eq_true rfl, Nat.le_of_ble_eq_true rfl⟩ ⟨Nat.le_of_ble_eq_true rfl, Nat.le_of_ble_eq_true rfl⟩ rfl (Nat.le_of_ble_eq_true rfl) (fun r μ' ν' hq => ?_)
  obtain ⟨rfl, rfl, rfl⟩ := hq
  show Z _ _ _ _ _ _ _ _ _ _ _ 0 0 _ _ _ [.int ty2.1] _ _
  refine z_if_ne d_M_bestGap_10 (tgt := 15) (by decide) (fun cy3 => ?_) (fun cy3 => ?_)
  · replace hF := zh_f cy3 hF
    refine z_iconst d_M_bestGap_15 (v := (-1)) (by decide) ?_
    refine z_istore_n d_M_bestGap_16 rfl (by decide) (L2 := [(2, .int (-1)), (0, .ref (ad q)), (1, .int x1)]) rfl ?_
    refine z_ldc2 d_M_bestGap_17 k_M_285 ?_
    refine z_lstore_n d_M_bestGap_20 rfl (by decide) (L2 := [(3, .long (-1)), (2, .int (-1)), (0, .ref (ad q)), (1, .int x1)]) rfl ?_
    refine z_bipush d_M_bestGap_21 (v := 10) (by decide) ?_
    refine z_istore d_M_bestGap_23 (by decide) (L2 := [(5, .int 10), (3, .long (-1)), (2, .int (-1)), (0, .ref (ad q)), (1, .int x1)]) rfl ?_
    refine z_sub [3, 4, 2, 1, 0] (L' := [(0, .ref (ad q)), (1, .int x1), (2, .int (-1)), (3, .long (-1)), (5, .int 10)]) rfl ?_
    exact z_M_bestGap_25 hm  zFuel _ _ _ _ _ _ hF
  · replace hF := zh_t cy3 hF
    refine z_iconst d_M_bestGap_13 (v := (-1)) (by decide) ?_
    cases hF
    exact z_ireturn d_M_bestGap_14 rfl rfl ⟨rfl, rfl, rfl⟩
def E_M_bestGap (q : Nat) (x1 : Int32) (μ : zI) (ν : zJ) : Option (Int32 × zI × zJ) := e_M_bestGap_0 q x1 μ ν
theorem c_M_bestGap {l : Launch} {D : va_G} {dA : Nat → ClassId} {ad : Nat → Nat} {sh : List zSE} {μ : zI} {ν : zJ} {q : Nat} {x1 : Int32} (hm : zMo sh q) {out : (Int32 × zI × zJ)} (hE : E_M_bestGap q x1 μ ν = some out) : zC l D dA ad sh m_M_bestGap 9 0 0 [.ref (ad q), .int x1] μ ν (zOi out) :=
  zC.of (by decide) (Nat.le_of_ble_eq_true rfl) (z_M_bestGap_0 hm hE)
def e_M_bestWay_56 (q : Nat) (r24 : Int32 → Int32 → Int64 → Int32 → zI → zJ → Option (Int32 × zI × zJ)) (x1 : Int32) (x2 : Int32) (w3 : Int64) (x5 : Int32) (w6 : Int64) (μ : zI) (ν : zJ) : Option (Int32 × zI × zJ) := r24 x1 x2 w3 (x5 + 1) μ ν
theorem z_M_bestWay_56 {l : Launch} {D : va_G} {dA : Nat → ClassId} {ad : Nat → Nat} {sh : List zSE}  {q : Nat} (hm : zMo sh q) {r24 : Int32 → Int32 → Int64 → Int32 → zI → zJ → Option (Int32 × zI × zJ)} {x1 : Int32} {x2 : Int32} {w3 : Int64} {x5 : Int32} {w6 : Int64} {μ : zI} {ν : zJ} {out : (Int32 × zI × zJ)} (hr24 : ∀ (x1 : Int32) (x2 : Int32) (w3 : Int64) (x5 : Int32) (μ : zI) (ν : zJ), r24 x1 x2 w3 x5 μ ν = some out → Z l D dA ad sh m_M_bestWay (zR 9 0 0) (zS ad) (zOi out) 0 0 0 0 [] 24 [(0, .ref (ad q)), (1, .int x1), (2, .int x2), (3, .long w3), (5, .int x5)] [] μ ν) (hF : e_M_bestWay_56 q r24 x1 x2 w3 x5 w6 μ ν = some out) : Z l D dA ad sh m_M_bestWay (zR 9 0 0) (zS ad) (zOi out) 0 0 0 0 [] 56 [(0, .ref (ad q)), (1, .int x1), (2, .int x2), (3, .long w3), (5, .int x5), (6, .long w6)] [] μ ν := by
  unfold e_M_bestWay_56 at hF
  refine z_iinc d_M_bestWay_56 (k := 4) (v := (x5 + 1)) rfl rfl (by decide) (L2 := [(5, .int (x5 + 1)), (0, .ref (ad q)), (1, .int x1), (2, .int x2), (3, .long w3), (6, .long w6)]) rfl ?_
  refine z_goto d_M_bestWay_59 (tgt := 24) (by decide) ?_
  refine z_sub [1, 2, 3, 4, 0] (L' := [(0, .ref (ad q)), (1, .int x1), (2, .int x2), (3, .long w3), (5, .int (x5 + 1))]) rfl ?_
  exact hr24 _ _ _ _ _ _ hF
def f_M_bestWay_24 (q : Nat)  : Nat → Int32 → Int32 → Int64 → Int32 → zI → zJ → Option (Int32 × zI × zJ)
  | 0, _, _, _, _, _, _ => none
  | n + 1, x1, x2, w3, x5, μ, ν => (if 2 < x5 then some (x2, μ, ν) else Option.bind (E_M_givenBy q x1 2 x5 μ ν) fun ty2 => zlet (α := Int64) ty2.1 fun y3 => (if 0 < (lg_cmp y3 w3) then e_M_bestWay_56 q (f_M_bestWay_24 q n) x1 x5 y3 x5 y3 ty2.2.1 ty2.2.2 else e_M_bestWay_56 q (f_M_bestWay_24 q n) x1 x2 w3 x5 y3 ty2.2.1 ty2.2.2))
theorem z_M_bestWay_24 {l : Launch} {D : va_G} {dA : Nat → ClassId} {ad : Nat → Nat} {sh : List zSE}  {q : Nat} (hm : zMo sh q)  {out : (Int32 × zI × zJ)} : ∀ (n : Nat) (x1 : Int32) (x2 : Int32) (w3 : Int64) (x5 : Int32) (μ : zI) (ν : zJ), f_M_bestWay_24 q  n x1 x2 w3 x5 μ ν = some out → Z l D dA ad sh m_M_bestWay (zR 9 0 0) (zS ad) (zOi out) 0 0 0 0 [] 24 [(0, .ref (ad q)), (1, .int x1), (2, .int x2), (3, .long w3), (5, .int x5)] [] μ ν := by
  intro n
  induction n with
  | zero => intro x1 x2 w3 x5 μ ν hF; cases hF
  | succ n ih =>
    intro x1 x2 w3 x5 μ ν hF
    dsimp only [f_M_bestWay_24] at hF
    refine z_iload d_M_bestWay_24 4 rfl ?_
    refine z_iconst d_M_bestWay_26 (v := 2) (by decide) ?_
    refine z_icmp_gt d_M_bestWay_27 (tgt := 62) (by decide) (fun cy1 => ?_) (fun cy1 => ?_)
    · replace hF := zh_t cy1 hF
      refine z_iload_n d_M_bestWay_62 2 rfl rfl ?_
      cases hF
      exact z_ireturn d_M_bestWay_63 rfl rfl ⟨rfl, rfl, rfl⟩
    · replace hF := zh_f cy1 hF
      refine z_aload_n d_M_bestWay_30 0 rfl rfl ?_
      refine z_iload_n d_M_bestWay_31 1 rfl rfl ?_
      refine z_iconst d_M_bestWay_32 (v := 2) (by decide) ?_
      refine z_iload d_M_bestWay_33 4 rfl ?_
      obtain ⟨ty2, hty2, hF⟩ := zh_bind hF
      refine z_callV d_M_bestWay_35 (c_M_givenBy hm hty2) mv_M_givenBy l_M_315 (fun _ _ h => h) (hm 0 _ rfl) rfl rfl ⟨Nat.le_of_ble_eq_true rfl, Nat.le_of_ble_eq_true rfl⟩ ⟨Nat.le_of_ble_eq_true rfl, Nat.le_of_ble_eq_true rfl⟩ rfl (Nat.le_of_ble_eq_true rfl) (fun r μ' ν' hq => ?_)
      obtain ⟨rfl, rfl, rfl⟩ := hq
      show Z _ _ _ _ _ _ _ _ _ _ _ 0 0 _ _ _ [.long ty2.1] _ _
      obtain ⟨y3, hy3, hF⟩ := zh_let hF
      refine z_eql hy3 ?_
      refine z_lstore d_M_bestWay_38 (by decide) (L2 := [(6, .long y3), (0, .ref (ad q)), (1, .int x1), (2, .int x2), (3, .long w3), (5, .int x5)]) rfl ?_
      refine z_lload d_M_bestWay_40 0 rfl ?_
      refine z_lload_n d_M_bestWay_42 4 rfl rfl ?_
      refine z_lcmp d_M_bestWay_43 ?_
      refine z_if_gt d_M_bestWay_44 (tgt := 50) (by decide) (fun cy4 => ?_) (fun cy4 => ?_)
      · replace hF := zh_t cy4 hF
        refine z_iload d_M_bestWay_50 5 rfl ?_
        refine z_istore_n d_M_bestWay_52 rfl (by decide) (L2 := [(2, .int x5), (6, .long y3), (0, .ref (ad q)), (1, .int x1), (3, .long w3), (5, .int x5)]) rfl ?_
        refine z_lload d_M_bestWay_53 1 rfl ?_
        refine z_lstore_n d_M_bestWay_55 rfl (by decide) (L2 := [(3, .long y3), (2, .int x5), (6, .long y3), (0, .ref (ad q)), (1, .int x1), (5, .int x5)]) rfl ?_
        refine z_sub [3, 4, 1, 0, 5, 2] (L' := [(0, .ref (ad q)), (1, .int x1), (2, .int x5), (3, .long y3), (5, .int x5), (6, .long y3)]) rfl ?_
        exact z_M_bestWay_56 hm (fun a0 a1 a2 a3 a4 a5 => ih a0 a1 a2 a3 a4 a5) hF
      · replace hF := zh_f cy4 hF
        refine z_goto d_M_bestWay_47 (tgt := 56) (by decide) ?_
        refine z_sub [1, 2, 3, 4, 5, 0] (L' := [(0, .ref (ad q)), (1, .int x1), (2, .int x2), (3, .long w3), (5, .int x5), (6, .long y3)]) rfl ?_
        exact z_M_bestWay_56 hm (fun a0 a1 a2 a3 a4 a5 => ih a0 a1 a2 a3 a4 a5) hF
def e_M_bestWay_0 (q : Nat)  (x1 : Int32) (μ : zI) (ν : zJ) : Option (Int32 × zI × zJ) := zlet (zu μ q 0 0) fun μy1 => Option.bind (E_M_canTry q x1 μy1 ν) fun ty2 => (if ty2.1 = 0 then some ((-1), ty2.2.1, ty2.2.2) else f_M_bestWay_24 q zFuel x1 (-1) (-1) 0 ty2.2.1 ty2.2.2)
theorem z_M_bestWay_0 {l : Launch} {D : va_G} {dA : Nat → ClassId} {ad : Nat → Nat} {sh : List zSE}  {q : Nat} (hm : zMo sh q)  {x1 : Int32} {μ : zI} {ν : zJ} {out : (Int32 × zI × zJ)} (hF : e_M_bestWay_0 q  x1 μ ν = some out) : Z l D dA ad sh m_M_bestWay (zR 9 0 0) (zS ad) (zOi out) 0 0 0 0 [] 0 [(0, .ref (ad q)), (1, .int x1)] [] μ ν := by
  unfold e_M_bestWay_0 at hF
  refine z_aload_n d_M_bestWay_0 0 rfl rfl ?_
  refine z_iconst d_M_bestWay_1 (v := 0) (by decide) ?_
  refine z_put d_M_bestWay_2 f_M_55 (hm 0 _ rfl) rfl (CL_fin _ _ (fun q hq => by cases hq; rfl)) rfl rfl ?_
  obtain ⟨μy1, hy1, hF⟩ := zh_let hF
  refine z_eqm hy1 ?_
  refine z_aload_n d_M_bestWay_5 0 rfl rfl ?_
  refine z_iload_n d_M_bestWay_6 1 rfl rfl ?_
  obtain ⟨ty2, hty2, hF⟩ := zh_bind hF
  refine z_callV d_M_bestWay_7 (c_M_canTry hm hty2) mv_M_canTry l_M_294 (fun _ _ h => h) (hm 0 _ rfl) rfl rfl ⟨Nat.le_of_ble_eq_true rfl, Nat.le_of_ble_eq_true rfl⟩ ⟨Nat.le_of_ble_eq_true rfl, Nat.le_of_ble_eq_true rfl⟩ rfl (Nat.le_of_ble_eq_true rfl) (fun r μ' ν' hq => ?_)
  obtain ⟨rfl, rfl, rfl⟩ := hq
  show Z _ _ _ _ _ _ _ _ _ _ _ 0 0 _ _ _ [.int ty2.1] _ _
  refine z_if_ne d_M_bestWay_10 (tgt := 15) (by decide) (fun cy3 => ?_) (fun cy3 => ?_)
  · replace hF := zh_f cy3 hF
    refine z_iconst d_M_bestWay_15 (v := (-1)) (by decide) ?_
    refine z_istore_n d_M_bestWay_16 rfl (by decide) (L2 := [(2, .int (-1)), (0, .ref (ad q)), (1, .int x1)]) rfl ?_
    refine z_ldc2 d_M_bestWay_17 k_M_285 ?_
    refine z_lstore_n d_M_bestWay_20 rfl (by decide) (L2 := [(3, .long (-1)), (2, .int (-1)), (0, .ref (ad q)), (1, .int x1)]) rfl ?_
    refine z_iconst d_M_bestWay_21 (v := 0) (by decide) ?_
    refine z_istore d_M_bestWay_22 (by decide) (L2 := [(5, .int 0), (3, .long (-1)), (2, .int (-1)), (0, .ref (ad q)), (1, .int x1)]) rfl ?_
    refine z_sub [3, 4, 2, 1, 0] (L' := [(0, .ref (ad q)), (1, .int x1), (2, .int (-1)), (3, .long (-1)), (5, .int 0)]) rfl ?_
    exact z_M_bestWay_24 hm  zFuel _ _ _ _ _ _ hF
  · replace hF := zh_t cy3 hF
    refine z_iconst d_M_bestWay_13 (v := (-1)) (by decide) ?_
    cases hF
    exact z_ireturn d_M_bestWay_14 rfl rfl ⟨rfl, rfl, rfl⟩
def E_M_bestWay (q : Nat) (x1 : Int32) (μ : zI) (ν : zJ) : Option (Int32 × zI × zJ) := e_M_bestWay_0 q x1 μ ν
theorem c_M_bestWay {l : Launch} {D : va_G} {dA : Nat → ClassId} {ad : Nat → Nat} {sh : List zSE} {μ : zI} {ν : zJ} {q : Nat} {x1 : Int32} (hm : zMo sh q) {out : (Int32 × zI × zJ)} (hE : E_M_bestWay q x1 μ ν = some out) : zC l D dA ad sh m_M_bestWay 9 0 0 [.ref (ad q), .int x1] μ ν (zOi out) :=
  zC.of (by decide) (Nat.le_of_ble_eq_true rfl) (z_M_bestWay_0 hm hE)
def e_M_ifNear_20 (q : Nat)  (x1 : Int32) (x2 : Int32) (μ : zI) (ν : zJ) : Option (Int32 × zI × zJ) := some ((-1), μ, ν)
theorem z_M_ifNear_20 {l : Launch} {D : va_G} {dA : Nat → ClassId} {ad : Nat → Nat} {sh : List zSE}  {q : Nat} (hm : zMo sh q)  {x1 : Int32} {x2 : Int32} {μ : zI} {ν : zJ} {out : (Int32 × zI × zJ)} (hF : e_M_ifNear_20 q  x1 x2 μ ν = some out) : Z l D dA ad sh m_M_ifNear (zR 7 0 0) (zS ad) (zOi out) 0 0 0 0 [] 20 [(0, .ref (ad q)), (1, .int x1), (2, .int x2)] [] μ ν := by
  unfold e_M_ifNear_20 at hF
  refine z_iconst d_M_ifNear_20 (v := (-1)) (by decide) ?_
  cases hF
  exact z_ireturn d_M_ifNear_21 rfl rfl ⟨rfl, rfl, rfl⟩
def e_M_ifNear_68 (q : Nat) (r31 : Int32 → Int32 → Int32 → Int32 → zI → zJ → Option (Int32 × zI × zJ)) (x1 : Int32) (x2 : Int32) (x3 : Int32) (x4 : Int32) (s0 : Int32) (s1 : Int32) (μ : zI) (ν : zJ) : Option (Int32 × zI × zJ) := zlet (α := Int32) (s0 + s1) fun y1 => r31 x1 x2 y1 (x4 + 1) μ ν
theorem z_M_ifNear_68 {l : Launch} {D : va_G} {dA : Nat → ClassId} {ad : Nat → Nat} {sh : List zSE}  {q : Nat} (hm : zMo sh q) {r31 : Int32 → Int32 → Int32 → Int32 → zI → zJ → Option (Int32 × zI × zJ)} {x1 : Int32} {x2 : Int32} {x3 : Int32} {x4 : Int32} {s0 : Int32} {s1 : Int32} {μ : zI} {ν : zJ} {out : (Int32 × zI × zJ)} (hr31 : ∀ (x1 : Int32) (x2 : Int32) (x3 : Int32) (x4 : Int32) (μ : zI) (ν : zJ), r31 x1 x2 x3 x4 μ ν = some out → Z l D dA ad sh m_M_ifNear (zR 7 0 0) (zS ad) (zOi out) 0 0 0 0 [] 31 [(0, .ref (ad q)), (1, .int x1), (2, .int x2), (3, .int x3), (4, .int x4)] [] μ ν) (hF : e_M_ifNear_68 q r31 x1 x2 x3 x4 s0 s1 μ ν = some out) : Z l D dA ad sh m_M_ifNear (zR 7 0 0) (zS ad) (zOi out) 0 0 0 0 [] 68 [(0, .ref (ad q)), (1, .int x1), (2, .int x2), (3, .int x3), (4, .int x4)] [.int s1, .int s0] μ ν := by
  unfold e_M_ifNear_68 at hF
  refine z_iadd d_M_ifNear_68 ?_
  obtain ⟨y1, hy1, hF⟩ := zh_let hF
  refine z_eqi hy1 ?_
  refine z_istore_n d_M_ifNear_69 rfl (by decide) (L2 := [(3, .int y1), (0, .ref (ad q)), (1, .int x1), (2, .int x2), (4, .int x4)]) rfl ?_
  refine z_iinc d_M_ifNear_70 (k := 4) (v := (x4 + 1)) rfl rfl (by decide) (L2 := [(4, .int (x4 + 1)), (3, .int y1), (0, .ref (ad q)), (1, .int x1), (2, .int x2)]) rfl ?_
  refine z_goto d_M_ifNear_73 (tgt := 31) (by decide) ?_
  refine z_sub [2, 3, 4, 1, 0] (L' := [(0, .ref (ad q)), (1, .int x1), (2, .int x2), (3, .int y1), (4, .int (x4 + 1))]) rfl ?_
  exact hr31 _ _ _ _ _ _ hF
def f_M_ifNear_31 (q : Nat)  : Nat → Int32 → Int32 → Int32 → Int32 → zI → zJ → Option (Int32 × zI × zJ)
  | 0, _, _, _, _, _, _ => none
  | n + 1, x1, x2, x3, x4, μ, ν => (if x1 ≤ x4 then Option.bind (E_M_comesBack q μ ν) fun ty2 => some (x3, ty2.1, ty2.2) else Option.bind (E_M_ticksOnce q μ ν) fun ty3 => Option.bind (E_M_bestNow q ty3.1 ty3.2) fun ty4 => (if (lg_cmp (100 * (Int32.toInt64 (ty3.1 q 30))) ((Int32.toInt64 x2) * (Int32.toInt64 ty4.1))) < 0 then e_M_ifNear_68 q (f_M_ifNear_31 q n) x1 x2 x3 x4 x3 0 ty4.2.1 ty4.2.2 else e_M_ifNear_68 q (f_M_ifNear_31 q n) x1 x2 x3 x4 x3 1 ty4.2.1 ty4.2.2))
theorem z_M_ifNear_31 {l : Launch} {D : va_G} {dA : Nat → ClassId} {ad : Nat → Nat} {sh : List zSE}  {q : Nat} (hm : zMo sh q)  {out : (Int32 × zI × zJ)} : ∀ (n : Nat) (x1 : Int32) (x2 : Int32) (x3 : Int32) (x4 : Int32) (μ : zI) (ν : zJ), f_M_ifNear_31 q  n x1 x2 x3 x4 μ ν = some out → Z l D dA ad sh m_M_ifNear (zR 7 0 0) (zS ad) (zOi out) 0 0 0 0 [] 31 [(0, .ref (ad q)), (1, .int x1), (2, .int x2), (3, .int x3), (4, .int x4)] [] μ ν := by
  intro n
  induction n with
  | zero => intro x1 x2 x3 x4 μ ν hF; cases hF
  | succ n ih =>
    intro x1 x2 x3 x4 μ ν hF
    dsimp only [f_M_ifNear_31] at hF
    refine z_iload d_M_ifNear_31 4 rfl ?_
    refine z_iload_n d_M_ifNear_33 1 rfl rfl ?_
    refine z_icmp_ge d_M_ifNear_34 (tgt := 76) (by decide) (fun cy1 => ?_) (fun cy1 => ?_)
    · replace hF := zh_t cy1 hF
      refine z_aload_n d_M_ifNear_76 0 rfl rfl ?_
      obtain ⟨ty2, hty2, hF⟩ := zh_bind hF
      refine z_callV d_M_ifNear_77 (c_M_comesBack hm hty2) mv_M_comesBack l_M_303 (fun _ _ h => h) (hm 0 _ rfl) rfl rfl ⟨Nat.le_of_ble_eq_true rfl, Nat.le_of_ble_eq_true rfl⟩ ⟨Nat.le_of_ble_eq_true rfl, Nat.le_of_ble_eq_true rfl⟩ rfl (Nat.le_of_ble_eq_true rfl) (fun r μ' ν' hq => ?_)
      obtain ⟨rfl, rfl, rfl⟩ := hq
      show Z _ _ _ _ _ _ _ _ _ _ _ 0 0 _ _ _ [] _ _
      refine z_iload_n d_M_ifNear_80 3 rfl rfl ?_
      cases hF
      exact z_ireturn d_M_ifNear_81 rfl rfl ⟨rfl, rfl, rfl⟩
    · replace hF := zh_f cy1 hF
      refine z_aload_n d_M_ifNear_37 0 rfl rfl ?_
      obtain ⟨ty3, hty3, hF⟩ := zh_bind hF
      refine z_callV d_M_ifNear_38 (c_M_ticksOnce hm hty3) mv_M_ticksOnce l_M_262 (fun _ _ h => h) (hm 0 _ rfl) rfl rfl ⟨Nat.le_of_ble_eq_true rfl, Nat.le_of_ble_eq_true rfl⟩ ⟨Nat.le_of_ble_eq_true rfl, Nat.le_of_ble_eq_true rfl⟩ rfl (Nat.le_of_ble_eq_true rfl) (fun r μ' ν' hq => ?_)
      obtain ⟨rfl, rfl, rfl⟩ := hq
      show Z _ _ _ _ _ _ _ _ _ _ _ 0 0 _ _ _ [] _ _
      refine z_iload_n d_M_ifNear_41 3 rfl rfl ?_
      refine z_ldc2 d_M_ifNear_42 k_M_227 ?_
      refine z_aload_n d_M_ifNear_45 0 rfl rfl ?_
      refine z_get d_M_ifNear_46 f_M_200 (hm 0 _ rfl) rfl ?_
      refine z_i2l d_M_ifNear_49 ?_
      refine z_lmul d_M_ifNear_50 ?_
      refine z_iload_n d_M_ifNear_51 2 rfl rfl ?_
      refine z_i2l d_M_ifNear_52 ?_
      refine z_aload_n d_M_ifNear_53 0 rfl rfl ?_
      obtain ⟨ty4, hty4, hF⟩ := zh_bind hF
      refine z_callV d_M_ifNear_54 (c_M_bestNow hm hty4) mv_M_bestNow l_M_256 (fun _ _ h => h) (hm 0 _ rfl) rfl rfl ⟨Nat.le_of_ble_eq_true rfl, Nat.le_of_ble_eq_true rfl⟩ ⟨Nat.le_of_ble_eq_true rfl, Nat.le_of_ble_eq_true rfl⟩ rfl (Nat.le_of_ble_eq_true rfl) (fun r μ' ν' hq => ?_)
      obtain ⟨rfl, rfl, rfl⟩ := hq
      show Z _ _ _ _ _ _ _ _ _ _ _ 0 0 _ _ _ [.int ty4.1, .long (Int32.toInt64 x2), .long (100 * (Int32.toInt64 (ty3.1 q 30))), .int x3] _ _
      refine z_i2l d_M_ifNear_57 ?_
      refine z_lmul d_M_ifNear_58 ?_
      refine z_lcmp d_M_ifNear_59 ?_
      refine z_if_lt d_M_ifNear_60 (tgt := 67) (by decide) (fun cy5 => ?_) (fun cy5 => ?_)
      · replace hF := zh_t cy5 hF
        refine z_iconst d_M_ifNear_67 (v := 0) (by decide) ?_
        exact z_M_ifNear_68 hm (fun a0 a1 a2 a3 a4 a5 => ih a0 a1 a2 a3 a4 a5) hF
      · replace hF := zh_f cy5 hF
        refine z_iconst d_M_ifNear_63 (v := 1) (by decide) ?_
        refine z_goto d_M_ifNear_64 (tgt := 68) (by decide) ?_
        exact z_M_ifNear_68 hm (fun a0 a1 a2 a3 a4 a5 => ih a0 a1 a2 a3 a4 a5) hF
def e_M_ifNear_0 (q : Nat)  (x1 : Int32) (x2 : Int32) (μ : zI) (ν : zJ) : Option (Int32 × zI × zJ) := zlet (zu μ q 0 0) fun μy1 => Option.bind (E_M_canTry q x1 μy1 ν) fun ty2 => (if ty2.1 = 0 then e_M_ifNear_20 q x1 x2 ty2.2.1 ty2.2.2 else Option.bind (E_M_isPart x2 ty2.2.1 ty2.2.2) fun ty4 => (if ty4.1 = 0 then e_M_ifNear_20 q x1 x2 ty4.2.1 ty4.2.2 else Option.bind (E_M_goesAside q ty4.2.1 ty4.2.2) fun ty6 => f_M_ifNear_31 q zFuel x1 x2 0 0 ty6.1 ty6.2))
theorem z_M_ifNear_0 {l : Launch} {D : va_G} {dA : Nat → ClassId} {ad : Nat → Nat} {sh : List zSE}  {q : Nat} (hm : zMo sh q)  {x1 : Int32} {x2 : Int32} {μ : zI} {ν : zJ} {out : (Int32 × zI × zJ)} (hF : e_M_ifNear_0 q  x1 x2 μ ν = some out) : Z l D dA ad sh m_M_ifNear (zR 7 0 0) (zS ad) (zOi out) 0 0 0 0 [] 0 [(0, .ref (ad q)), (1, .int x1), (2, .int x2)] [] μ ν := by
  unfold e_M_ifNear_0 at hF
  refine z_aload_n d_M_ifNear_0 0 rfl rfl ?_
  refine z_iconst d_M_ifNear_1 (v := 0) (by decide) ?_
  refine z_put d_M_ifNear_2 f_M_55 (hm 0 _ rfl) rfl (CL_fin _ _ (fun q hq => by cases hq; rfl)) rfl rfl ?_
  obtain ⟨μy1, hy1, hF⟩ := zh_let hF
  refine z_eqm hy1 ?_
  refine z_aload_n d_M_ifNear_5 0 rfl rfl ?_
  refine z_iload_n d_M_ifNear_6 1 rfl rfl ?_
  obtain ⟨ty2, hty2, hF⟩ := zh_bind hF
  refine z_callV d_M_ifNear_7 (c_M_canTry hm hty2) mv_M_canTry l_M_294 (fun _ _ h => h) (hm 0 _ rfl) rfl rfl ⟨Nat.le_of_ble_eq_true rfl, Nat.le_of_ble_eq_true rfl⟩ ⟨Nat.le_of_ble_eq_true rfl, Nat.le_of_ble_eq_true rfl⟩ rfl (Nat.le_of_ble_eq_true rfl) (fun r μ' ν' hq => ?_)
  obtain ⟨rfl, rfl, rfl⟩ := hq
  show Z _ _ _ _ _ _ _ _ _ _ _ 0 0 _ _ _ [.int ty2.1] _ _
  refine z_if_eq d_M_ifNear_10 (tgt := 20) (by decide) (fun cy3 => ?_) (fun cy3 => ?_)
  · replace hF := zh_t cy3 hF
    exact z_M_ifNear_20 hm  hF
  · replace hF := zh_f cy3 hF
    refine z_iload_n d_M_ifNear_13 2 rfl rfl ?_
    obtain ⟨ty4, hty4, hF⟩ := zh_bind hF
    refine z_callS d_M_ifNear_14 (c_M_isPart  hty4) ms_M_isPart l_M_287 (fun _ _ h => h) rfl ⟨Nat.le_of_ble_eq_true rfl, Nat.le_of_ble_eq_true rfl⟩ ⟨Nat.le_of_ble_eq_true rfl, Nat.le_of_ble_eq_true rfl⟩ rfl (Nat.le_of_ble_eq_true rfl) (fun r μ' ν' hq => ?_)
    obtain ⟨rfl, rfl, rfl⟩ := hq
    show Z _ _ _ _ _ _ _ _ _ _ _ 0 0 _ _ _ [.int ty4.1] _ _
    refine z_if_ne d_M_ifNear_17 (tgt := 22) (by decide) (fun cy5 => ?_) (fun cy5 => ?_)
    · replace hF := zh_f cy5 hF
      refine z_aload_n d_M_ifNear_22 0 rfl rfl ?_
      obtain ⟨ty6, hty6, hF⟩ := zh_bind hF
      refine z_callV d_M_ifNear_23 (c_M_goesAside hm hty6) mv_M_goesAside l_M_297 (fun _ _ h => h) (hm 0 _ rfl) rfl rfl ⟨Nat.le_of_ble_eq_true rfl, Nat.le_of_ble_eq_true rfl⟩ ⟨Nat.le_of_ble_eq_true rfl, Nat.le_of_ble_eq_true rfl⟩ rfl (Nat.le_of_ble_eq_true rfl) (fun r μ' ν' hq => ?_)
      obtain ⟨rfl, rfl, rfl⟩ := hq
      show Z _ _ _ _ _ _ _ _ _ _ _ 0 0 _ _ _ [] _ _
      refine z_iconst d_M_ifNear_26 (v := 0) (by decide) ?_
      refine z_istore_n d_M_ifNear_27 rfl (by decide) (L2 := [(3, .int 0), (0, .ref (ad q)), (1, .int x1), (2, .int x2)]) rfl ?_
      refine z_iconst d_M_ifNear_28 (v := 0) (by decide) ?_
      refine z_istore d_M_ifNear_29 (by decide) (L2 := [(4, .int 0), (3, .int 0), (0, .ref (ad q)), (1, .int x1), (2, .int x2)]) rfl ?_
      refine z_sub [2, 3, 4, 1, 0] (L' := [(0, .ref (ad q)), (1, .int x1), (2, .int x2), (3, .int 0), (4, .int 0)]) rfl ?_
      exact z_M_ifNear_31 hm  zFuel _ _ _ _ _ _ hF
    · replace hF := zh_t cy5 hF
      exact z_M_ifNear_20 hm  hF
def E_M_ifNear (q : Nat) (x1 : Int32) (x2 : Int32) (μ : zI) (ν : zJ) : Option (Int32 × zI × zJ) := e_M_ifNear_0 q x1 x2 μ ν
theorem c_M_ifNear {l : Launch} {D : va_G} {dA : Nat → ClassId} {ad : Nat → Nat} {sh : List zSE} {μ : zI} {ν : zJ} {q : Nat} {x1 : Int32} {x2 : Int32} (hm : zMo sh q) {out : (Int32 × zI × zJ)} (hE : E_M_ifNear q x1 x2 μ ν = some out) : zC l D dA ad sh m_M_ifNear 7 0 0 [.ref (ad q), .int x1, .int x2] μ ν (zOi out) :=
  zC.of (by decide) (Nat.le_of_ble_eq_true rfl) (z_M_ifNear_0 hm hE)
def e_M_count_0 (q : Nat)  (x1 : Int32) (μ : zI) (ν : zJ) : Option (Int32 × zI × zJ) := zlet (zu μ q 0 0) fun μy1 => (if x1 = 0 then some ((μy1 q 9), μy1, ν) else (if x1 = 1 then some ((μy1 (q + 7) 46), μy1, ν) else (if x1 = 2 then some ((μy1 q 28), μy1, ν) else (if x1 = 3 then some ((μy1 q 2), μy1, ν) else some ((-1), μy1, ν)))))
theorem z_M_count_0 {l : Launch} {D : va_G} {dA : Nat → ClassId} {ad : Nat → Nat} {sh : List zSE}  {q : Nat} (hm : zMo sh q)  {x1 : Int32} {μ : zI} {ν : zJ} {out : (Int32 × zI × zJ)} (hF : e_M_count_0 q  x1 μ ν = some out) : Z l D dA ad sh m_M_count (zR 0 0 0) (zS ad) (zOi out) 0 0 0 0 [] 0 [(0, .ref (ad q)), (1, .int x1)] [] μ ν := by
  unfold e_M_count_0 at hF
  refine z_aload_n d_M_count_0 0 rfl rfl ?_
  refine z_iconst d_M_count_1 (v := 0) (by decide) ?_
  refine z_put d_M_count_2 f_M_55 (hm 0 _ rfl) rfl (CL_fin _ _ (fun q hq => by cases hq; rfl)) rfl rfl ?_
  obtain ⟨μy1, hy1, hF⟩ := zh_let hF
  refine z_eqm hy1 ?_
  refine z_iload_n d_M_count_5 1 rfl rfl ?_
  by_cases cy2 : x1 = 0
  · replace hF := zh_t cy2 hF
    refine z_tabIn d_M_count_6 (tgt := 36) 0 cy2 (by decide) (by decide) (off := 30) (by decide) (by decide) ?_
    refine z_aload_n d_M_count_36 0 rfl rfl ?_
    refine z_get d_M_count_37 f_M_168 (hm 0 _ rfl) rfl ?_
    cases hF
    exact z_ireturn d_M_count_40 rfl rfl ⟨rfl, rfl, rfl⟩
  · replace hF := zh_f cy2 hF
    by_cases cy3 : x1 = 1
    · replace hF := zh_t cy3 hF
      refine z_tabIn d_M_count_6 (tgt := 41) 1 cy3 (by decide) (by decide) (off := 35) (by decide) (by decide) ?_
      refine z_aload_n d_M_count_41 0 rfl rfl ?_
      refine z_getr d_M_count_42 (q := (q + 7)) f_M_33 (hm 0 _ rfl) rfl ?_
      refine z_bipush d_M_count_45 (v := 46) (by decide) ?_
      refine z_iald d_M_count_47 (hm 7 _ rfl) (zin_vp rfl) ?_
      show Z _ _ _ _ _ _ _ _ _ _ _ _ _ _ _ _ [.int (μy1 (q + 7) 46)] _ _
      cases hF
      exact z_ireturn d_M_count_48 rfl rfl ⟨rfl, rfl, rfl⟩
    · replace hF := zh_f cy3 hF
      by_cases cy4 : x1 = 2
      · replace hF := zh_t cy4 hF
        refine z_tabIn d_M_count_6 (tgt := 49) 2 cy4 (by decide) (by decide) (off := 43) (by decide) (by decide) ?_
        refine z_aload_n d_M_count_49 0 rfl rfl ?_
        refine z_get d_M_count_50 f_M_175 (hm 0 _ rfl) rfl ?_
        cases hF
        exact z_ireturn d_M_count_53 rfl rfl ⟨rfl, rfl, rfl⟩
      · replace hF := zh_f cy4 hF
        by_cases cy5 : x1 = 3
        · replace hF := zh_t cy5 hF
          refine z_tabIn d_M_count_6 (tgt := 54) 3 cy5 (by decide) (by decide) (off := 48) (by decide) (by decide) ?_
          refine z_aload_n d_M_count_54 0 rfl rfl ?_
          refine z_get d_M_count_55 f_M_58 (hm 0 _ rfl) rfl ?_
          cases hF
          exact z_ireturn d_M_count_58 rfl rfl ⟨rfl, rfl, rfl⟩
        · replace hF := zh_f cy5 hF
          refine z_tabOut d_M_count_6 (tgt := 59) [0, 1, 2, 3] (List.forall_mem_cons.mpr ⟨cy2, List.forall_mem_cons.mpr ⟨cy3, List.forall_mem_cons.mpr ⟨cy4, List.forall_mem_cons.mpr ⟨cy5, fun _ h => absurd h List.not_mem_nil⟩⟩⟩⟩) (by decide) (by decide) ?_
          refine z_iconst d_M_count_59 (v := (-1)) (by decide) ?_
          cases hF
          exact z_ireturn d_M_count_60 rfl rfl ⟨rfl, rfl, rfl⟩
def E_M_count (q : Nat) (x1 : Int32) (μ : zI) (ν : zJ) : Option (Int32 × zI × zJ) := e_M_count_0 q x1 μ ν
theorem c_M_count {l : Launch} {D : va_G} {dA : Nat → ClassId} {ad : Nat → Nat} {sh : List zSE} {μ : zI} {ν : zJ} {q : Nat} {x1 : Int32} (hm : zMo sh q) {out : (Int32 × zI × zJ)} (hE : E_M_count q x1 μ ν = some out) : zC l D dA ad sh m_M_count 0 0 0 [.ref (ad q), .int x1] μ ν (zOi out) :=
  zC.of (by decide) (Nat.le_of_ble_eq_true rfl) (z_M_count_0 hm hE)
