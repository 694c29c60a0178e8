/-! String constants, enum constants, and the methods of the JDK that are called on them. -/
def m_J_isLatin1 : zM := (⟨"java/lang/String", "isLatin1", "()Z"⟩, prog_24_method_154_code, 1, some .boolean)
theorem mv_J_isLatin1 : zMv m_J_isLatin1 0 := ⟨⟨(zt1 16 (by decide +kernel) rfl), (zt3 33 (by decide +kernel) rfl), by decide, by decide, rfl⟩, (zt3 31 (by decide +kernel) rfl), (zt3 32 (by decide +kernel) rfl)⟩
theorem d_J_isLatin1_0 : decode m_J_isLatin1.2.1 0 = .ok (.getstatic 38, 3) := by decide +kernel
theorem d_J_isLatin1_3 : decode m_J_isLatin1.2.1 3 = .ok (.ifCond .eq 14, 3) := by decide +kernel
theorem d_J_isLatin1_6 : decode m_J_isLatin1.2.1 6 = .ok (.aload_n 0, 1) := by decide +kernel
theorem d_J_isLatin1_7 : decode m_J_isLatin1.2.1 7 = .ok (.getfield 15, 3) := by decide +kernel
theorem d_J_isLatin1_10 : decode m_J_isLatin1.2.1 10 = .ok (.ifCond .ne 7, 3) := by decide +kernel
theorem d_J_isLatin1_13 : decode m_J_isLatin1.2.1 13 = .ok (.iconst 1, 1) := by decide +kernel
theorem d_J_isLatin1_14 : decode m_J_isLatin1.2.1 14 = .ok (.goto 4, 3) := by decide +kernel
theorem d_J_isLatin1_18 : decode m_J_isLatin1.2.1 18 = .ok (.ireturn, 1) := by decide +kernel
def m_J_coder : zM := (⟨"java/lang/String", "coder", "()B"⟩, prog_24_method_152_code, 1, some .byte)
theorem mv_J_coder : zMv m_J_coder 0 := ⟨⟨(zt1 16 (by decide +kernel) rfl), (zt3 23 (by decide +kernel) rfl), by decide, by decide, rfl⟩, (zt3 21 (by decide +kernel) rfl), (zt3 22 (by decide +kernel) rfl)⟩
theorem d_J_coder_0 : decode m_J_coder.2.1 0 = .ok (.getstatic 38, 3) := by decide +kernel
theorem d_J_coder_3 : decode m_J_coder.2.1 3 = .ok (.ifCond .eq 10, 3) := by decide +kernel
theorem d_J_coder_6 : decode m_J_coder.2.1 6 = .ok (.aload_n 0, 1) := by decide +kernel
theorem d_J_coder_7 : decode m_J_coder.2.1 7 = .ok (.getfield 15, 3) := by decide +kernel
theorem d_J_coder_10 : decode m_J_coder.2.1 10 = .ok (.goto 4, 3) := by decide +kernel
theorem d_J_coder_14 : decode m_J_coder.2.1 14 = .ok (.ireturn, 1) := by decide +kernel
def m_J_length : zM := (⟨"java/lang/String", "length", "()I"⟩, prog_24_method_54_code, 1, some .int)
theorem mv_J_length : zMv m_J_length 0 := ⟨⟨(zt1 16 (by decide +kernel) rfl), (zt3 19 (by decide +kernel) rfl), by decide, by decide, rfl⟩, (zt3 17 (by decide +kernel) rfl), (zt3 18 (by decide +kernel) rfl)⟩
theorem d_J_length_0 : decode m_J_length.2.1 0 = .ok (.aload_n 0, 1) := by decide +kernel
theorem d_J_length_1 : decode m_J_length.2.1 1 = .ok (.getfield 9, 3) := by decide +kernel
theorem d_J_length_4 : decode m_J_length.2.1 4 = .ok (.arraylength, 1) := by decide +kernel
theorem d_J_length_5 : decode m_J_length.2.1 5 = .ok (.aload_n 0, 1) := by decide +kernel
theorem d_J_length_6 : decode m_J_length.2.1 6 = .ok (.invokevirtual 335, 3) := by decide +kernel
theorem d_J_length_9 : decode m_J_length.2.1 9 = .ok (.ishr, 1) := by decide +kernel
theorem d_J_length_10 : decode m_J_length.2.1 10 = .ok (.ireturn, 1) := by decide +kernel
def m_J_charAt : zM := (⟨"java/lang/String", "charAt", "(I)C"⟩, prog_24_method_56_code, 2, some .char)
theorem mv_J_charAt : zMv m_J_charAt 1 := ⟨⟨(zt1 16 (by decide +kernel) rfl), (zt3 29 (by decide +kernel) rfl), by decide, by decide, rfl⟩, (zt3 27 (by decide +kernel) rfl), (zt3 28 (by decide +kernel) rfl)⟩
theorem d_J_charAt_0 : decode m_J_charAt.2.1 0 = .ok (.aload_n 0, 1) := by decide +kernel
theorem d_J_charAt_1 : decode m_J_charAt.2.1 1 = .ok (.invokevirtual 492, 3) := by decide +kernel
theorem d_J_charAt_4 : decode m_J_charAt.2.1 4 = .ok (.ifCond .eq 12, 3) := by decide +kernel
theorem d_J_charAt_7 : decode m_J_charAt.2.1 7 = .ok (.aload_n 0, 1) := by decide +kernel
theorem d_J_charAt_8 : decode m_J_charAt.2.1 8 = .ok (.getfield 9, 3) := by decide +kernel
theorem d_J_charAt_11 : decode m_J_charAt.2.1 11 = .ok (.iload_n 1, 1) := by decide +kernel
theorem d_J_charAt_12 : decode m_J_charAt.2.1 12 = .ok (.invokestatic 495, 3) := by decide +kernel
theorem d_J_charAt_15 : decode m_J_charAt.2.1 15 = .ok (.ireturn, 1) := by decide +kernel
def m_J_sck : zM := (⟨"java/lang/String", "checkIndex", "(II)V"⟩, prog_24_method_155_code, 2, none)
theorem ms_J_sck : zMs m_J_sck 2 := ⟨⟨(zt1 16 (by decide +kernel) rfl), (zt3 39 (by decide +kernel) rfl), by decide, by decide, rfl⟩, (zt3 38 (by decide +kernel) rfl)⟩
theorem d_J_sck_0 : decode m_J_sck.2.1 0 = .ok (.iload_n 0, 1) := by decide +kernel
theorem d_J_sck_1 : decode m_J_sck.2.1 1 = .ok (.iload_n 1, 1) := by decide +kernel
theorem d_J_sck_2 : decode m_J_sck.2.1 2 = .ok (.getstatic 1053, 3) := by decide +kernel
theorem d_J_sck_5 : decode m_J_sck.2.1 5 = .ok (.invokestatic 1059, 3) := by decide +kernel
theorem d_J_sck_8 : decode m_J_sck.2.1 8 = .ok (.pop, 1) := by decide +kernel
theorem d_J_sck_9 : decode m_J_sck.2.1 9 = .ok (.return_, 1) := by decide +kernel
def m_J_pck : zM := (⟨"jdk/internal/util/Preconditions", "checkIndex", "(IILjava/util/function/BiFunction;)I"⟩, prog_33_method_11_code, 3, some .int)
theorem ms_J_pck : zMs m_J_pck 3 := ⟨⟨(zt1 18 (by decide +kernel) rfl), (zt3 44 (by decide +kernel) rfl), by decide, by decide, rfl⟩, (zt3 43 (by decide +kernel) rfl)⟩
theorem d_J_pck_0 : decode m_J_pck.2.1 0 = .ok (.iload_n 0, 1) := by decide +kernel
theorem d_J_pck_1 : decode m_J_pck.2.1 1 = .ok (.ifCond .lt 8, 3) := by decide +kernel
theorem d_J_pck_4 : decode m_J_pck.2.1 4 = .ok (.iload_n 0, 1) := by decide +kernel
theorem d_J_pck_5 : decode m_J_pck.2.1 5 = .ok (.iload_n 1, 1) := by decide +kernel
theorem d_J_pck_6 : decode m_J_pck.2.1 6 = .ok (.if_icmp .lt 10, 3) := by decide +kernel
theorem d_J_pck_16 : decode m_J_pck.2.1 16 = .ok (.iload_n 0, 1) := by decide +kernel
theorem d_J_pck_17 : decode m_J_pck.2.1 17 = .ok (.ireturn, 1) := by decide +kernel
def m_J_lch : zM := (⟨"java/lang/StringLatin1", "charAt", "([BI)C"⟩, prog_25_method_2_code, 2, some .char)
theorem ms_J_lch : zMs m_J_lch 2 := ⟨⟨(zt1 17 (by decide +kernel) rfl), (zt3 36 (by decide +kernel) rfl), by decide, by decide, rfl⟩, (zt3 35 (by decide +kernel) rfl)⟩
theorem d_J_lch_0 : decode m_J_lch.2.1 0 = .ok (.iload_n 1, 1) := by decide +kernel
theorem d_J_lch_1 : decode m_J_lch.2.1 1 = .ok (.aload_n 0, 1) := by decide +kernel
theorem d_J_lch_2 : decode m_J_lch.2.1 2 = .ok (.arraylength, 1) := by decide +kernel
theorem d_J_lch_3 : decode m_J_lch.2.1 3 = .ok (.invokestatic 9, 3) := by decide +kernel
theorem d_J_lch_6 : decode m_J_lch.2.1 6 = .ok (.aload_n 0, 1) := by decide +kernel
theorem d_J_lch_7 : decode m_J_lch.2.1 7 = .ok (.iload_n 1, 1) := by decide +kernel
theorem d_J_lch_8 : decode m_J_lch.2.1 8 = .ok (.baload, 1) := by decide +kernel
theorem d_J_lch_9 : decode m_J_lch.2.1 9 = .ok (.sipush 255, 3) := by decide +kernel
theorem d_J_lch_12 : decode m_J_lch.2.1 12 = .ok (.iand, 1) := by decide +kernel
theorem d_J_lch_13 : decode m_J_lch.2.1 13 = .ok (.i2c, 1) := by decide +kernel
theorem d_J_lch_14 : decode m_J_lch.2.1 14 = .ok (.ireturn, 1) := by decide +kernel
def m_J_ordinal : zM := (⟨"java/lang/Enum", "ordinal", "()I"⟩, prog_19_method_2_code, 1, some .int)
theorem md_J_ordinal : zMd m_J_ordinal 0 := ⟨(zt1 20 (by decide +kernel) rfl), (zt3 73 (by decide +kernel) rfl), by decide, by decide, rfl⟩
theorem d_J_ordinal_0 : decode m_J_ordinal.2.1 0 = .ok (.aload_n 0, 1) := by decide +kernel
theorem d_J_ordinal_1 : decode m_J_ordinal.2.1 1 = .ok (.getfield 7, 3) := by decide +kernel
theorem d_J_ordinal_4 : decode m_J_ordinal.2.1 4 = .ok (.ireturn, 1) := by decide +kernel
theorem fs_value : Cond.fieldLink "java/lang/String" 9 "java/lang/String" "value" "[B" ∈ TB := (zt8 18 (by decide +kernel) rfl)
theorem fs_coder : Cond.fieldLink "java/lang/String" 15 "java/lang/String" "coder" "B" ∈ TB := (zt8 19 (by decide +kernel) rfl)
theorem fs_compact : Cond.fieldLink "java/lang/String" 38 "java/lang/String" "COMPACT_STRINGS" "Z" ∈ TB := (zt3 24 (by decide +kernel) rfl)
theorem fs_sioobe : Cond.fieldLink "java/lang/String" 1053 "jdk/internal/util/Preconditions" "SIOOBE_FORMATTER" "Ljava/util/function/BiFunction;" ∈ TB := (zt3 40 (by decide +kernel) rfl)
theorem fs_ordinal : Cond.fieldLink "java/lang/Enum" 7 "java/lang/Enum" "ordinal" "I" ∈ TB := (zt8 20 (by decide +kernel) rfl)
theorem fe_first : Cond.fieldLink "SunPoint$Reader" 103 "SunPoint$Word" "first" "I" ∈ TB := (zt8 21 (by decide +kernel) rfl)
theorem fe_last : Cond.fieldLink "SunPoint$Reader" 106 "SunPoint$Word" "last" "I" ∈ TB := (zt8 22 (by decide +kernel) rfl)
theorem fe_letters : Cond.fieldLink "SunPoint$Reader" 160 "SunPoint$Word" "letters" "Ljava/lang/String;" ∈ TB := (zt8 17 (by decide +kernel) rfl)
theorem ls_335 : Cond.methodLink "java/lang/String" 335 ⟨"java/lang/String", "coder", "()B"⟩ ∈ TB := (zt3 20 (by decide +kernel) rfl)
theorem ls_492 : Cond.methodLink "java/lang/String" 492 ⟨"java/lang/String", "isLatin1", "()Z"⟩ ∈ TB := (zt3 30 (by decide +kernel) rfl)
theorem ls_495 : Cond.methodLink "java/lang/String" 495 ⟨"java/lang/StringLatin1", "charAt", "([BI)C"⟩ ∈ TB := (zt3 34 (by decide +kernel) rfl)
theorem ls_9 : Cond.methodLink "java/lang/StringLatin1" 9 ⟨"java/lang/String", "checkIndex", "(II)V"⟩ ∈ TB := (zt3 37 (by decide +kernel) rfl)
theorem ls_1059 : Cond.methodLink "java/lang/String" 1059 ⟨"jdk/internal/util/Preconditions", "checkIndex", "(IILjava/util/function/BiFunction;)I"⟩ ∈ TB := (zt3 42 (by decide +kernel) rfl)
theorem le_same : Cond.sameMethod "SunPoint$Word" "java/lang/Enum" "ordinal" "()I" ∈ TB := (zt3 69 (by decide +kernel) rfl)
theorem le_sel : Cond.selects "SunPoint$Word" ⟨"SunPoint$Word", "ordinal", "()I"⟩ m_J_ordinal.1 ∈ TB := (zt3 71 (by decide +kernel) rfl)
theorem le_inst : Cond.instanceMethod m_J_ordinal.1 ∈ TB := (zt3 72 (by decide +kernel) rfl)
section ZST
variable {l : Launch} {D : va_G} {dA : Nat → ClassId} {ad : Nat → Nat} {sh : List zSE} {y : zM} {R : Room} {X : (Nat → Prop) → State → Prop} {Q : zPost} {mc ms cells slots : Nat} {xw : va_W} {pc : Nat} {L : List (Nat × Value)} {S : List Value} {μ : zI} {ν : zJ}
theorem z_pop {v : Value} (hd : decode y.2.1 pc = .ok (.pop, 1)) (hv : v.category = 1)
    (kk : Z l D dA ad sh y R X Q mc ms cells slots xw (pc + 1) L S μ ν) : Z l D dA ad sh y R X Q mc ms cells slots xw pc L (v :: S) μ ν :=
  Z.row (fun p e s m args below meth c H locs ls A Qs hx hb ht ho hX0 h1 k9 => lv_pop hx hb hd hv k9) kk
theorem z_i2c {x : Int32} (hd : decode y.2.1 pc = .ok (.i2c, 1))
    (kk : Z l D dA ad sh y R X Q mc ms cells slots xw (pc + 1) L (.int (x.toUInt32 % 65536).toInt32 :: S) μ ν) : Z l D dA ad sh y R X Q mc ms cells slots xw pc L (.int x :: S) μ ν :=
  Z.row (fun p e s m args below meth c H locs ls A Qs hx hb ht ho hX0 h1 k9 => lv_i2c hx hb hd rfl k9) kk
theorem z_getsW {idx : Nat} (hd : decode y.2.1 pc = .ok (.getstatic idx, 3)) (hX : ∀ A s, X A s → zS ad A s) (hlk : Cond.fieldLink y.1.cls idx "SunPoint$Reader" "WORDS" "[LSunPoint$Word;" ∈ TB)
    (kk : Z l D dA ad sh y R X Q mc ms cells slots xw (pc + 3) L (.ref (ad 1000010) :: S) μ ν) : Z l D dA ad sh y R X Q mc ms cells slots xw pc L S μ ν :=
  Z.row (fun p e s m args below meth c H locs ls A Qs hx hb ht ho hX0 h1 k9 => va_gets hx hb (hX A s hX0).2.2.1.1 h1.1 ho (ht _ hlk) (fun _ h => h) hd k9) kk
theorem z_walen (hd : decode y.2.1 pc = .ok (.arraylength, 1)) (hX : ∀ A s, X A s → zS ad A s)
    (kk : Z l D dA ad sh y R X Q mc ms cells slots xw (pc + 1) L (.int 11 :: S) μ ν) : Z l D dA ad sh y R X Q mc ms cells slots xw pc L (.ref (ad 1000010) :: S) μ ν :=
  Z.row (fun p e s m args below meth c H locs ls A Qs hx hb ht ho hX0 h1 k9 => va_tlen hx hb (hX A s hX0).2.2.1.2 h1.1 rfl hd k9) kk
theorem z_waald {i : Int32} (hd : decode y.2.1 pc = .ok (.aaload, 1)) (hX : ∀ A s, X A s → zS ad A s) (hin : vp_in i 11)
    (kk : Z l D dA ad sh y R X Q mc ms cells slots xw (pc + 1) L (.ref (ad (1000100 + i.toNatClampNeg)) :: S) μ ν) : Z l D dA ad sh y R X Q mc ms cells slots xw pc L (.int i :: .ref (ad 1000010) :: S) μ ν :=
  Z.row (fun p e s m args below meth c H locs ls A Qs hx hb ht ho hX0 h1 k9 => vb_tq hx hb (hX A s hX0).2.2.1.2 h1.1 hin rfl hd k9) kk
theorem z_eint {idx k : Nat} {q : String × String × String × List Int32} (hd : decode y.2.1 pc = .ok (.getfield idx, 3)) (hX : ∀ A s, X A s → zS ad A s) (hk : k < 11) (hq : q ∈ zWf) (hlk : Cond.fieldLink y.1.cls idx q.1 q.2.1 q.2.2.1 ∈ TB)
    (kk : Z l D dA ad sh y R X Q mc ms cells slots xw (pc + 3) L (.int (q.2.2.2.getD k 0) :: S) μ ν) : Z l D dA ad sh y R X Q mc ms cells slots xw pc L (.ref (ad (1000100 + k)) :: S) μ ν :=
  Z.row (fun p e s m args below meth c H locs ls A Qs hx hb ht ho hX0 h1 k9 => va_getE (ad := fun i => ad (1000100 + i)) hx hb (hX A s hX0).2.2.2.1 (i := k) hk h1.1 ho hq (ht _ hlk) (fun _ h => h) hd k9) kk
theorem z_elet {idx k : Nat} (hd : decode y.2.1 pc = .ok (.getfield idx, 3)) (hX : ∀ A s, X A s → zS ad A s) (hk : k < 11) (hlk : Cond.fieldLink y.1.cls idx "SunPoint$Word" "letters" "Ljava/lang/String;" ∈ TB)
    (kk : Z l D dA ad sh y R X Q mc ms cells slots xw (pc + 3) L (.ref (ad (1000200 + k)) :: S) μ ν) : Z l D dA ad sh y R X Q mc ms cells slots xw pc L (.ref (ad (1000100 + k)) :: S) μ ν :=
  Z.row (fun p e s m args below meth c H locs ls A Qs hx hb ht ho hX0 h1 k9 => va_getX (v := fun i => .ref (ad (1000200 + i))) (ad := fun i => ad (1000100 + i)) (i := k) hx hb (hX A s hX0).2.2.2.2.1 hk h1.1 ho (ht _ hlk) (fun _ h => h) hd k9) kk
theorem z_getsE {idx k : Nat} {nm : String} (hd : decode y.2.1 pc = .ok (.getstatic idx, 3)) (hX : ∀ A s, X A s → zS ad A s) (hk : k < 11) (hnm : zWd.getD k "" = nm) (hlk : Cond.fieldLink y.1.cls idx "SunPoint$Word" nm "LSunPoint$Word;" ∈ TB)
    (kk : Z l D dA ad sh y R X Q mc ms cells slots xw (pc + 3) L (.ref (ad (1000100 + k)) :: S) μ ν) : Z l D dA ad sh y R X Q mc ms cells slots xw pc L S μ ν := by
  subst hnm
  exact Z.row (fun p e s m args below meth c H locs ls A Qs hx hb ht ho hX0 h1 k9 => va_gets hx hb ((hX A s hX0).2.2.2.1.1 k hk).1 h1.1 ho (ht _ hlk) (fun _ h => h) hd k9) kk
theorem z_sval {idx k : Nat} (hd : decode y.2.1 pc = .ok (.getfield idx, 3)) (hX : ∀ A s, X A s → zS ad A s) (hk : k < 14) (hlk : Cond.fieldLink y.1.cls idx "java/lang/String" "value" "[B" ∈ TB)
    (kk : Z l D dA ad sh y R X Q mc ms cells slots xw (pc + 3) L (.ref (ad (1000300 + k)) :: S) μ ν) : Z l D dA ad sh y R X Q mc ms cells slots xw pc L (.ref (ad (1000200 + k)) :: S) μ ν :=
  Z.row (fun p e s m args below meth c H locs ls A Qs hx hb ht ho hX0 h1 k9 => vk_getf hx hb ((hX A s hX0).2.2.2.2.2.1.1 k hk).2.2.1 h1.1 ho (ht _ hlk) (fun _ h => h) hd k9) kk
theorem z_scod {idx k : Nat} (hd : decode y.2.1 pc = .ok (.getfield idx, 3)) (hX : ∀ A s, X A s → zS ad A s) (hk : k < 14) (hlk : Cond.fieldLink y.1.cls idx "java/lang/String" "coder" "B" ∈ TB)
    (kk : Z l D dA ad sh y R X Q mc ms cells slots xw (pc + 3) L (.int 0 :: S) μ ν) : Z l D dA ad sh y R X Q mc ms cells slots xw pc L (.ref (ad (1000200 + k)) :: S) μ ν :=
  Z.row (fun p e s m args below meth c H locs ls A Qs hx hb ht ho hX0 h1 k9 => vk_getf hx hb ((hX A s hX0).2.2.2.2.2.1.1 k hk).2.1 h1.1 ho (ht _ hlk) (fun _ h => h) hd k9) kk
def zSl (k : Nat) : Nat := (zStrs.map List.length).getD k 0
def zSb (k j : Nat) : Int32 := (zStrs.getD k []).getD j 0
theorem z_stlen {k : Nat} (hd : decode y.2.1 pc = .ok (.arraylength, 1)) (hX : ∀ A s, X A s → zS ad A s) (hk : k < 14)
    (kk : Z l D dA ad sh y R X Q mc ms cells slots xw (pc + 1) L (.int (nI (zSl k)) :: S) μ ν) : Z l D dA ad sh y R X Q mc ms cells slots xw pc L (.ref (ad (1000300 + k)) :: S) μ ν :=
  Z.row (fun p e s m args below meth c H locs ls A Qs hx hb ht ho hX0 h1 k9 => va_tlen hx hb ((hX A s hX0).2.2.2.2.2.1.1 k hk).2.2.2 h1.1 rfl hd k9) kk
theorem z_stbald {k : Nat} {i : Int32} (hd : decode y.2.1 pc = .ok (.baload, 1)) (hX : ∀ A s, X A s → zS ad A s) (hk : k < 14) (hin : vp_in i (zSl k))
    (kk : Z l D dA ad sh y R X Q mc ms cells slots xw (pc + 1) L (.int (zSb k i.toNatClampNeg) :: S) μ ν) : Z l D dA ad sh y R X Q mc ms cells slots xw pc L (.int i :: .ref (ad (1000300 + k)) :: S) μ ν :=
  Z.row (fun p e s m args below meth c H locs ls A Qs hx hb ht ho hX0 h1 k9 => va_tb hx hb ((hX A s hX0).2.2.2.2.2.1.1 k hk).2.2.2 h1.1 hin rfl hd k9) kk
theorem z_ldcW {idx : Nat} (hd : decode y.2.1 pc = .ok (.ldc 91, 2)) (hy : y.1.cls = "SunPointModel") (hX : ∀ A s, X A s → zS ad A s)
    (kk : Z l D dA ad sh y R X Q mc ms cells slots xw (pc + 2) L (.ref (ad (1000200 + 11)) :: S) μ ν) : Z l D dA ad sh y R X Q mc ms cells slots xw pc L S μ ν :=
  Z.row (fun p e s m args below meth c H locs ls A Qs hx hb ht ho hX0 h1 k9 => va_ldcS hx hb (by rw [hy] at ho; exact ho) (hX A s hX0).2.2.2.2.2.2.1.1 hd k9) kk
theorem z_getCS {idx : Nat} (hd : decode y.2.1 pc = .ok (.getstatic idx, 3)) (hX : ∀ A s, X A s → zS ad A s) (hlk : Cond.fieldLink y.1.cls idx "java/lang/String" "COMPACT_STRINGS" "Z" ∈ TB)
    (kk : Z l D dA ad sh y R X Q mc ms cells slots xw (pc + 3) L (.int 1 :: S) μ ν) : Z l D dA ad sh y R X Q mc ms cells slots xw pc L S μ ν :=
  Z.row (fun p e s m args below meth c H locs ls A Qs hx hb ht ho hX0 h1 k9 => va_gets hx hb (hX A s hX0).2.2.2.2.2.2.2.1 h1.1 ho (ht _ hlk) (fun _ h => h) hd k9) kk
theorem z_getSI {idx : Nat} (hd : decode y.2.1 pc = .ok (.getstatic idx, 3)) (hX : ∀ A s, X A s → zS ad A s) (hlk : Cond.fieldLink y.1.cls idx "jdk/internal/util/Preconditions" "SIOOBE_FORMATTER" "Ljava/util/function/BiFunction;" ∈ TB)
    (kk : ∀ v : Value, (v = .null ∨ ∃ t, v = .ref t) → Z l D dA ad sh y R X Q mc ms cells slots xw (pc + 3) L (v :: S) μ ν) : Z l D dA ad sh y R X Q mc ms cells slots xw pc L S μ ν := by
  intro p e s m args below meth c H locs ls A h0 h1
  obtain ⟨hx, hb, -, -, ht, ho, -, -, hX0⟩ := id h0
  rcases (hX A s hX0).2.2.2.2.2.2.2.2 with h | ⟨t, h⟩
  · exact va_gets hx hb h h1.1 ho (ht _ hlk) (fun _ h => h) hd (kk .null (Or.inl rfl) p e s m args below meth c H locs ls A h0 h1)
  · exact va_gets hx hb h h1.1 ho (ht _ hlk) (fun _ h => h) hd (kk (.ref t) (Or.inr ⟨t, rfl⟩) p e s m args below meth c H locs ls A h0 h1)
/-- a call on a receiver that is no cell of the world -/
theorem z_callVr {idx n d mc1 ms1 : Nat} {a : Nat} {z : zM} {As S0 : List Value} {Qz : zPost} (hd : decode y.2.1 pc = .ok (.invokevirtual idx, 3)) (hC : zC l D dA ad sh z d mc1 ms1 (.ref a :: As) μ ν Qz) (hz : zMv z n) (hlk : Cond.methodLink y.1.cls idx z.1 ∈ TB) (hX : ∀ A s, X A s → zS ad A s) (hrec : ∀ (A : Nat → Prop) (s : State) (H : Heap) (locs : List Loc), zS ad A s → va_S A s.heap H locs → ∃ cell : Cell, H[a]? = some cell ∧ cell.vm.isStatics = false ∧ s.vm.findClass z.1.cls = some cell.cls) (hn : As.length = n) (hR : d + 1 ≤ R.frames ∧ 8 + (z.2.2.1 + 11) + 40 * d ≤ R.locals) (hf : cells + mc1 ≤ R.cells ∧ slots + ms1 ≤ R.slots) (hst : S0 = As.reverse ++ .ref a :: S) (hW : (S.map fun v => v.category).sum ≤ 8)
    (kk : ∀ r μ' ν', Qz r μ' ν' → Z l D dA ad sh y R X Q mc ms (cells + mc1) (slots + ms1) [] (pc + 3) L (r.toList ++ S) μ' ν') : Z l D dA ad sh y R X Q mc ms cells slots [] pc L S0 μ ν := by
  intro p e s m args below meth c H locs ls A h0 h1
  obtain ⟨hx, hb, hm, hr, ht, ho, hk, hA, hX0⟩ := id h0
  obtain ⟨hS, hP, hK, hD, hll⟩ := h1
  rw [List.append_nil] at hP hD
  refine zcall_go (rest := S) hA hS hD (va_runV (As := As) (b := a) (C := z.1.cls) (Ts := TB) ⟨hx, hb, hm, ho, ht⟩ (hC H.size) ⟨callB_of n ht (zws_good hz.1) rfl rfl rfl (ht _ hz.1.1) (ht _ hlk) hz.1.2.2 hR, ht _ hz.2.1, ht _ hz.2.2⟩ ⟨zblind, hrec A s H locs (hX A s hX0) hS, fun U hU hW => zcall_pre hA (hX A s hX0) hS hP hK hD U hU hW⟩ rfl hn hll.1 hst (lv_room hW) hd hf) (fun r μ' ν' H1 locs1 hq hS1 hP1 hD1 => kk r μ' ν' hq p e s m args below meth c H1 locs1 ls A h0 ⟨hS1, by rw [List.append_nil]; exact hP1, hK, by rw [List.append_nil]; exact hD1, hll⟩)
theorem zrec_s {k : Nat} (hk : k < 14) (A : Nat → Prop) (s : State) (H : Heap) (locs : List Loc) (h : zS ad A s) (hS : va_S A s.heap H locs) : ∃ cell : Cell, H[ad (1000200 + k)]? = some cell ∧ cell.vm.isStatics = false ∧ s.vm.findClass "java/lang/String" = some cell.cls := vk_recv (i := k) h.2.2.2.2.2.1 hk hS
theorem zrec_e {k : Nat} (hk : k < 11) (A : Nat → Prop) (s : State) (H : Heap) (locs : List Loc) (h : zS ad A s) (hS : va_S A s.heap H locs) : ∃ cell : Cell, H[ad (1000100 + k)]? = some cell ∧ cell.vm.isStatics = false ∧ s.vm.findClass "SunPoint$Word" = some cell.cls := va_recvE (ad := fun i => ad (1000100 + i)) (i := k) h.2.2.2.1 hk hS
/-- Word.ordinal(), inherited -/
theorem z_callOrd {idx k : Nat} {v : Int32} (hd : decode y.2.1 pc = .ok (.invokevirtual idx, 3)) (hC : zC l D dA ad sh m_J_ordinal 0 0 0 [.ref (ad (1000100 + k))] μ ν (zOi (v, μ, ν))) (hlk : Cond.methodLink y.1.cls idx ⟨"SunPoint$Word", "ordinal", "()I"⟩ ∈ TB) (hX : ∀ A s, X A s → zS ad A s) (hk : k < 11) (hR : 0 + 1 ≤ R.frames ∧ 8 + (m_J_ordinal.2.2.1 + 11) + 40 * 0 ≤ R.locals) (hf : cells + 0 ≤ R.cells ∧ slots + 0 ≤ R.slots) (hW : (S.map fun v => v.category).sum ≤ 8)
    (kk : Z l D dA ad sh y R X Q mc ms cells slots [] (pc + 3) L (.int v :: S) μ ν) : Z l D dA ad sh y R X Q mc ms cells slots [] pc L (.ref (ad (1000100 + k)) :: S) μ ν := by
  intro p e s m args below meth c H locs ls A h0 h1
  obtain ⟨hx, hb, hm, hr, ht, ho, hk9, hA, hX0⟩ := id h0
  obtain ⟨hS, hP, hK, hD, hll⟩ := h1
  rw [List.append_nil] at hP hD
  have hz := md_J_ordinal
  have hG : GoodIn TB (va_wsU y.1.cls idx "SunPoint$Word" "java/lang/Enum" ⟨"SunPoint$Word", "ordinal", "()I"⟩ m_J_ordinal.1 (zws m_J_ordinal)) := by
    intro w hw
    rcases List.mem_append.mp hw with h | h
    · simp only [List.mem_cons, List.not_mem_nil, or_false] at h
      rcases h with rfl | rfl | rfl | rfl | rfl
      · exact TB_good _ hlk
      · exact TB_good _ le_same
      · exact TB_good _ le_sel
      · exact TB_good _ le_inst
      · exact TB_good _ hz.1
    · exact zws_good hz w h
  refine zcall_go (rest := S) hA hS hD (va_runU (As := []) (b := ad (1000100 + k)) (C := "SunPoint$Word") (owner := "java/lang/Enum") (x := ⟨"SunPoint$Word", "ordinal", "()I"⟩) (Ts := TB) ⟨hx, hb, hm, ho, ht⟩ (hC H.size) (va_cwU 0 ht hG rfl rfl rfl rfl ⟨by decide, by decide, rfl⟩ hR) ⟨zblind, zrec_e hk A s H locs (hX A s hX0) hS, fun U hU hW => zcall_pre hA (hX A s hX0) hS hP hK hD U hU hW⟩ rfl rfl hll.1 rfl (lv_room hW) hd hf) (fun r μ' ν' H1 locs1 hq hS1 hP1 hD1 => ?_)
  obtain ⟨rfl, rfl, rfl⟩ := hq
  exact kk p e s m args below meth c H1 locs1 ls A h0 ⟨hS1, by rw [List.append_nil]; exact hP1, hK, by rw [List.append_nil]; exact hD1, hll⟩
end ZST
section ZSC
variable {l : Launch} {D : va_G} {dA : Nat → ClassId} {ad : Nat → Nat} {sh : List zSE} {μ : zI} {ν : zJ}
theorem c_J_ordinal {k : Nat} (hk : k < 11) : zC l D dA ad sh m_J_ordinal 0 0 0 [.ref (ad (1000100 + k))] μ ν (zOi (nI k, μ, ν)) := by
  refine zC.of (by decide) (Nat.le_of_ble_eq_true rfl) ?_
  show Z _ _ _ _ _ _ _ _ _ _ _ _ _ _ 0 [(0, .ref (ad (1000100 + k)))] _ _ _
  refine z_aload_n d_J_ordinal_0 0 rfl rfl ?_
  refine z_eint (q := ("java/lang/Enum", "ordinal", "I", [0, 1, 2, 3, 4, 5, 6, 7, 8, 9, 10])) d_J_ordinal_1 (fun _ _ h => h) hk List.mem_cons_self fs_ordinal ?_
  refine z_ireturn d_J_ordinal_4 rfl rfl ⟨?_, rfl, rfl⟩
  rcases (show k = 0 ∨ k = 1 ∨ k = 2 ∨ k = 3 ∨ k = 4 ∨ k = 5 ∨ k = 6 ∨ k = 7 ∨ k = 8 ∨ k = 9 ∨ k = 10 by omega) with rfl | rfl | rfl | rfl | rfl | rfl | rfl | rfl | rfl | rfl | rfl <;> rfl
theorem c_J_isLatin1 {k : Nat} (hk : k < 14) : zC l D dA ad sh m_J_isLatin1 0 0 0 [.ref (ad (1000200 + k))] μ ν (zOi (1, μ, ν)) := by
  refine zC.of (by decide) (Nat.le_of_ble_eq_true rfl) ?_
  show Z _ _ _ _ _ _ _ _ _ _ _ _ _ _ 0 [(0, .ref (ad (1000200 + k)))] _ _ _
  refine z_getCS d_J_isLatin1_0 (fun _ _ h => h) fs_compact ?_
  refine z_if_eq d_J_isLatin1_3 (tgt := 17) (by decide) (fun c => absurd c (by decide)) (fun c => ?_)
  refine z_aload_n d_J_isLatin1_6 0 rfl rfl ?_
  refine z_scod d_J_isLatin1_7 (fun _ _ h => h) hk fs_coder ?_
  refine z_if_ne d_J_isLatin1_10 (tgt := 17) (by decide) (fun c => absurd rfl c) (fun c => ?_)
  refine z_iconst d_J_isLatin1_13 (v := 1) (by decide) ?_
  refine z_goto d_J_isLatin1_14 (tgt := 18) (by decide) ?_
  exact z_ireturn d_J_isLatin1_18 rfl (by decide) ⟨rfl, rfl, rfl⟩
theorem c_J_coder {k : Nat} (hk : k < 14) : zC l D dA ad sh m_J_coder 0 0 0 [.ref (ad (1000200 + k))] μ ν (zOi (0, μ, ν)) := by
  refine zC.of (by decide) (Nat.le_of_ble_eq_true rfl) ?_
  show Z _ _ _ _ _ _ _ _ _ _ _ _ _ _ 0 [(0, .ref (ad (1000200 + k)))] _ _ _
  refine z_getCS d_J_coder_0 (fun _ _ h => h) fs_compact ?_
  refine z_if_eq d_J_coder_3 (tgt := 13) (by decide) (fun c => absurd c (by decide)) (fun c => ?_)
  refine z_aload_n d_J_coder_6 0 rfl rfl ?_
  refine z_scod d_J_coder_7 (fun _ _ h => h) hk fs_coder ?_
  refine z_goto d_J_coder_10 (tgt := 14) (by decide) ?_
  exact z_ireturn d_J_coder_14 rfl (by decide) ⟨rfl, rfl, rfl⟩
theorem c_J_length {k : Nat} (hk : k < 14) : zC l D dA ad sh m_J_length 1 0 0 [.ref (ad (1000200 + k))] μ ν (zOi (nI (zSl k), μ, ν)) := by
  refine zC.of (by decide) (Nat.le_of_ble_eq_true rfl) ?_
  show Z _ _ _ _ _ _ _ _ _ _ _ _ _ _ 0 [(0, .ref (ad (1000200 + k)))] _ _ _
  refine z_aload_n d_J_length_0 0 rfl rfl ?_
  refine z_sval d_J_length_1 (fun _ _ h => h) hk fs_value ?_
  refine z_stlen d_J_length_4 (fun _ _ h => h) hk ?_
  refine z_aload_n d_J_length_5 0 rfl rfl ?_
  refine z_callVr d_J_length_6 (c_J_coder hk) mv_J_coder ls_335 (fun _ _ h => h) (zrec_s hk) rfl ⟨Nat.le_of_ble_eq_true rfl, Nat.le_of_ble_eq_true rfl⟩ ⟨Nat.zero_le _, Nat.zero_le _⟩ rfl (Nat.le_of_ble_eq_true rfl) (fun r μ' ν' hq => ?_)
  obtain ⟨rfl, rfl, rfl⟩ := hq
  refine z_ishr (x := nI (zSl k)) (w := 0) d_J_length_9 ?_
  exact z_ireturn d_J_length_10 rfl rfl ⟨by rw [sb_shr0], rfl, rfl⟩
theorem c_J_pck {i n : Int32} {v : Value} (hv : v = .null ∨ ∃ t, v = .ref t) (h1 : ¬ i < 0) (h2 : i < n) : zC l D dA ad sh m_J_pck 0 0 0 [.int i, .int n, v] μ ν (zOi (i, μ, ν)) := by
  refine zC.of (by decide) (by rcases hv with rfl | ⟨t, rfl⟩ <;> exact Nat.le_of_ble_eq_true rfl) ?_
  have hl : lv_args 0 [.int i, .int n, v] = [(0, .int i), (1, .int n), (2, v)] := by rcases hv with rfl | ⟨t, rfl⟩ <;> rfl
  rw [hl]
  refine z_iload_n d_J_pck_0 0 rfl rfl ?_
  refine z_if_lt d_J_pck_1 (tgt := 9) (by decide) (fun c => absurd c h1) (fun c => ?_)
  refine z_iload_n d_J_pck_4 0 rfl rfl ?_
  refine z_iload_n d_J_pck_5 1 rfl rfl ?_
  refine z_icmp_lt d_J_pck_6 (tgt := 16) (by decide) (fun c => ?_) (fun c => absurd h2 c)
  refine z_iload_n d_J_pck_16 0 rfl rfl ?_
  exact z_ireturn d_J_pck_17 rfl rfl ⟨rfl, rfl, rfl⟩
theorem c_J_sck {i n : Int32} (h1 : ¬ i < 0) (h2 : i < n) : zC l D dA ad sh m_J_sck 1 0 0 [.int i, .int n] μ ν (zOv (μ, ν)) := by
  refine zC.of (by decide) (Nat.le_of_ble_eq_true rfl) ?_
  show Z _ _ _ _ _ _ _ _ _ _ _ _ _ _ 0 [(0, .int i), (1, .int n)] _ _ _
  refine z_iload_n d_J_sck_0 0 rfl rfl ?_
  refine z_iload_n d_J_sck_1 1 rfl rfl ?_
  refine z_getSI d_J_sck_2 (fun _ _ h => h) fs_sioobe (fun v hv => ?_)
  refine z_callS (As := [.int i, .int n, v]) (S := []) d_J_sck_5 (c_J_pck hv h1 h2) ms_J_pck ls_1059 (fun _ _ h => h) rfl ⟨Nat.le_of_ble_eq_true rfl, Nat.le_of_ble_eq_true rfl⟩ ⟨Nat.zero_le _, Nat.zero_le _⟩ rfl (Nat.le_of_ble_eq_true rfl) (fun r μ' ν' hq => ?_)
  obtain ⟨rfl, rfl, rfl⟩ := hq
  refine z_pop (v := .int i) d_J_sck_8 rfl ?_
  exact z_return d_J_sck_9 rfl ⟨rfl, rfl, rfl⟩
def zSc (k : Nat) (i : Int32) : Int32 := ((zSb k i.toNatClampNeg &&& 255).toUInt32 % 65536).toInt32
theorem zin_len {i : Int32} {n : Nat} (hn : n < 2 ^ 31) (h : vp_in i n) : ¬ i < 0 ∧ i < nI n := by
  obtain ⟨j, hj, rfl⟩ := vp_in_of h hn
  exact ⟨nI_pos (by omega), nI_lt hj hn⟩
theorem zSl_lt {k : Nat} (hk : k < 14) : zSl k < 2 ^ 31 := by
  rcases (show k = 0 ∨ k = 1 ∨ k = 2 ∨ k = 3 ∨ k = 4 ∨ k = 5 ∨ k = 6 ∨ k = 7 ∨ k = 8 ∨ k = 9 ∨ k = 10 ∨ k = 11 ∨ k = 12 ∨ k = 13 by omega) with rfl | rfl | rfl | rfl | rfl | rfl | rfl | rfl | rfl | rfl | rfl | rfl | rfl | rfl <;> decide
theorem c_J_lch {k : Nat} {i : Int32} (hk : k < 14) (hin : vp_in i (zSl k)) : zC l D dA ad sh m_J_lch 2 0 0 [.ref (ad (1000300 + k)), .int i] μ ν (zOi (zSc k i, μ, ν)) := by
  refine zC.of (by decide) (Nat.le_of_ble_eq_true rfl) ?_
  show Z _ _ _ _ _ _ _ _ _ _ _ _ _ _ 0 [(0, .ref (ad (1000300 + k))), (1, .int i)] _ _ _
  refine z_iload_n d_J_lch_0 1 rfl rfl ?_
  refine z_aload_n d_J_lch_1 0 rfl rfl ?_
  refine z_stlen d_J_lch_2 (fun _ _ h => h) hk ?_
  have hl := zin_len (zSl_lt hk) hin
  refine z_callS (As := [.int i, .int (nI (zSl k))]) (S := []) d_J_lch_3 (c_J_sck hl.1 hl.2) ms_J_sck ls_9 (fun _ _ h => h) rfl ⟨Nat.le_of_ble_eq_true rfl, Nat.le_of_ble_eq_true rfl⟩ ⟨Nat.zero_le _, Nat.zero_le _⟩ rfl (Nat.le_of_ble_eq_true rfl) (fun r μ' ν' hq => ?_)
  obtain ⟨rfl, rfl, rfl⟩ := hq
  refine z_aload_n d_J_lch_6 0 rfl rfl ?_
  refine z_iload_n d_J_lch_7 1 rfl rfl ?_
  refine z_stbald d_J_lch_8 (fun _ _ h => h) hk hin ?_
  refine z_sipush d_J_lch_9 (v := 255) (by decide) ?_
  refine z_iand d_J_lch_12 ?_
  refine z_i2c d_J_lch_13 ?_
  exact z_ireturn d_J_lch_14 rfl (pk_nc _) ⟨rfl, rfl, rfl⟩
theorem c_J_charAt {k : Nat} {i : Int32} (hk : k < 14) (hin : vp_in i (zSl k)) : zC l D dA ad sh m_J_charAt 3 0 0 [.ref (ad (1000200 + k)), .int i] μ ν (zOi (zSc k i, μ, ν)) := by
  refine zC.of (by decide) (Nat.le_of_ble_eq_true rfl) ?_
  show Z _ _ _ _ _ _ _ _ _ _ _ _ _ _ 0 [(0, .ref (ad (1000200 + k))), (1, .int i)] _ _ _
  refine z_aload_n d_J_charAt_0 0 rfl rfl ?_
  refine z_callVr (S := []) d_J_charAt_1 (c_J_isLatin1 hk) mv_J_isLatin1 ls_492 (fun _ _ h => h) (zrec_s hk) rfl ⟨Nat.le_of_ble_eq_true rfl, Nat.le_of_ble_eq_true rfl⟩ ⟨Nat.zero_le _, Nat.zero_le _⟩ rfl (Nat.le_of_ble_eq_true rfl) (fun r μ' ν' hq => ?_)
  obtain ⟨rfl, rfl, rfl⟩ := hq
  refine z_if_eq (x := 1) d_J_charAt_4 (tgt := 16) (by decide) (fun c => absurd c (by decide)) (fun c => ?_)
  refine z_aload_n d_J_charAt_7 0 rfl rfl ?_
  refine z_sval d_J_charAt_8 (fun _ _ h => h) hk fs_value ?_
  refine z_iload_n d_J_charAt_11 1 rfl rfl ?_
  refine z_callS (As := [.ref (ad (1000300 + k)), .int i]) (S := []) d_J_charAt_12 (c_J_lch hk hin) ms_J_lch ls_495 (fun _ _ h => h) rfl ⟨Nat.le_of_ble_eq_true rfl, Nat.le_of_ble_eq_true rfl⟩ ⟨Nat.zero_le _, Nat.zero_le _⟩ rfl (Nat.le_of_ble_eq_true rfl) (fun r μ' ν' hq => ?_)
  obtain ⟨rfl, rfl, rfl⟩ := hq
  exact z_ireturn d_J_charAt_15 rfl (pk_nc _) ⟨rfl, rfl, rfl⟩
end ZSC
def zOe (o : Nat × zI × zJ) (ad : Nat → Nat) : zPost := fun r μ ν => r = some (.ref (ad (1000100 + o.1))) ∧ μ = o.2.1 ∧ ν = o.2.2
