/-! freshText: a row is made, read, and left. -/
theorem ac_int : Cond.arrayClass .int ∈ TB := (zt1 102 (by decide +kernel) rfl)
section ZNW
variable {l : Launch} {D : va_G} {dA : Nat → ClassId} {ad : Nat → Nat} {sh : List zSE} {y : zM} {R : Room} {X : (Nat → Prop) → State → Prop} {Q : zPost} {mc ms cells slots : Nat} {pc : Nat} {L : List (Nat × Value)} {S : List Value} {μ : zI} {ν : zJ}
theorem zwd_len {μ : zI} {ν : zJ} : (zwd dA ad sh μ ν).length = sh.length := by rw [zwd, List.length_mapIdx]
theorem z_newI {N : Nat} {v : Int32} (hd : decode y.2.1 pc = .ok (.newarray .int, 2)) (hn : ¬ v < 0) (hv : v.toNatClampNeg = N) (hb : N * componentBytes .int ≤ 536870912) (hR : cells + 1 ≤ R.cells ∧ slots + N ≤ R.slots)
    (kk : ∀ a : Nat, Z l D dA ad sh y R X Q mc ms (cells + 1) (slots + N) [(a, .inl (dA 0, N, .inl (fun _ => 0)))] (pc + 2) L (.ref a :: S) μ ν) : Z l D dA ad sh y R X Q mc ms cells slots [] pc L (.int v :: S) μ ν := by
  intro p e s m args below meth c H locs ls A h0 h1
  obtain ⟨hx, hbb, hm, hr, ht, ho, hk9, hA, hX0⟩ := id h0
  obtain ⟨hS, hP, hK, hD, hll⟩ := h1
  rw [List.append_nil] at hP hD
  refine va_newa (atype := .int) (a0 := (N, .inl (fun _ => 0))) hx hbb (ht _ ac_int) rfl hK hP hD hS hA (fun cA => rfl) hn hv hb hR.1 hR.2 hd (fun a cA H1 hK1 hP1 hD1 hS1 => ?_)
  have e1 : s.vm.findClass ("[" ++ FieldType.int.toString) = some cA := (hK1.2 4 (cA, .int) rfl).2
  have e2 : s.vm.findClass ("[" ++ FieldType.int.toString) = some (dA 0) := (hK.2 0 (dA 0, .int) rfl).2
  have e3 : cA = dA 0 := Option.some.inj (e1.symm.trans e2)
  subst e3
  exact kk a p e s m args below meth c H1 locs ls A h0 ⟨hS1, hP1, hK, hD1, hll⟩
theorem z_xat {a : Nat} {x : va_E} : (zwd dA ad sh μ ν ++ [(a, x)])[sh.length]? = some (a, x) := by
  rw [List.getElem?_append_right (by rw [zwd_len]; exact Nat.le_refl _), zwd_len, Nat.sub_self]
  rfl
theorem z_iastx {a N : Nat} {f : Nat → Int32} {i v : Int32} (hd : decode y.2.1 pc = .ok (.iastore, 1)) (hin : vp_in i N)
    (kk : Z l D dA ad sh y R X Q mc ms cells slots [(a, .inl (dA 0, N, .inl (upd f i.toNatClampNeg v)))] (pc + 1) L S μ ν) : Z l D dA ad sh y R X Q mc ms cells slots [(a, .inl (dA 0, N, .inl f))] pc L (.int v :: .int i :: .ref a :: S) μ ν := by
  intro p e s m args below meth c H locs ls A h0 h1
  obtain ⟨hS, hP, hK, hD, hll⟩ := h1
  refine va_iast h0.1 h0.2.1 hK hP hD hS sh.length 0 z_xat rfl hin hd (fun H1 locs1 hP1 hD1 hS1 => ?_)
  rw [List.set_append_right _ _ (by rw [zwd_len]; exact Nat.le_refl _), zwd_len, Nat.sub_self] at hP1 hD1
  exact kk p e s m args below meth c H1 locs1 ls A h0 ⟨hS1, hP1, hK, hD1, hll⟩
theorem z_ialdx {a N : Nat} {f : Nat → Int32} {i : Int32} (hd : decode y.2.1 pc = .ok (.iaload, 1)) (hin : vp_in i N)
    (kk : Z l D dA ad sh y R X Q mc ms cells slots [(a, .inl (dA 0, N, .inl f))] (pc + 1) L (.int (f i.toNatClampNeg) :: S) μ ν) : Z l D dA ad sh y R X Q mc ms cells slots [(a, .inl (dA 0, N, .inl f))] pc L (.int i :: .ref a :: S) μ ν :=
  Z.row (fun p e s m args below meth c H locs ls A Qs hx hb ht ho hX h1 k9 => va_iald hx hb h1.2.2.1 h1.2.1 sh.length 0 z_xat rfl hin hd k9) kk
end ZNW
def frV : List Int32 := [10000, 0, 1400, 1350, 80, 20, 100, 500, 3, 50, 10, 5000, 4, 3, 50, 0, 0, 0, 75]
def frM (q : Nat) (μ : zI) : zI := fun r k => if r = q + 2 ∧ k < 19 then frV.getD k 0 else if r = q + 3 ∧ k < 5 then 0 else if r = q ∧ (k = 5 ∨ k = 6 ∨ k = 10 ∨ k = 12) then 0 else μ r k
def fr1 (q : Nat) (μ : zI) (n : Nat) : zI := fun r k => if r = q + 2 ∧ k < n then frV.getD k 0 else μ r k
def fr2 (q : Nat) (μ : zI) : zI := zu (zu (zu (zu (fr1 q μ 19) q 5 0) q 6 0) q 10 0) q 12 0
def fr3 (q : Nat) (μ : zI) (n : Nat) : zI := fun r k => if r = q + 3 ∧ k < n then 0 else fr2 q μ r k
def E_M_freshText (q : Nat) (μ : zI) (ν : zJ) : Option (zI × zJ) := some (frM q μ, ν)
theorem fr1_s (q : Nat) (μ : zI) (n : Nat) : zu (fr1 q μ n) (q + 2) n (frV.getD n 0) = fr1 q μ (n + 1) := by
  funext r k
  by_cases h1 : r = q + 2
  · by_cases h2 : k = n
    · subst h2; simp [zu, fr1, h1]
    · by_cases h3 : k < n
      · simp [zu, fr1, h1, h2, h3, Nat.lt_succ_of_lt h3]
      · have h4 : ¬ k < n + 1 := by omega
        simp [zu, fr1, h1, h2, h3, h4]
  · simp [zu, fr1, h1]
theorem fr3_s (q : Nat) (μ : zI) (n : Nat) : zu (fr3 q μ n) (q + 3) n 0 = fr3 q μ (n + 1) := by
  funext r k
  by_cases h1 : r = q + 3
  · by_cases h2 : k = n
    · subst h2; simp [zu, fr3, h1]
    · by_cases h3 : k < n
      · simp [zu, fr3, h1, h2, h3, Nat.lt_succ_of_lt h3]
      · have h4 : ¬ k < n + 1 := by omega
        simp [zu, fr3, h1, h2, h3, h4]
  · simp [zu, fr3, h1]
theorem fr1_0 (q : Nat) (μ : zI) : fr1 q μ 0 = μ := by
  funext r k
  simp [fr1]
theorem fr3_0 (q : Nat) (μ : zI) : fr3 q μ 0 = fr2 q μ := by
  funext r k
  simp [fr3]
theorem fr3_5 (q : Nat) (μ : zI) : fr3 q μ 5 = frM q μ := by
  funext r k
  by_cases h1 : r = q + 3
  · subst h1
    by_cases h3 : k < 5 <;> simp [fr3, frM, fr2, fr1, zu, h3]
  · by_cases h2 : r = q
    · subst h2
      by_cases a1 : k = 12
      · subst a1; simp [fr3, frM, fr2, fr1, zu]
      · by_cases a2 : k = 10
        · subst a2; simp [fr3, frM, fr2, fr1, zu]
        · by_cases a3 : k = 6
          · subst a3; simp [fr3, frM, fr2, fr1, zu]
          · by_cases a4 : k = 5
            · subst a4; simp [fr3, frM, fr2, fr1, zu]
            · simp [fr3, frM, fr2, fr1, zu, a1, a2, a3, a4]
    · simp [fr3, frM, fr2, fr1, zu, h1, h2]
section ZFR
variable {l : Launch} {D : va_G} {dA : Nat → ClassId} {ad : Nat → Nat} {sh : List zSE} {q : Nat} {μ : zI} {ν : zJ}
theorem z_fr_156 {xw : va_W} (hm : zMo sh q) : ∀ (j k : Nat), k + j = 5 → Z l D dA ad sh m_M_freshText (zR 1 1 19) (zS ad) (zOv (frM q μ, ν)) 1 19 1 19 xw 156 [(2, .int (nI k)), (0, .ref (ad q))] [] (fr3 q μ k) ν := by
  intro j
  induction j with
  | zero =>
    intro k hk
    have : k = 5 := by omega
    subst this
    refine z_iload_n d_M_freshText_156 0 rfl rfl ?_
    refine z_iconst d_M_freshText_157 (v := 5) (by decide) ?_
    refine z_icmp_ge d_M_freshText_158 (tgt := 174) (by decide) (fun c => ?_) (fun c => absurd (by decide) c)
    exact z_return d_M_freshText_174 rfl ⟨rfl, fr3_5 q μ, rfl⟩
  | succ j ih =>
    intro k hk
    have hk5 : k < 5 := by omega
    refine z_iload_n d_M_freshText_156 0 rfl rfl ?_
    refine z_iconst d_M_freshText_157 (v := 5) (by decide) ?_
    refine z_icmp_ge d_M_freshText_158 (tgt := 174) (by decide) (fun c => absurd c (nI_ge (b := 5) hk5 (by decide))) (fun c => ?_)
    refine z_aload_n d_M_freshText_161 1 rfl rfl ?_
    refine z_getr d_M_freshText_162 (q := (q + 3)) f_M_16 (hm 0 _ rfl) rfl ?_
    refine z_iload_n d_M_freshText_165 0 rfl rfl ?_
    refine z_iconst d_M_freshText_166 (v := 0) (by decide) ?_
    refine z_zast d_M_freshText_167 (hm 3 _ rfl) (vp_in_nI hk5 (by decide)) ?_
    rw [nI_clamp (by omega), show vp_nar .boolean 0 = 0 from rfl, fr3_s q μ k]
    refine z_iinc d_M_freshText_168 (k := 0) (v := nI (k + 1)) rfl (nI_1 k) (by decide) (L2 := [(2, .int (nI (k + 1))), (0, .ref (ad q))]) rfl ?_
    refine z_goto d_M_freshText_171 (tgt := 156) (by decide) ?_
    exact ih (k + 1) (by omega)
theorem z_fr_113 {a : Nat} {f : Nat → Int32} (hf : ∀ k, k < 19 → f k = frV.getD k 0) (hm : zMo sh q) : ∀ (j k : Nat), k + j = 19 → Z l D dA ad sh m_M_freshText (zR 1 1 19) (zS ad) (zOv (frM q μ, ν)) 1 19 1 19 [(a, .inl (dA 0, 19, .inl f))] 113 [(2, .int (nI k)), (1, .ref a), (0, .ref (ad q))] [] (fr1 q μ k) ν := by
  intro j
  induction j with
  | zero =>
    intro k hk
    have : k = 19 := by omega
    subst this
    refine z_iload_n d_M_freshText_113 0 rfl rfl ?_
    refine z_bipush d_M_freshText_114 (v := 19) (by decide) ?_
    refine z_icmp_ge d_M_freshText_116 (tgt := 134) (by decide) (fun c => ?_) (fun c => absurd (by decide) c)
    refine z_aload_n d_M_freshText_134 2 rfl rfl ?_
    refine z_iconst d_M_freshText_135 (v := 0) (by decide) ?_
    refine z_put d_M_freshText_136 f_M_138 (hm 0 _ rfl) rfl (CL_fin _ _ (fun q hq => by cases hq; rfl)) rfl rfl ?_
    refine z_aload_n d_M_freshText_139 2 rfl rfl ?_
    refine z_iconst d_M_freshText_140 (v := 0) (by decide) ?_
    refine z_put d_M_freshText_141 f_M_135 (hm 0 _ rfl) rfl (CL_fin _ _ (fun q hq => by cases hq; rfl)) rfl rfl ?_
    refine z_aload_n d_M_freshText_144 2 rfl rfl ?_
    refine z_iconst d_M_freshText_145 (v := 0) (by decide) ?_
    refine z_put d_M_freshText_146 f_M_129 (hm 0 _ rfl) rfl (CL_fin _ _ (fun q hq => by cases hq; rfl)) rfl rfl ?_
    refine z_aload_n d_M_freshText_149 2 rfl rfl ?_
    refine z_iconst d_M_freshText_150 (v := 0) (by decide) ?_
    refine z_put d_M_freshText_151 f_M_132 (hm 0 _ rfl) rfl (CL_fin _ _ (fun q hq => by cases hq; rfl)) rfl rfl ?_
    refine z_iconst d_M_freshText_154 (v := 0) (by decide) ?_
    refine z_istore_n d_M_freshText_155 rfl (by decide) (L2 := [(2, .int 0), (1, .ref a), (0, .ref (ad q))]) rfl ?_
    refine z_sub [0, 2] (L' := [(2, .int 0), (0, .ref (ad q))]) rfl ?_
    have h := z_fr_156 (l := l) (D := D) (dA := dA) (ad := ad) (μ := μ) (ν := ν) (xw := [(a, .inl (dA 0, 19, .inl f))]) hm 5 0 (by omega)
    rw [fr3_0] at h
    exact h
  | succ j ih =>
    intro k hk
    have hk5 : k < 19 := by omega
    refine z_iload_n d_M_freshText_113 0 rfl rfl ?_
    refine z_bipush d_M_freshText_114 (v := 19) (by decide) ?_
    refine z_icmp_ge d_M_freshText_116 (tgt := 134) (by decide) (fun c => absurd c (nI_ge (b := 19) hk5 (by decide))) (fun c => ?_)
    refine z_aload_n d_M_freshText_119 2 rfl rfl ?_
    refine z_getr d_M_freshText_120 (q := (q + 2)) f_M_13 (hm 0 _ rfl) rfl ?_
    refine z_iload_n d_M_freshText_123 0 rfl rfl ?_
    refine z_aload_n d_M_freshText_124 1 rfl rfl ?_
    refine z_iload_n d_M_freshText_125 0 rfl rfl ?_
    refine z_ialdx d_M_freshText_126 (vp_in_nI hk5 (by decide)) ?_
    refine z_iast d_M_freshText_127 (hm 2 _ rfl) (vp_in_nI hk5 (by decide)) ?_
    rw [nI_clamp (by omega), hf k hk5, fr1_s q μ k]
    refine z_iinc d_M_freshText_128 (k := 0) (v := nI (k + 1)) rfl (nI_1 k) (by decide) (L2 := [(2, .int (nI (k + 1))), (1, .ref a), (0, .ref (ad q))]) rfl ?_
    refine z_goto d_M_freshText_131 (tgt := 113) (by decide) ?_
    exact ih (k + 1) (by omega)
theorem c_M_freshText (hm : zMo sh q) {out : zI × zJ} (hE : E_M_freshText q μ ν = some out) : zC l D dA ad sh m_M_freshText 1 1 19 [.ref (ad q)] μ ν (zOv out) := by
  cases hE
  refine zC.of (by decide) (Nat.le_of_ble_eq_true rfl) ?_
  show Z _ _ _ _ _ _ _ _ _ _ _ _ _ _ 0 [(0, .ref (ad q))] _ _ _
  refine z_bipush d_M_freshText_0 (v := 19) (by decide) ?_
  refine z_newI (N := 19) d_M_freshText_2 (by decide) (by decide) (by decide) ⟨Nat.le_of_ble_eq_true rfl, Nat.le_of_ble_eq_true rfl⟩ (fun a => ?_)
  refine z_dup d_M_freshText_4 rfl ?_
  refine z_iconst d_M_freshText_5 (v := 0) (by decide) ?_
  refine z_sipush d_M_freshText_6 (v := 10000) (by decide) ?_
  refine z_iastx d_M_freshText_9 (zin_vp rfl) ?_
  refine z_dup d_M_freshText_10 rfl ?_
  refine z_iconst d_M_freshText_11 (v := 1) (by decide) ?_
  refine z_iconst d_M_freshText_12 (v := 0) (by decide) ?_
  refine z_iastx d_M_freshText_13 (zin_vp rfl) ?_
  refine z_dup d_M_freshText_14 rfl ?_
  refine z_iconst d_M_freshText_15 (v := 2) (by decide) ?_
  refine z_sipush d_M_freshText_16 (v := 1400) (by decide) ?_
  refine z_iastx d_M_freshText_19 (zin_vp rfl) ?_
  refine z_dup d_M_freshText_20 rfl ?_
  refine z_iconst d_M_freshText_21 (v := 3) (by decide) ?_
  refine z_sipush d_M_freshText_22 (v := 1350) (by decide) ?_
  refine z_iastx d_M_freshText_25 (zin_vp rfl) ?_
  refine z_dup d_M_freshText_26 rfl ?_
  refine z_iconst d_M_freshText_27 (v := 4) (by decide) ?_
  refine z_bipush d_M_freshText_28 (v := 80) (by decide) ?_
  refine z_iastx d_M_freshText_30 (zin_vp rfl) ?_
  refine z_dup d_M_freshText_31 rfl ?_
  refine z_iconst d_M_freshText_32 (v := 5) (by decide) ?_
  refine z_bipush d_M_freshText_33 (v := 20) (by decide) ?_
  refine z_iastx d_M_freshText_35 (zin_vp rfl) ?_
  refine z_dup d_M_freshText_36 rfl ?_
  refine z_bipush d_M_freshText_37 (v := 6) (by decide) ?_
  refine z_bipush d_M_freshText_39 (v := 100) (by decide) ?_
  refine z_iastx d_M_freshText_41 (zin_vp rfl) ?_
  refine z_dup d_M_freshText_42 rfl ?_
  refine z_bipush d_M_freshText_43 (v := 7) (by decide) ?_
  refine z_sipush d_M_freshText_45 (v := 500) (by decide) ?_
  refine z_iastx d_M_freshText_48 (zin_vp rfl) ?_
  refine z_dup d_M_freshText_49 rfl ?_
  refine z_bipush d_M_freshText_50 (v := 8) (by decide) ?_
  refine z_iconst d_M_freshText_52 (v := 3) (by decide) ?_
  refine z_iastx d_M_freshText_53 (zin_vp rfl) ?_
  refine z_dup d_M_freshText_54 rfl ?_
  refine z_bipush d_M_freshText_55 (v := 9) (by decide) ?_
  refine z_bipush d_M_freshText_57 (v := 50) (by decide) ?_
  refine z_iastx d_M_freshText_59 (zin_vp rfl) ?_
  refine z_dup d_M_freshText_60 rfl ?_
  refine z_bipush d_M_freshText_61 (v := 10) (by decide) ?_
  refine z_bipush d_M_freshText_63 (v := 10) (by decide) ?_
  refine z_iastx d_M_freshText_65 (zin_vp rfl) ?_
  refine z_dup d_M_freshText_66 rfl ?_
  refine z_bipush d_M_freshText_67 (v := 11) (by decide) ?_
  refine z_sipush d_M_freshText_69 (v := 5000) (by decide) ?_
  refine z_iastx d_M_freshText_72 (zin_vp rfl) ?_
  refine z_dup d_M_freshText_73 rfl ?_
  refine z_bipush d_M_freshText_74 (v := 12) (by decide) ?_
  refine z_iconst d_M_freshText_76 (v := 4) (by decide) ?_
  refine z_iastx d_M_freshText_77 (zin_vp rfl) ?_
  refine z_dup d_M_freshText_78 rfl ?_
  refine z_bipush d_M_freshText_79 (v := 13) (by decide) ?_
  refine z_iconst d_M_freshText_81 (v := 3) (by decide) ?_
  refine z_iastx d_M_freshText_82 (zin_vp rfl) ?_
  refine z_dup d_M_freshText_83 rfl ?_
  refine z_bipush d_M_freshText_84 (v := 14) (by decide) ?_
  refine z_bipush d_M_freshText_86 (v := 50) (by decide) ?_
  refine z_iastx d_M_freshText_88 (zin_vp rfl) ?_
  refine z_dup d_M_freshText_89 rfl ?_
  refine z_bipush d_M_freshText_90 (v := 15) (by decide) ?_
  refine z_iconst d_M_freshText_92 (v := 0) (by decide) ?_
  refine z_iastx d_M_freshText_93 (zin_vp rfl) ?_
  refine z_dup d_M_freshText_94 rfl ?_
  refine z_bipush d_M_freshText_95 (v := 16) (by decide) ?_
  refine z_iconst d_M_freshText_97 (v := 0) (by decide) ?_
  refine z_iastx d_M_freshText_98 (zin_vp rfl) ?_
  refine z_dup d_M_freshText_99 rfl ?_
  refine z_bipush d_M_freshText_100 (v := 17) (by decide) ?_
  refine z_iconst d_M_freshText_102 (v := 0) (by decide) ?_
  refine z_iastx d_M_freshText_103 (zin_vp rfl) ?_
  refine z_dup d_M_freshText_104 rfl ?_
  refine z_bipush d_M_freshText_105 (v := 18) (by decide) ?_
  refine z_bipush d_M_freshText_107 (v := 75) (by decide) ?_
  refine z_iastx d_M_freshText_109 (zin_vp rfl) ?_
  refine z_astore_n d_M_freshText_110 rfl (by decide) (L2 := [(1, .ref a), (0, .ref (ad q))]) rfl ?_
  refine z_iconst d_M_freshText_111 (v := 0) (by decide) ?_
  refine z_istore_n d_M_freshText_112 rfl (by decide) (L2 := [(2, .int 0), (1, .ref a), (0, .ref (ad q))]) rfl ?_
  have h := z_fr_113 (l := l) (D := D) (dA := dA) (ad := ad) (μ := μ) (ν := ν) (a := a) (f := (upd (upd (upd (upd (upd (upd (upd (upd (upd (upd (upd (upd (upd (upd (upd (upd (upd (upd (upd (fun _ => 0) 0 10000) 1 0) 2 1400) 3 1350) 4 80) 5 20) 6 100) 7 500) 8 3) 9 50) 10 10) 11 5000) 12 4) 13 3) 14 50) 15 0) 16 0) 17 0) 18 75)) (by decide) hm 19 0 (by omega)
  rw [fr1_0] at h
  exact h
end ZFR
