/-! The class made. -/
theorem nw_S : zNw 0 [1, 1, 1, 1, 1] := ⟨R_S, F_S, 5, t_S, rfl, w_S, t_S_ok, zt1 29 (by decide +kernel) rfl, md_S_init.1, rfl, fun j hj => by rcases (show j = 0 ∨ j = 1 ∨ j = 2 ∨ j = 3 ∨ j = 4 by omega) with rfl | rfl | rfl | rfl | rfl <;> rfl, by decide⟩
/-- the shapes while it is made: the fields f of the class -/
def s1 (f : List Nat) : List zSE := [.inl (0, f), .inl (1, [2 + 2, 0]), .inr (2, 900)]
def s2 (f : List Nat) : List zSE := s1 f ++ [.inl (2, [0, 0, 1 + 2, 0, 0, 0, 0, 0])]
def s3 (f : List Nat) : List zSE := s2 f ++ stS 4
def s4 (f : List Nat) : List zSE := s3 f ++ stS 19
def s5 (f : List Nat) : List zSE := s4 f ++ [.inl (10, [0, 0, 35 + 2]), .inr (0, 1000)]
theorem s1_l (f : List Nat) : (s1 f).length = 3 := rfl
theorem s2_l (f : List Nat) : (s2 f).length = 4 := rfl
theorem s3_l (f : List Nat) : (s3 f).length = 19 := rfl
theorem s4_l (f : List Nat) : (s4 f).length = 34 := rfl
theorem s5_l (f : List Nat) : (s5 f).length = 36 := rfl
theorem roS_5 : s5 [1 + 2, 3 + 2, 4 + 2, 19 + 2, 34 + 2] = roS := rfl
section SPUT
variable {l : Launch} {D : va_G} {dA : Nat → ClassId} {ad : Nat → Nat} {sh : List zSE} {y : zM} {R : Room} {X : (Nat → Prop) → State → Prop} {ini : Method → Code → Prop} {QF : zQF} {cells slots : Nat} {pc : Nat} {L : List (Nat × Value)} {S : List Value} {μ : zI} {ν : zJ}
theorem r_putF {sh' : List zSE} {idx ci k r q a b1 n : Nat} {ty : FieldType} {fks : List Nat} (hn : sh.length = n) (hcl : zCl sh) (hs' : sh.set r (.inl (ci, fks.set k (q + 2))) = sh') (hd : decode y.2.1 pc = .ok (.putfield idx, 3)) (hf : zFld y.1.cls idx ci k ty) (hs : sh[r]? = some (.inl (ci, fks))) (hk : k < fks.length) (ha : ad r = a) (hb' : ad q = b1) (hq : q < n) (hfin : ∀ C T N, CL[ci]? = some (C, T, N) → (T k).2.2.2 = true ∧ (T k).1 = y.1.cls) (hini : ∀ me co, ini me co → me.name = "<init>") (hnn : narrow ty (.ref b1) = .ref b1) (hft : fits ty (.ref b1) = true)
    (kk : zCl sh' → G l D dA ad sh' y R X ini QF cells slots (pc + 3) L S μ ν) : G l D dA ad sh y R X ini QF cells slots pc L (.ref b1 :: .ref a :: S) μ ν := by
  subst hs'
  exact g_putF hd hf hs hk ha hb' (by omega) hfin hini hnn hft hcl kk
theorem r_new {idx ci N n : Nat} {C : String} {T : u_T} {fks : List Nat} (hn : sh.length = n) (hd : decode y.2.1 pc = .ok (.new idx, 3)) (hw : zNw ci fks) (hc0 : CL[ci]? = some (C, T, N)) (hlk : Cond.classLink y.1.cls idx C ∈ TB) (hcl : zCl sh) (hR : cells + 1 ≤ R.cells ∧ slots + N ≤ R.slots)
    (kk : ∀ (q : Nat) (ad' : Nat → Nat) (μ' : zI) (ν' : zJ), ad' n = q → (∀ r, r ≠ n → ad' r = ad r) → (∀ r, r < n → μ' r = μ r ∧ ν' r = ν r) → (∀ k, μ' n k = 0) → zCl (sh ++ [.inl (ci, fks)]) →
      G l D dA ad' (sh ++ [.inl (ci, fks)]) y R X ini QF (cells + 1) (slots + N) (pc + 3) L (.ref q :: S) μ' ν') : G l D dA ad sh y R X ini QF cells slots pc L S μ ν := by
  refine g_new hd hw hc0 hlk hcl hR (fun q ad' μ' ν' e1 e2 e3 e4 e5 e6 hz => ?_)
  rw [hn] at e1 e2 e3 e4 e5 e6
  exact kk q ad' μ' ν' e2 e1 (fun r h => ⟨e3 r (by omega), e5 r (by omega)⟩) e4 hz
end SPUT
theorem md_ST : zMd m_Station_init 0 := md_Station_init
set_option maxRecDepth 40000 in
set_option maxHeartbeats 1000000 in
theorem mk_S {l : Launch} {D : va_G} {dA : Nat → ClassId} {ad : Nat → Nat} {a : Nat} {μ : zI} {ν : zJ} (hcl : zCl [.inl (0, [1, 1, 1, 1, 1])]) (ha : ad 0 = a) : zK l D dA ad [.inl (0, [1, 1, 1, 1, 1])] m_S_init 5 35 4309 [.ref a] μ ν (fun ad' sh' μ' ν' => sh' = roS ∧ zCl sh' ∧ (∀ r, r = 0 ∨ 1000000 ≤ r → ad' r = ad r) ∧ FC μ' ν') := by
  refine zK.of (by decide) rfl (Nat.le_of_ble_eq_true rfl) ?_
  refine g_aload_n d_S_init_0 0 rfl rfl ?_
  refine g_objInit d_S_init_1 l_S_3 ⟨(Nat.le_of_ble_eq_true rfl), (Nat.le_of_ble_eq_true rfl)⟩ ?_
  -- tape
  refine g_aload_n d_S_init_4 0 rfl rfl ?_
  refine r_new (n := 1) rfl d_S_init_5 nw_Tape rfl (zt1 36 (by decide +kernel) rfl) hcl ⟨(Nat.le_of_ble_eq_true rfl), (Nat.le_of_ble_eq_true rfl)⟩ (fun q1 ad1 μ1 ν1 e1 f1 m1 z1 c1 => ?_)
  refine g_dup d_S_init_8 rfl ?_
  refine g_callIN d_S_init_9 (mk_Tape (sh0 := [.inl (0, [1, 1, 1, 1, 1])]) (b := 1) rfl (by decide) c1 e1) md_Tape_init rfl rfl (zt1 39 (by decide +kernel) rfl) (host := "SunPoint") (by decide) (fun A s h => h.congr (fun k hk => f1 k (by omega))) rfl ⟨(Nat.le_of_ble_eq_true rfl), (Nat.le_of_ble_eq_true rfl)⟩ ⟨(Nat.le_of_ble_eq_true rfl), (Nat.le_of_ble_eq_true rfl)⟩ rfl (Nat.le_of_ble_eq_true rfl) (fun ad2 sh2 μ2 ν2 hP => ?_)
  obtain ⟨rfl, c2, k2⟩ := hP
  have a2 : ad2 0 = a := (k2.1 0 (by decide)).trans ((f1 0 (by decide)).trans ha)
  have x2 : ∀ r, 1000000 ≤ r → ad2 r = ad r := fun r hr => (k2.1 r (Or.inr hr)).trans (f1 r (by omega))
  refine r_putF (sh' := s1 [1 + 2, 1, 1, 1, 1]) (r := 0) (q := 1) (n := 3) rfl c2 rfl d_S_init_12 f_S_12 rfl (Nat.le_of_ble_eq_true rfl) a2 ((k2.1 1 (by decide)).trans e1) (by decide) (fun C T N h => by cases h; exact ⟨rfl, rfl⟩) (fun _ _ h => h) rfl rfl (fun c3 => ?_)
  have t11 : μ2 1 1 = 0 := by rw [(k2.2.1 1 (by decide)).1]; exact z1 1
  -- reader
  refine g_aload_n d_S_init_15 0 rfl rfl ?_
  refine r_new (n := 3) rfl d_S_init_16 nw_Reader rfl (zt1 53 (by decide +kernel) rfl) c3 ⟨(Nat.le_of_ble_eq_true rfl), (Nat.le_of_ble_eq_true rfl)⟩ (fun q3 ad3 μ3 ν3 e3 f3 m3 z3 c4 => ?_)
  refine g_dup d_S_init_19 rfl ?_
  refine g_aload_n d_S_init_20 0 rfl rfl ?_
  have a3 : ad3 0 = a := (f3 0 (by decide)).trans a2
  have x3 : ∀ r, 1000000 ≤ r → ad3 r = ad r := fun r hr => (f3 r (by omega)).trans (x2 r hr)
  refine g_getr (r := 0) (q := 1) d_S_init_21 f_S_12 rfl rfl a3 ?_
  refine g_callI (As := [.ref (ad3 1)]) d_S_init_24 (mk_Reader (sh0 := s1 [1 + 2, 1, 1, 1, 1]) (b := 3) (q := 1) rfl (by decide) c4 e3 rfl (by decide)) md_Reader_init rfl rfl (zt1 56 (by decide +kernel) rfl) l_S_18 (fun A s h => h.congr x3) rfl ⟨(Nat.le_of_ble_eq_true rfl), (Nat.le_of_ble_eq_true rfl)⟩ ⟨(Nat.le_of_ble_eq_true rfl), (Nat.le_of_ble_eq_true rfl)⟩ rfl (Nat.le_of_ble_eq_true rfl) (fun ad4 sh4 μ4 ν4 hP => ?_)
  obtain ⟨rfl, c5, rfl, rfl, rfl⟩ := hP
  refine r_putF (sh' := s2 [1 + 2, 3 + 2, 1, 1, 1]) (r := 0) (q := 3) (n := 4) rfl c5 rfl d_S_init_27 f_S_21 rfl (Nat.le_of_ble_eq_true rfl) a3 e3 (by decide) (fun C T N h => by cases h; exact ⟨rfl, rfl⟩) (fun _ _ h => h) rfl rfl (fun c6 => ?_)
  -- real
  refine g_aload_n d_S_init_30 0 rfl rfl ?_
  refine r_new (n := 4) rfl d_S_init_31 nw_Station rfl (zt1 86 (by decide +kernel) rfl) c6 ⟨(Nat.le_of_ble_eq_true rfl), (Nat.le_of_ble_eq_true rfl)⟩ (fun q5 ad5 μ5 ν5 e5 f5 m5 z5 c7 => ?_)
  have a5 : ad5 0 = a := (f5 0 (by decide)).trans a3
  have x5 : ∀ r, 1000000 ≤ r → ad5 r = ad r := fun r hr => (f5 r (by omega)).trans (x3 r hr)
  refine g_dup d_S_init_34 rfl ?_
  refine g_callI (As := []) d_S_init_35 (mk_Station (sh0 := s2 [1 + 2, 3 + 2, 1, 1, 1]) (b := 4) rfl (by decide) c7 e5) md_Station_init rfl rfl (zt1 89 (by decide +kernel) rfl) l_S_27 (fun A s h => h.congr x5) rfl ⟨(Nat.le_of_ble_eq_true rfl), (Nat.le_of_ble_eq_true rfl)⟩ ⟨(Nat.le_of_ble_eq_true rfl), (Nat.le_of_ble_eq_true rfl)⟩ rfl (Nat.le_of_ble_eq_true rfl) (fun ad6 sh6 μ6 ν6 hP => ?_)
  obtain ⟨rfl, c8, g6, h6, B4⟩ := hP
  have a6 : ad6 0 = a := (g6 0 (by decide)).trans a5
  have x6 : ∀ r, 1000000 ≤ r → ad6 r = ad r := fun r hr => (g6 r (Or.inr hr)).trans (x5 r hr)
  refine r_putF (sh' := s3 [1 + 2, 3 + 2, 4 + 2, 1, 1]) (r := 0) (q := 4) (n := 19) rfl c8 rfl d_S_init_38 f_S_28 rfl (Nat.le_of_ble_eq_true rfl) a6 ((g6 4 (by decide)).trans e5) (by decide) (fun C T N h => by cases h; exact ⟨rfl, rfl⟩) (fun _ _ h => h) rfl rfl (fun c9 => ?_)
  -- trial
  refine g_aload_n d_S_init_41 0 rfl rfl ?_
  refine r_new (n := 19) rfl d_S_init_42 nw_Station rfl (zt1 86 (by decide +kernel) rfl) c9 ⟨(Nat.le_of_ble_eq_true rfl), (Nat.le_of_ble_eq_true rfl)⟩ (fun q7 ad7 μ7 ν7 e7 f7 m7 z7 c10 => ?_)
  have a7 : ad7 0 = a := (f7 0 (by decide)).trans a6
  have x7 : ∀ r, 1000000 ≤ r → ad7 r = ad r := fun r hr => (f7 r (by omega)).trans (x6 r hr)
  refine g_dup d_S_init_45 rfl ?_
  refine g_callI (As := []) d_S_init_46 (mk_Station (sh0 := s3 [1 + 2, 3 + 2, 4 + 2, 1, 1]) (b := 19) rfl (by decide) c10 e7) md_Station_init rfl rfl (zt1 89 (by decide +kernel) rfl) l_S_27 (fun A s h => h.congr x7) rfl ⟨(Nat.le_of_ble_eq_true rfl), (Nat.le_of_ble_eq_true rfl)⟩ ⟨(Nat.le_of_ble_eq_true rfl), (Nat.le_of_ble_eq_true rfl)⟩ rfl (Nat.le_of_ble_eq_true rfl) (fun ad8 sh8 μ8 ν8 hP => ?_)
  obtain ⟨rfl, c11, g8, h8, -⟩ := hP
  have a8 : ad8 0 = a := (g8 0 (by decide)).trans a7
  have x8 : ∀ r, 1000000 ≤ r → ad8 r = ad r := fun r hr => (g8 r (Or.inr hr)).trans (x7 r hr)
  refine r_putF (sh' := s4 [1 + 2, 3 + 2, 4 + 2, 19 + 2, 1]) (r := 0) (q := 19) (n := 34) rfl c11 rfl d_S_init_49 f_S_32 rfl (Nat.le_of_ble_eq_true rfl) a8 ((g8 19 (by decide)).trans e7) (by decide) (fun C T N h => by cases h; exact ⟨rfl, rfl⟩) (fun _ _ h => h) rfl rfl (fun c12 => ?_)
  -- log
  refine g_aload_n d_S_init_52 0 rfl rfl ?_
  refine r_new (n := 34) rfl d_S_init_53 nw_Log rfl (zt2 171 (by decide +kernel) rfl) c12 ⟨(Nat.le_of_ble_eq_true rfl), (Nat.le_of_ble_eq_true rfl)⟩ (fun q9 ad9 μ9 ν9 e9 f9 m9 z9 c13 => ?_)
  have a9 : ad9 0 = a := (f9 0 (by decide)).trans a8
  have x9 : ∀ r, 1000000 ≤ r → ad9 r = ad r := fun r hr => (f9 r (by omega)).trans (x8 r hr)
  refine g_dup d_S_init_56 rfl ?_
  refine g_callIN (As := []) d_S_init_57 (mk_Log (sh0 := s4 [1 + 2, 3 + 2, 4 + 2, 19 + 2, 1]) (b := 34) rfl (by decide) c13 e9) md_Log_init rfl rfl (zt2 174 (by decide +kernel) rfl) (host := "SunPoint") (by decide) (fun A s h => h.congr x9) rfl ⟨(Nat.le_of_ble_eq_true rfl), (Nat.le_of_ble_eq_true rfl)⟩ ⟨(Nat.le_of_ble_eq_true rfl), (Nat.le_of_ble_eq_true rfl)⟩ rfl (Nat.le_of_ble_eq_true rfl) (fun ad10 sh10 μ10 ν10 hP => ?_)
  obtain ⟨rfl, c14, k10⟩ := hP
  have a10 : ad10 0 = a := (k10.1 0 (by decide)).trans a9
  have x10 : ∀ r, 1000000 ≤ r → ad10 r = ad r := fun r hr => (k10.1 r (Or.inr hr)).trans (x9 r hr)
  refine r_putF (sh' := s5 [1 + 2, 3 + 2, 4 + 2, 19 + 2, 34 + 2]) (r := 0) (q := 34) (n := 36) rfl c14 rfl d_S_init_60 f_S_38 rfl (Nat.le_of_ble_eq_true rfl) a10 ((k10.1 34 (by decide)).trans e9) (by decide) (fun C T N h => by cases h; exact ⟨rfl, rfl⟩) (fun _ _ h => h) rfl rfl (fun c15 => ?_)
  have up : ∀ r, r < 19 → μ10 r = μ6 r ∧ ν10 r = ν6 r := fun r hr => ⟨by rw [(k10.2.1 r (by omega)).1, (m9 r (by omega)).1, (h8 r (by omega)).1, (m7 r (by omega)).1], by rw [(k10.2.1 r (by omega)).2, (m9 r (by omega)).2, (h8 r (by omega)).2, (m7 r (by omega)).2]⟩
  have lo : ∀ r, r < 4 → μ10 r = zu μ3 3 1 (-1) r := fun r hr => by rw [(up r (by omega)).1, (h6 r hr).1, (m5 r hr).1]
  refine g_return d_S_init_63 rfl ⟨roS_5, c15, fun r hr => ?_, B4.fr (fun r h1 h2 => (up r (by omega)).1) (up _ (by decide)).2, ?_, ?_, ?_, ?_, ?_⟩ (Nat.le_of_ble_eq_true rfl) (Nat.le_of_ble_eq_true rfl)
  · rcases hr with rfl | hr
    · rw [a10, ha]
    · exact x10 r hr
  · rw [lo 1 (by decide), zgr (by decide), (m3 1 (by decide)).1]; exact t11
  · rw [lo 3 (by decide), zgk (by decide)]; exact z3 0
  · rw [lo 3 (by decide), zgh]
  · rw [(k10.2.1 34 (by decide)).1]; exact z9 0
  · rw [(k10.2.1 34 (by decide)).1]; exact z9 1
