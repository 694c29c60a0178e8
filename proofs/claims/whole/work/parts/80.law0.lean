/-! The law's own module. -/
def m_L : zM := (⟨"SunPointLaw", "module", "(LSunPoint;II[J)I"⟩, method_3_code, 5, some .int)
abbrev hhL : List (Nat × Nat × Nat × Nat) := [(0, 10, 13, 13), (0, 10, 17, 15)]
theorem dL_0 : decode m_L.2.1 0 = .ok (.aload_n 3, 1) := by decide +kernel
theorem dL_1 : decode m_L.2.1 1 = .ok (.iconst 0, 1) := by decide +kernel
theorem dL_2 : decode m_L.2.1 2 = .ok (.aload_n 0, 1) := by decide +kernel
theorem dL_3 : decode m_L.2.1 3 = .ok (.iload_n 1, 1) := by decide +kernel
theorem dL_4 : decode m_L.2.1 4 = .ok (.iload_n 2, 1) := by decide +kernel
theorem dL_5 : decode m_L.2.1 5 = .ok (.invokevirtual 7, 3) := by decide +kernel
theorem dL_8 : decode m_L.2.1 8 = .ok (.i2l, 1) := by decide +kernel
theorem dL_9 : decode m_L.2.1 9 = .ok (.lastore, 1) := by decide +kernel
theorem dL_10 : decode m_L.2.1 10 = .ok (.goto 11, 3) := by decide +kernel
theorem dL_13 : decode m_L.2.1 13 = .ok (.astore 4, 2) := by decide +kernel
theorem dL_15 : decode m_L.2.1 15 = .ok (.iconst 1, 1) := by decide +kernel
theorem dL_16 : decode m_L.2.1 16 = .ok (.ireturn, 1) := by decide +kernel
theorem dL_17 : decode m_L.2.1 17 = .ok (.astore 4, 2) := by decide +kernel
theorem dL_19 : decode m_L.2.1 19 = .ok (.iconst 2, 1) := by decide +kernel
theorem dL_20 : decode m_L.2.1 20 = .ok (.ireturn, 1) := by decide +kernel
theorem dL_21 : decode m_L.2.1 21 = .ok (.iconst 0, 1) := by decide +kernel
theorem dL_22 : decode m_L.2.1 22 = .ok (.ireturn, 1) := by decide +kernel
abbrev w_L : Cond := Cond.codeWith m_L.1 m_L.2.1 m_L.2.2.1 m_L.2.2.2 hhL
theorem w_L_in : w_L ∈ TB := zt5 93 (by decide +kernel) (by decide +kernel)
abbrev tabL : Method → Code → Prop := fun _ c => c.exceptionTable.toList = tableOf hhL
section ML
variable {l : Launch} {D : va_G} {dA : Nat → ClassId} {ad : Nat → Nat} {sh : List zSE} {y : zM} {R : Room} {X : (Nat → Prop) → State → Prop} {ini : Method → Code → Prop} {QF : zQF} {cells slots : Nat} {pc : Nat} {L : List (Nat × Value)} {S : List Value} {μ : zI} {ν : zJ}
theorem g_ofZ {Q : zPost} {mc ms : Nat} (hz : Z l D dA ad sh y R X Q mc ms cells slots [] pc L S μ ν) : G l D dA ad sh y R X ini (fun A s args below => MQ below (zQ D dA ad sh Q A) args s mc ms A) cells slots pc L S μ ν :=
  fun p e s m args below meth c H locs ls A h0 _ h1 => hz p e s m args below meth c H locs ls A h0 h1
theorem zblindX {av : List Value} {sz : Nat} : FrameBlind (va_Pc av (zPreX D dA ad sh μ ν sz)) := fun a U g mk q => ⟨q.1, q.2.1, q.2.2.1, va_K.moved (u := U) (U := U.calling g mk a) (Vm.Alike.refl U.vm) q.2.2.2.1, q.2.2.2.2.1, zX.calling q.2.2.2.2.2 g mk a⟩
theorem zcall_preX {A : Nat → Prop} {s : State} {H : Heap} {locs : List Loc} {av : List Value} (hA : ∀ q, s.heap.size ≤ q → A q) (hX : zX ad A s) (hS : va_S A s.heap H locs) (hP : va_P D CL (zwd dA ad sh μ ν) H) (hK : va_K D CL (zty dA) s) (hD : va_D A (zwd dA ad sh μ ν)) (U : State) (hU : U.heap = H) (hW : s.WarmedH U.vm) : va_Pc av (zPreX D dA ad sh μ ν H.size) av.toArray U := by
  refine ⟨rfl, by rw [hU], by rw [hU]; exact hP, va_K.moved hW.alike hK, hD.weaken (fun _ _ _ _ => trivial), ?_⟩
  refine hX.later hW (fun a h1 h2 => by rw [hU]; exact hS.2.1 a h1 h2) ?_
  rintro q (⟨r, hr, rfl⟩ | h)
  · exact zwd_in hD hr
  · exact hA q (Nat.le_trans hS.1 h)
/-- the call of module, its throws caught by the table's two rows -/
theorem g_callMd {i w t v : Int32} (hfl : l.stackTraces = false) (hr : zRo sh) (hmd : mdC i w μ ν t v) (hX : ∀ A s, X A s → zX ad A s) (hR : 7 ≤ R.frames ∧ 8 + (3 + 11) + 240 ≤ R.locals) (hf : cells + 1 ≤ R.cells ∧ slots + 6 ≤ R.slots) (hW : (S.map fun v => v.category).sum ≤ 8)
    (kk : t = 0 → G l D dA ad sh m_L R X tabL QF (cells + 1) (slots + 6) 8 L (.int v :: S) μ ν)
    (k1 : t = 1 → ∀ q, G l D dA ad sh m_L R X tabL QF (cells + 1) (slots + 6) 13 L [.ref q] μ ν)
    (k2 : t = 2 → ∀ q, G l D dA ad sh m_L R X tabL QF (cells + 1) (slots + 6) 17 L [.ref q] μ ν) : G l D dA ad sh m_L R X tabL QF cells slots 5 L (.int w :: .int i :: .ref (ad 0) :: S) μ ν := by
  intro p e s m args below meth c H locs ls A h0 hi h1
  obtain ⟨hx, hb, hm, hrt, ht, ho, hk, hA, hX0⟩ := id h0
  obtain ⟨hS, hP, hK, hD, hll⟩ := h1
  rw [List.append_nil] at hP hD
  have hZ := hX A s hX0
  have hz := mv_S_module
  have hs0 : sh[0]? = some (.inl (0, [1 + 2, 3 + 2, 4 + 2, 19 + 2, 34 + 2])) := hr 0 _ rfl
  have hs1 : (zwd dA ad sh μ ν)[0]? = some (ad 0, zE dA ad (μ 0) (ν 0) (.inl (0, [1 + 2, 3 + 2, 4 + 2, 19 + 2, 34 + 2]))) := by
    have h := zwd_at (dA := dA) (ad := ad) (μ := μ) (ν := ν) (xw := []) hs0
    rwa [List.append_nil] at h
  have hA1 : ∀ q, zA ad sh.length H.size q → A q := by
    rintro q (⟨r, hr, rfl⟩ | h)
    · exact zwd_in hD hr
    · exact hA q (Nat.le_trans hS.1 h)
  refine vx_calli (rest := S) (vx_runV (As := [.int i, .int w]) (b := ad 0) (C := m_S_module.1.cls) (Ts := TB) ⟨hx, hb, hm, ho, ht⟩ (mS_met hfl hr hmd H.size) ⟨callB_of 2 ht (zws_good hz.1) rfl rfl rfl (ht _ hz.1.1) (ht (Cond.methodLink m_L.1.cls 7 m_S_module.1) (zt5 96 (by decide +kernel) rfl)) hz.1.2.2 hR, ht _ hz.2.1, ht _ hz.2.2⟩ ⟨zblindX, va_recv hK hP (q := (R_S, F_S, 5)) rfl hs1, fun U hU hW => zcall_preX hA hZ hS hP hK hD U hU hW⟩ rfl rfl hll.1 rfl (lv_room hW) dL_5 hf) hS (fun q _ h => hA1 q h) hA1 (fun q _ h => hA1 q h) ?_ ?_
  · intro E ce q9 u T H1 locs1 hT hvm _ hBX hz1 hk1 hS1 hce hcv hcl
    obtain ⟨hE, hP1⟩ := hBX
    rw [hT] at hP1
    have hi' : c.exceptionTable.toList = [⟨0, 10, 13, 13⟩, ⟨0, 10, 17, 15⟩] := hi
    have l1 : (Cond.classLink m_L.1.cls 13 nIO).before args s = true := ht _ (zt5 94 (by decide +kernel) rfl)
    have l2 : (Cond.classLink m_L.1.cls 15 nNS).before args s = true := ht _ (zt5 95 (by decide +kernel) rfl)
    have w1 : zC1 D dA ad sh m_L s A L μ ν [] H1 locs1 ls := ⟨hS1, by rw [List.append_nil]; exact hP1, hK, by rw [List.append_nil]; exact hD, hll⟩
    rcases hE with ⟨rfl, t1⟩ | ⟨rfl, t2⟩
    · exact vx_catch (own := m_L.1.cls) (name := nIO) ho [] ⟨0, 10, 13, 13⟩ [⟨0, 10, 17, 15⟩] hi' (fun z hz => absurd hz List.not_mem_nil) (by decide) (by decide) l1 (hZ.2.2.2.1.use rfl) hce hcv hcl (k1 t1 q9 p e s m args below meth c H1 locs1 ls A h0 hi w1)
    · refine vx_catch (own := m_L.1.cls) (name := nNS) ho [⟨0, 10, 13, 13⟩] ⟨0, 10, 17, 15⟩ [] hi' (fun z hz => ?_) (by decide) (by decide) l2 (hZ.2.2.2.2.1.use rfl) hce hcv hcl (k2 t2 q9 p e s m args below meth c H1 locs1 ls A h0 hi w1)
      rw [List.mem_singleton] at hz
      subst hz
      exact Or.inr ⟨by decide, nIO, l1, hZ.2.2.2.2.2.1⟩
  · intro r u T H1 locs1 hT hvm hpost hB hz1 hk1 hS1
    obtain ⟨t0, rfl⟩ := hpost
    rw [hT] at hB
    exact kk t0 p e s m args below meth c H1 locs1 ls A h0 hi ⟨hS1, by rw [List.append_nil]; exact hB, hK, by rw [List.append_nil]; exact hD, hll⟩
end ML
/-- what the law's module hands back -/
def mdN (o : Nat) (t v : Int32) (ν : zJ) : zJ := if t = 0 then zul ν o 0 (Int32.toInt64 v) else ν
def mdP (o : Nat) (t v : Int32) (μ : zI) (ν : zJ) : zPost := fun r μ' ν' => r = some (.int t) ∧ μ' = μ ∧ ν' = mdN o t v ν
set_option maxRecDepth 20000 in
theorem mL_body {l : Launch} {D : va_G} {dA : Nat → ClassId} {ad : Nat → Nat} {sh : List zSE} {μ : zI} {ν : zJ} {i w t v : Int32} {o : Nat} (hfl : l.stackTraces = false) (hr : zRo sh) (ho : sh[o]? = some (.inr (1, 1))) (hmd : mdC i w μ ν t v) : G l D dA ad sh m_L (zR 7 1 6) (zX ad) tabL (fun A s args below => MQ below (zQ D dA ad sh (mdP o t v μ ν) A) args s 1 6 A) 0 0 0 [(3, .ref (ad o)), (2, .int w), (1, .int i), (0, .ref (ad 0))] [] μ ν := by
  refine g_aload_n dL_0 0 rfl rfl ?_
  refine g_iconst dL_1 (v := 0) (by decide) ?_
  refine g_aload_n dL_2 3 rfl rfl ?_
  refine g_iload_n dL_3 2 rfl rfl ?_
  refine g_iload_n dL_4 1 rfl rfl ?_
  refine g_callMd hfl hr hmd (fun _ _ h => h) ⟨Nat.le_of_ble_eq_true rfl, Nat.le_of_ble_eq_true rfl⟩ ⟨Nat.le_of_ble_eq_true rfl, Nat.le_of_ble_eq_true rfl⟩ (Nat.le_of_ble_eq_true rfl) (fun t0 => ?_) (fun t1 q => ?_) (fun t2 q => ?_)
  · subst t0
    refine g_ofZ ?_
    refine z_i2l dL_8 ?_
    refine z_last dL_9 ho (by unfold vp_in; decide) ?_
    refine z_goto (tgt := 21) dL_10 rfl ?_
    refine z_iconst dL_21 (v := 0) (by decide) ?_
    exact z_ireturn dL_22 rfl rfl ⟨rfl, rfl, by rw [mdN, if_pos rfl]; rfl⟩
  · subst t1
    refine g_ofZ ?_
    refine z_astore (i := 4) dL_13 (by decide) rfl ?_
    refine z_iconst dL_15 (v := 1) (by decide) ?_
    exact z_ireturn dL_16 rfl rfl ⟨rfl, rfl, by rw [mdN, if_neg (by decide)]⟩
  · subst t2
    refine g_ofZ ?_
    refine z_astore (i := 4) dL_17 (by decide) rfl ?_
    refine z_iconst dL_19 (v := 2) (by decide) ?_
    exact z_ireturn dL_20 rfl rfl ⟨rfl, rfl, by rw [mdN, if_neg (by decide)]⟩
theorem mL_met {l : Launch} {D : va_G} {dA : Nat → ClassId} {ad : Nat → Nat} {sh : List zSE} {μ : zI} {ν : zJ} {i w t v : Int32} {o : Nat} (hfl : l.stackTraces = false) (hr : zRo sh) (ho : sh[o]? = some (.inr (1, 1))) (hmd : mdC i w μ ν t v) (sz : Nat) : Met l m_L.1 (w_L :: TB) (zR 7 1 6) (va_Pc [.ref (ad 0), .int i, .int w, .ref (ad o)] (zPreX D dA ad sh μ ν sz)) (zQ D dA ad sh (mdP o t v μ ν) (zA ad sh.length sz)) 1 6 (zA ad sh.length sz) := by
  refine va_MetW (cc := m_L.2.1) (maxL := m_L.2.2.1) (ret := m_L.2.2.2) (hh := hhL) (by decide) rfl ?_
  intro p e s m args below meth c s₁ B hml hv
  obtain ⟨rfl, hsz, hP, hK, hD, hX⟩ := hv
  subst hsz
  have hts := atoms_spec (ws := w_L :: TB) B.pre
  have hl := lv_entry [.ref (ad 0), .int i, .int w, .ref (ad o)] (n := m_L.2.2.1) (Nat.le_of_ble_eq_true rfl)
  have htab := vx_table (x := m_L.1) B (hts w_L List.mem_cons_self)
  rw [lg_entry_eq]
  refine mL_body hfl hr ho hmd p e s m _ below meth c s.heap [] _ (zA ad sh.length s.heap.size) ⟨B.exec, B.bytes, hml, B.returns, fun w hw => hts w (List.mem_cons_of_mem _ hw), findClass_of_methodNamed B.named, B.notSynchronized, fun q hq => Or.inr hq, hX⟩ htab ⟨va_S.rf, ?_, hK, ?_, lv_sub hl [3, 2, 1, 0] rfl⟩
  · rw [List.append_nil]; exact hP
  · rw [List.append_nil]; exact zwd_self hD _
