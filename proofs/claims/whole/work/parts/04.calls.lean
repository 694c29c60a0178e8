/-! Calls, copies, tables. -/
theorem zwd_D {dA : Nat → ClassId} {ad : Nat → Nat} {sh : List zSE} {A : Nat → Prop} {μ μ' : zI} {ν ν' : zJ} (h : va_D A (zwd dA ad sh μ ν)) : va_D A (zwd dA ad sh μ' ν') := by
  have key : ∀ (k : Nat) (q : Nat × va_E), (zwd dA ad sh μ' ν')[k]? = some q → ∃ q0, (zwd dA ad sh μ ν)[k]? = some q0 ∧ q0.1 = q.1 := by
    intro k q hk
    rw [zwd, List.getElem?_mapIdx] at hk
    cases he : sh[k]? with
    | none => rw [he] at hk; cases hk
    | some e =>
      rw [he] at hk
      cases hk
      exact ⟨(ad k, zE dA ad (μ k) (ν k) e), by rw [zwd, List.getElem?_mapIdx, he]; rfl, rfl⟩
  refine ⟨fun i j p q hi hj hpq => ?_, fun k q hk => ?_⟩
  · obtain ⟨p0, a1, a2⟩ := key i p hi
    obtain ⟨q0, b1, b2⟩ := key j q hj
    exact h.1 i j p0 q0 a1 b1 (a2.trans (hpq.trans b2.symm))
  · obtain ⟨q0, b1, b2⟩ := key k q hk
    exact b2 ▸ h.2 k q0 b1
theorem zwd_in {dA : Nat → ClassId} {ad : Nat → Nat} {sh : List zSE} {A : Nat → Prop} {μ : zI} {ν : zJ} (h : va_D A (zwd dA ad sh μ ν)) {r : Nat} (hr : r < sh.length) : A (ad r) := by
  have he : sh[r]? = some sh[r] := List.getElem?_eq_getElem hr
  have h1 := zwd_at (dA := dA) (ad := ad) (μ := μ) (ν := ν) (xw := []) he
  rw [List.append_nil] at h1
  exact h.2 r _ h1
theorem zwd_self {dA : Nat → ClassId} {ad : Nat → Nat} {sh : List zSE} {B : Nat → Prop} {μ : zI} {ν : zJ} (h : va_D B (zwd dA ad sh μ ν)) (sz : Nat) : va_D (zA ad sh.length sz) (zwd dA ad sh μ ν) := by
  refine ⟨h.1, fun k q hk => Or.inl ⟨k, ?_, ?_⟩⟩
  · have h1 := (List.getElem?_eq_some_iff.mp hk).1
    rwa [zwd, List.length_mapIdx] at h1
  · rw [zwd, List.getElem?_mapIdx] at hk
    cases he : sh[k]? with
    | none => rw [he] at hk; cases hk
    | some e => rw [he] at hk; cases hk; rfl
/-- a method's contract: from these arguments and this world it returns, with Q -/
def zPre (D : va_G) (dA : Nat → ClassId) (ad : Nat → Nat) (sh : List zSE) (μ : zI) (ν : zJ) (sz : Nat) (U : State) : Prop := U.heap.size = sz ∧ va_P D CL (zwd dA ad sh μ ν) U.heap ∧ va_K D CL (zty dA) U ∧ va_D (fun _ => True) (zwd dA ad sh μ ν) ∧ zS ad (zA ad sh.length sz) U
def zC (l : Launch) (D : va_G) (dA : Nat → ClassId) (ad : Nat → Nat) (sh : List zSE) (y : zM) (d mc ms : Nat) (av : List Value) (μ : zI) (ν : zJ) (Q : zPost) : Prop :=
  ∀ sz : Nat, Met l y.1 (zws y) (zR d mc ms) (va_Pc av (zPre D dA ad sh μ ν sz)) (zQ D dA ad sh Q (zA ad sh.length sz)) mc ms (zA ad sh.length sz)
section ZC
variable {l : Launch} {D : va_G} {dA : Nat → ClassId} {ad : Nat → Nat} {sh : List zSE} {y : zM} {R : Room} {X : (Nat → Prop) → State → Prop} {Q : zPost} {mc ms cells slots : Nat} {xw : va_W} {pc : Nat} {L : List (Nat × Value)} {S : List Value} {μ : zI} {ν : zJ}
theorem zC.of {d : Nat} {av : List Value} (hy : plainName y.1.cls = true) (hlen : (lg_sl av).length ≤ y.2.2.1) (h : Z l D dA ad sh y (zR d mc ms) (zS ad) Q mc ms 0 0 [] 0 (lv_args 0 av) [] μ ν) : zC l D dA ad sh y d mc ms av μ ν Q := by
  intro sz
  refine Met.ofW (cc := y.2.1) (maxL := y.2.2.1) (ret := y.2.2.2) hy rfl ?_
  intro p e s m args below meth c s₁ B hml hv
  obtain ⟨rfl, hsz, hP, hK, hD, hX⟩ := hv
  subst hsz
  have hts := atoms_spec (ws := zws y) B.pre
  have hl := lv_entry av (n := y.2.2.1) hlen
  rw [lg_entry_eq]
  refine h p e s m _ below meth c s.heap [] _ (zA ad sh.length s.heap.size) ⟨B.exec, B.bytes, hml, B.returns, fun w hw => hts w (List.mem_cons_of_mem _ hw), findClass_of_methodNamed B.named, B.notSynchronized, fun q hq => Or.inr hq, hX⟩ ⟨va_S.rf, ?_, hK, ?_, hl⟩
  · rw [List.append_nil]; exact hP
  · rw [List.append_nil]; exact zwd_self hD _
/-- a stronger end is an end -/
theorem zC.mono {d : Nat} {av : List Value} {Q' : zPost} (h : zC l D dA ad sh y d mc ms av μ ν Q) (hQ : ∀ r μ' ν', Q r μ' ν' → Q' r μ' ν') : zC l D dA ad sh y d mc ms av μ ν Q' := by
  intro sz p e ha hc hk s m args below hf happ hP hK
  obtain ⟨k, o, h1, h2, h3, ⟨⟨⟨r, μ', ν', a1, a2, a3⟩, h5⟩, h6⟩⟩ := h sz p e ha hc hk s m args below hf happ hP hK
  exact ⟨k, o, h1, h2, h3, ⟨⟨⟨r, μ', ν', a1, hQ _ _ _ a2, a3⟩, h5⟩, h6⟩⟩
def zMd (z : zM) (n : Nat) : Prop := Cond.initialized z.1.cls ∈ TB ∧ Cond.code z.1 z.2.1 z.2.2.1 z.2.2.2 ∈ TB ∧ z.1.cls ≠ "java/lang/invoke/MethodHandle" ∧ z.1.cls ≠ "java/lang/invoke/VarHandle" ∧ (parseMethodDescriptor z.1.desc).map (fun d => d.parameters.length) = some n
def zMv (z : zM) (n : Nat) : Prop := zMd z n ∧ Cond.instanceMethod z.1 ∈ TB ∧ Cond.selects z.1.cls z.1 z.1 ∈ TB
def zMs (z : zM) (n : Nat) : Prop := zMd z n ∧ Cond.static z.1 ∈ TB
theorem zws_good {z : zM} {n : Nat} (h : zMd z n) : GoodIn TB (zws z) := fun w hw => (List.mem_cons.mp hw).elim (fun e => e ▸ TB_good _ h.2.1) (fun hw => TB_good w hw)
theorem zblind {av : List Value} {sz : Nat} : FrameBlind (va_Pc av (zPre D dA ad sh μ ν sz)) := fun a U g mk q => ⟨q.1, q.2.1, q.2.2.1, va_K.moved (u := U) (U := U.calling g mk a) (Vm.Alike.refl U.vm) q.2.2.2.1, q.2.2.2.2.1, zS.calling q.2.2.2.2.2 g mk a⟩
theorem zcall_pre {A : Nat → Prop} {s : State} {H : Heap} {locs : List Loc} {av : List Value} (hA : ∀ q, s.heap.size ≤ q → A q) (hX : zS ad A s) (hS : va_S A s.heap H locs) (hP : va_P D CL (zwd dA ad sh μ ν) H) (hK : va_K D CL (zty dA) s) (hD : va_D A (zwd dA ad sh μ ν)) (U : State) (hU : U.heap = H) (hW : s.WarmedH U.vm) : va_Pc av (zPre D dA ad sh μ ν H.size) av.toArray U := by
  refine ⟨rfl, by rw [hU], by rw [hU]; exact hP, va_K.moved hW.alike hK, hD.weaken (fun _ _ _ _ => trivial), ?_⟩
  refine hX.later hW (fun a h1 h2 => by rw [hU]; exact hS.2.1 a h1 h2) ?_
  rintro q (⟨r, hr, rfl⟩ | h)
  · exact zwd_in hD hr
  · exact hA q (Nat.le_trans hS.1 h)
theorem zcall_go {p : Program} {e : Env} {s : State} {m : MethodId} {args : Array Value} {below : List Frame} {meth : Method} {c : Code} {H : Heap} {locs : List Loc} {ls : Array Slot} {A : Nat → Prop} {Qs : State → Prop} {mc1 ms1 : Nat} {st0 rest : List Value} {Qz : zPost} {a : Array Value}
    (hA : ∀ q, s.heap.size ≤ q → A q) (hS : va_S A s.heap H locs) (hD : va_D A (zwd dA ad sh μ ν))
    (hr : va_Run p l e R s m args below meth c H locs cells slots mc1 ms1 (F0 m pc ls st0) rest (zQ D dA ad sh Qz (zA ad sh.length H.size) a) (zA ad sh.length H.size))
    (kk : ∀ (r : Option Value) (μ' : zI) (ν' : zJ) (H1 : Heap) (locs1 : List Loc), Qz r μ' ν' → va_S A s.heap H1 locs1 → va_P D CL (zwd dA ad sh μ' ν') H1 → va_D A (zwd dA ad sh μ' ν') → W p l e R s m args below meth c H1 locs1 (cells + mc1) (slots + ms1) Qs (F0 m (pc + 3) ls (r.toList ++ rest))) : W p l e R s m args below meth c H locs cells slots Qs (F0 m pc ls st0) := by
  have hz0 : ∀ q, zA ad sh.length H.size q → A q := by
    rintro q (⟨r, hr, rfl⟩ | h)
    · exact zwd_in hD hr
    · exact hA q (Nat.le_trans hS.1 h)
  intro T hT X1
  obtain ⟨v, st₀, t, T', L1, h0, X', hL, e1, e2, ⟨⟨r, μ', ν', hv, hq, hP1, hK1, hD1⟩, hz, hk⟩, st⟩ := hr T hT X1
  cases hv
  rw [h0] at hz hk
  obtain ⟨t2, a1, b1⟩ := kk v μ' ν' T'.heap (locs ++ L1) hq
    ⟨Nat.le_trans hS.1 (by rw [e1]; exact hz), fun q h1 h2 => by rw [e1, hk q (Nat.lt_of_lt_of_le h1 hS.1) (fun z => h2 (hz0 q z))]; exact hS.2.1 q h1 h2, fun q hq => by
      rcases List.mem_append.mp hq with h | h
      · exact hS.2.2 q h
      · exact hz0 _ (hL q h)⟩ (by rw [e1]; exact hP1) (zwd_D hD) T' rfl X'
  exact ⟨t2, st t2 a1, b1⟩
theorem z_callV {idx b ci n d mc1 ms1 : Nat} {z : zM} {As S0 : List Value} {fks : List Nat} {T : u_T} {N : Nat} {Qz : zPost} (hd : decode y.2.1 pc = .ok (.invokevirtual idx, 3)) (hC : zC l D dA ad sh z d mc1 ms1 (.ref (ad b) :: As) μ ν Qz) (hz : zMv z n) (hlk : Cond.methodLink y.1.cls idx z.1 ∈ TB) (hX : ∀ A s, X A s → zS ad A s) (hs : sh[b]? = some (.inl (ci, fks))) (hcl : CL[ci]? = some (z.1.cls, T, N)) (hn : As.length = n) (hR : d + 1 ≤ R.frames ∧ 8 + (z.2.2.1 + 11) + 40 * d ≤ R.locals) (hf : cells + mc1 ≤ R.cells ∧ slots + ms1 ≤ R.slots) (hst : S0 = As.reverse ++ .ref (ad b) :: S) (hW : (S.map fun v => v.category).sum ≤ 8)
    (kk : ∀ r μ' ν', Qz r μ' ν' → Z l D dA ad sh y R X Q mc ms (cells + mc1) (slots + ms1) [] (pc + 3) L (r.toList ++ S) μ' ν') : Z l D dA ad sh y R X Q mc ms cells slots [] pc L S0 μ ν := by
  intro p e s m args below meth c H locs ls A h0 h1
  obtain ⟨hx, hb, hm, hr, ht, ho, hk, hA, hX0⟩ := id h0
  obtain ⟨hS, hP, hK, hD, hll⟩ := h1
  rw [List.append_nil] at hP hD
  have hs1 : (zwd dA ad sh μ ν)[b]? = some (ad b, zE dA ad (μ b) (ν b) (.inl (ci, fks))) := by
    have h := zwd_at (dA := dA) (ad := ad) (μ := μ) (ν := ν) (xw := []) hs
    rwa [List.append_nil] at h
  refine zcall_go (rest := S) hA hS hD (va_runV (As := As) (b := ad b) (C := z.1.cls) (Ts := TB) ⟨hx, hb, hm, ho, ht⟩ (hC H.size) ⟨callB_of n ht (zws_good hz.1) rfl rfl rfl (ht _ hz.1.1) (ht _ hlk) hz.1.2.2 hR, ht _ hz.2.1, ht _ hz.2.2⟩ ⟨zblind, va_recv hK hP hcl hs1, fun U hU hW => zcall_pre hA (hX A s hX0) hS hP hK hD U hU hW⟩ rfl hn hll.1 hst (lv_room hW) hd hf) (fun r μ' ν' H1 locs1 hq hS1 hP1 hD1 => kk r μ' ν' hq p e s m args below meth c H1 locs1 ls A h0 ⟨hS1, by rw [List.append_nil]; exact hP1, hK, by rw [List.append_nil]; exact hD1, hll⟩)
theorem z_callS {idx n d mc1 ms1 : Nat} {z : zM} {As S0 : List Value} {Qz : zPost} (hd : decode y.2.1 pc = .ok (.invokestatic idx, 3)) (hC : zC l D dA ad sh z d mc1 ms1 As μ ν Qz) (hz : zMs z n) (hlk : Cond.methodLink y.1.cls idx z.1 ∈ TB) (hX : ∀ A s, X A s → zS ad A s) (hn : As.length = n) (hR : d + 1 ≤ R.frames ∧ 8 + (z.2.2.1 + 11) + 40 * d ≤ R.locals) (hf : cells + mc1 ≤ R.cells ∧ slots + ms1 ≤ R.slots) (hst : S0 = As.reverse ++ S) (hW : (S.map fun v => v.category).sum ≤ 8)
    (kk : ∀ r μ' ν', Qz r μ' ν' → Z l D dA ad sh y R X Q mc ms (cells + mc1) (slots + ms1) [] (pc + 3) L (r.toList ++ S) μ' ν') : Z l D dA ad sh y R X Q mc ms cells slots [] pc L S0 μ ν := by
  intro p e s m args below meth c H locs ls A h0 h1
  obtain ⟨hx, hb, hm, hr, ht, ho, hk, hA, hX0⟩ := id h0
  obtain ⟨hS, hP, hK, hD, hll⟩ := h1
  rw [List.append_nil] at hP hD
  refine zcall_go (rest := S) hA hS hD (va_runS (As := As) (Ts := TB) ⟨hx, hb, hm, ho, ht⟩ (hC H.size) ⟨callB_of n ht (zws_good hz.1) rfl rfl rfl (ht _ hz.1.1) (ht _ hlk) hz.1.2.2 hR, ht _ hz.2⟩ ⟨zblind, fun U hU hW => zcall_pre hA (hX A s hX0) hS hP hK hD U hU hW⟩ rfl hn hll.1 hst (lv_room hW) hd hf) (fun r μ' ν' H1 locs1 hq hS1 hP1 hD1 => kk r μ' ν' hq p e s m args below meth c H1 locs1 ls A h0 ⟨hS1, by rw [List.append_nil]; exact hP1, hK, by rw [List.append_nil]; exact hD1, hll⟩)
/-- a private static method of a nest mate -/
theorem z_callSN {idx n d mc1 ms1 : Nat} {z : zM} {As S0 : List Value} {Qz : zPost} {host : String} (hd : decode y.2.1 pc = .ok (.invokestatic idx, 3)) (hC : zC l D dA ad sh z d mc1 ms1 As μ ν Qz) (hz : zMs z n) (hlk : (y.1.cls, idx, z.1, host) ∈ zNest) (hX : ∀ A s, X A s → zS ad A s) (hn : As.length = n) (hR : d + 1 ≤ R.frames ∧ 8 + (z.2.2.1 + 11) + 40 * d ≤ R.locals) (hf : cells + mc1 ≤ R.cells ∧ slots + ms1 ≤ R.slots) (hst : S0 = As.reverse ++ S) (hW : (S.map fun v => v.category).sum ≤ 8)
    (kk : ∀ r μ' ν', Qz r μ' ν' → Z l D dA ad sh y R X Q mc ms (cells + mc1) (slots + ms1) [] (pc + 3) L (r.toList ++ S) μ' ν') : Z l D dA ad sh y R X Q mc ms cells slots [] pc L S0 μ ν := by
  intro p e s m args below meth c H locs ls A h0 h1
  obtain ⟨hx, hb, hm, hr, ht, ho, hk, hA, hX0⟩ := id h0
  obtain ⟨hS, hP, hK, hD, hll⟩ := h1
  rw [List.append_nil] at hP hD
  refine zcall_go (rest := S) hA hS hD (va_runSN (As := As) (Ts := TB) ⟨hx, hb, hm, ho, ht⟩ (hC H.size) ⟨va_cnB n ht (zws_good hz.1) rfl rfl rfl ((hX A s hX0).2.1 _ hlk) (ht _ hz.1.1) hz.1.2.2 hR, ht _ hz.2, trivial⟩ ⟨zblind, fun U hU hW => zcall_pre hA (hX A s hX0) hS hP hK hD U hU hW⟩ rfl hn hll.1 hst (lv_room hW) hd hf) (fun r μ' ν' H1 locs1 hq hS1 hP1 hD1 => kk r μ' ν' hq p e s m args below meth c H1 locs1 ls A h0 ⟨hS1, by rw [List.append_nil]; exact hP1, hK, by rw [List.append_nil]; exact hD1, hll⟩)
/-! ## Math -/
def zMax (x w : Int32) : Int32 := if x < w then w else x
def zMin (x w : Int32) : Int32 := if w < x then w else x
def zAbs (x : Int32) : Int32 := if 0 ≤ x then x else 0 - x
theorem zC1.ml {s : State} {m : MethodId} {p : Program} {args : Array Value} {meth : Method} {c : Code} {A : Nat → Prop} {H : Heap} {locs : List Loc} {ls : Array Slot} (h0 : zC0 y X p s m args meth c A) (h1 : zC1 D dA ad sh y s A L μ ν xw H locs ls) : c.maxLocals = ls.size := h0.2.2.1.trans h1.2.2.2.2.1.symm
theorem z_max {idx : Nat} {x w : Int32} (hd : decode y.2.1 pc = .ok (.invokestatic idx, 3)) (hlk : Cond.methodLink y.1.cls idx Lib.Math.max.name ∈ TB) (hs : Cond.static Lib.Math.max.name ∈ TB) (hi : Cond.initialized "java/lang/Math" ∈ TB) (hc : Cond.code Lib.Math.max.name Lib.Math.max.code 2 (some .int) ∈ TB) (hR : 1 ≤ R.frames ∧ (S.map fun v => v.category).sum + 13 ≤ R.locals ∧ cells ≤ R.cells ∧ slots ≤ R.slots)
    (kk : Z l D dA ad sh y R X Q mc ms cells slots xw (pc + 3) L (.int (zMax x w) :: S) μ ν) : Z l D dA ad sh y R X Q mc ms cells slots xw pc L (.int w :: .int x :: S) μ ν := by
  intro p e s m args below meth c H locs ls A h0 h1
  exact va_mmax h0.1 h0.2.1 (zC1.ml h0 h1) h0.2.2.2.2.2.1 (h0.2.2.2.2.1 _ hlk) (h0.2.2.2.2.1 _ hs) (h0.2.2.2.2.1 _ hi) (h0.2.2.2.2.1 _ hc) hR.1 hR.2.1 hR.2.2.1 hR.2.2.2 hd (kk p e s m args below meth c H locs ls A h0 h1)
theorem z_min {idx : Nat} {x w : Int32} (hd : decode y.2.1 pc = .ok (.invokestatic idx, 3)) (hlk : Cond.methodLink y.1.cls idx Lib.Math.min.name ∈ TB) (hs : Cond.static Lib.Math.min.name ∈ TB) (hi : Cond.initialized "java/lang/Math" ∈ TB) (hc : Cond.code Lib.Math.min.name Lib.Math.min.code 2 (some .int) ∈ TB) (hR : 1 ≤ R.frames ∧ (S.map fun v => v.category).sum + 13 ≤ R.locals ∧ cells ≤ R.cells ∧ slots ≤ R.slots)
    (kk : Z l D dA ad sh y R X Q mc ms cells slots xw (pc + 3) L (.int (zMin x w) :: S) μ ν) : Z l D dA ad sh y R X Q mc ms cells slots xw pc L (.int w :: .int x :: S) μ ν := by
  intro p e s m args below meth c H locs ls A h0 h1
  exact va_mmin h0.1 h0.2.1 (zC1.ml h0 h1) h0.2.2.2.2.2.1 (h0.2.2.2.2.1 _ hlk) (h0.2.2.2.2.1 _ hs) (h0.2.2.2.2.1 _ hi) (h0.2.2.2.2.1 _ hc) hR.1 hR.2.1 hR.2.2.1 hR.2.2.2 hd (kk p e s m args below meth c H locs ls A h0 h1)
theorem z_abs {idx : Nat} {x : Int32} (hd : decode y.2.1 pc = .ok (.invokestatic idx, 3)) (hlk : Cond.methodLink y.1.cls idx Lib.Math.abs.name ∈ TB) (hs : Cond.static Lib.Math.abs.name ∈ TB) (hi : Cond.initialized "java/lang/Math" ∈ TB) (hc : Cond.code Lib.Math.abs.name Lib.Math.abs.code 1 (some .int) ∈ TB) (hR : 1 ≤ R.frames ∧ (S.map fun v => v.category).sum + 13 ≤ R.locals ∧ cells ≤ R.cells ∧ slots ≤ R.slots)
    (kk : Z l D dA ad sh y R X Q mc ms cells slots xw (pc + 3) L (.int (zAbs x) :: S) μ ν) : Z l D dA ad sh y R X Q mc ms cells slots xw pc L (.int x :: S) μ ν := by
  intro p e s m args below meth c H locs ls A h0 h1
  exact va_mabs h0.1 h0.2.1 (zC1.ml h0 h1) h0.2.2.2.2.2.1 (h0.2.2.2.2.1 _ hlk) (h0.2.2.2.2.1 _ hs) (h0.2.2.2.2.1 _ hi) (h0.2.2.2.2.1 _ hc) hR.1 hR.2.1 hR.2.2.1 hR.2.2.2 hd (kk p e s m args below meth c H locs ls A h0 h1)
/-! ## arrays as wholes -/
theorem z_alen {r t n : Nat} {v : Int32} (hd : decode y.2.1 pc = .ok (.arraylength, 1)) (hs : sh[r]? = some (.inr (t, n))) (ht : t < 4) (hv : Int32.ofNat n = v)
    (kk : Z l D dA ad sh y R X Q mc ms cells slots xw (pc + 1) L (.int v :: S) μ ν) : Z l D dA ad sh y R X Q mc ms cells slots xw pc L (.ref (ad r) :: S) μ ν := by
  have h4 : ∃ ty, (zty dA)[t]? = some (dA t, ty) := by
    rcases (show t = 0 ∨ t = 1 ∨ t = 2 ∨ t = 3 by omega) with rfl | rfl | rfl | rfl <;> exact ⟨_, rfl⟩
  obtain ⟨ty, hty⟩ := h4
  exact Z.row (fun p e s m args below meth c H locs ls A Qs hx hb ht ho hX h1 k9 => va_alen hx hb h1.2.2.1 h1.2.1 r t (zwd_at hs) hty hv hd k9) kk
def zCp : Prop := Cond.native arraycopyName ∈ TB ∧ Cond.static arraycopyName ∈ TB ∧ Cond.initialized "java/lang/System" ∈ TB
theorem z_copy {idx r0 r n0 n1 : Nat} {sp dp n : Int32} (hd : decode y.2.1 pc = .ok (.invokestatic idx, 3)) (hlk : Cond.methodLink y.1.cls idx arraycopyName ∈ TB) (hcp : zCp) (h0' : sh[r0]? = some (.inr (0, n0))) (h1' : sh[r]? = some (.inr (0, n1))) (hsp : ¬ sp < 0) (hdp : ¬ dp < 0) (hn : ¬ n < 0) (hl0 : sp.toNatClampNeg + n.toNatClampNeg ≤ n0) (hl1 : dp.toNatClampNeg + n.toNatClampNeg ≤ n1) (hR : 1 ≤ R.frames ∧ (S.map fun v => v.category).sum + 18 ≤ R.locals)
    (kk : Z l D dA ad sh y R X Q mc ms cells slots xw (pc + 3) L S (zr μ r (va_cpy (μ r0) (μ r) sp.toNatClampNeg dp.toNatClampNeg n.toNatClampNeg)) ν) : Z l D dA ad sh y R X Q mc ms cells slots xw pc L (.int n :: .int dp :: .ref (ad r) :: .int sp :: .ref (ad r0) :: S) μ ν := by
  intro p e s m args below meth c H locs ls A h0 h1
  have hml := zC1.ml h0 h1
  obtain ⟨hS, hP, hK, hD, hll⟩ := h1
  have ht := h0.2.2.2.2.1
  refine va_copyi (ty := .int) h0.1 h0.2.1 hml h0.2.2.2.2.2.1 (ht _ hlk) (ht _ hcp.1) (ht _ hcp.2.1) (ht _ hcp.2.2) hK hP hD hS r0 r 0 0 (zwd_at h0') (zwd_at h1') rfl rfl rfl hsp hdp hn hl0 hl1 (fun _ _ => rfl) hR.1 hR.2 hd (fun H1 locs1 hP1 hD1 hS1 => ?_)
  rw [zwd_set (μ' := zr μ r (va_cpy (μ r0) (μ r) sp.toNatClampNeg dp.toNatClampNeg n.toNatClampNeg)) (ν' := ν) h1' (by rw [zr_eq, if_pos rfl]; rfl) (fun q hq => by rw [zr_eq, if_neg hq]) (fun _ _ => rfl)] at hP1 hD1
  exact kk p e s m args below meth c H1 locs1 ls A h0 ⟨hS1, hP1, hK, hD1, hll⟩
theorem z_copyl {idx r0 r n0 n1 : Nat} {sp dp n : Int32} (hd : decode y.2.1 pc = .ok (.invokestatic idx, 3)) (hlk : Cond.methodLink y.1.cls idx arraycopyName ∈ TB) (hcp : zCp) (h0' : sh[r0]? = some (.inr (1, n0))) (h1' : sh[r]? = some (.inr (1, n1))) (hsp : ¬ sp < 0) (hdp : ¬ dp < 0) (hn : ¬ n < 0) (hl0 : sp.toNatClampNeg + n.toNatClampNeg ≤ n0) (hl1 : dp.toNatClampNeg + n.toNatClampNeg ≤ n1) (hR : 1 ≤ R.frames ∧ (S.map fun v => v.category).sum + 18 ≤ R.locals)
    (kk : Z l D dA ad sh y R X Q mc ms cells slots xw (pc + 3) L S μ (zrl ν r (va_cpy (ν r0) (ν r) sp.toNatClampNeg dp.toNatClampNeg n.toNatClampNeg))) : Z l D dA ad sh y R X Q mc ms cells slots xw pc L (.int n :: .int dp :: .ref (ad r) :: .int sp :: .ref (ad r0) :: S) μ ν := by
  intro p e s m args below meth c H locs ls A h0 h1
  have hml := zC1.ml h0 h1
  obtain ⟨hS, hP, hK, hD, hll⟩ := h1
  have ht := h0.2.2.2.2.1
  refine va_copyl (ty := .long) h0.1 h0.2.1 hml h0.2.2.2.2.2.1 (ht _ hlk) (ht _ hcp.1) (ht _ hcp.2.1) (ht _ hcp.2.2) hK hP hD hS r0 r 1 1 (zwd_at h0') (zwd_at h1') rfl rfl rfl hsp hdp hn hl0 hl1 (fun _ _ => rfl) hR.1 hR.2 hd (fun H1 locs1 hP1 hD1 hS1 => ?_)
  rw [zwd_set (μ' := μ) (ν' := zrl ν r (va_cpy (ν r0) (ν r) sp.toNatClampNeg dp.toNatClampNeg n.toNatClampNeg)) h1' (by rw [zrl_eq, if_pos rfl]; rfl) (fun _ _ => rfl) (fun q hq => by rw [zrl_eq, if_neg hq])] at hP1 hD1
  exact kk p e s m args below meth c H1 locs1 ls A h0 ⟨hS1, hP1, hK, hD1, hll⟩
/-! ## static tables of ints -/
theorem z_gets {idx k : Nat} {q : String × String × List Int32} (hd : decode y.2.1 pc = .ok (.getstatic idx, 3)) (hX : ∀ A s, X A s → zS ad A s) (hk : zTabs[k]? = some q) (hlk : Cond.fieldLink y.1.cls idx q.1 q.2.1 "[I" ∈ TB)
    (kk : Z l D dA ad sh y R X Q mc ms cells slots xw (pc + 3) L (.ref (ad (1000000 + k)) :: S) μ ν) : Z l D dA ad sh y R X Q mc ms cells slots xw pc L S μ ν :=
  Z.row (fun p e s m args below meth c H locs ls A Qs hx hb ht ho hX0 h1 k9 => va_gets hx hb ((hX A s hX0).1 k q hk).1 h1.1 ho (ht _ hlk) (fun _ h => h) hd k9) kk
theorem z_tald {k : Nat} {i : Int32} {q : String × String × List Int32} (hd : decode y.2.1 pc = .ok (.iaload, 1)) (hX : ∀ A s, X A s → zS ad A s) (hk : zTabs[k]? = some q) (hin : vp_in i q.2.2.length)
    (kk : Z l D dA ad sh y R X Q mc ms cells slots xw (pc + 1) L (.int (q.2.2.getD i.toNatClampNeg 0) :: S) μ ν) : Z l D dA ad sh y R X Q mc ms cells slots xw pc L (.int i :: .ref (ad (1000000 + k)) :: S) μ ν :=
  Z.row (fun p e s m args below meth c H locs ls A Qs hx hb ht ho hX0 h1 k9 => va_ti hx hb ((hX A s hX0).1 k q hk).2 h1.1 hin rfl hd k9) kk
theorem z_copyT {idx k r n1 : Nat} {q : String × String × List Int32} {sp dp n : Int32} (hd : decode y.2.1 pc = .ok (.invokestatic idx, 3)) (hlk : Cond.methodLink y.1.cls idx arraycopyName ∈ TB) (hcp : zCp) (hX : ∀ A s, X A s → zS ad A s) (hk : zTabs[k]? = some q) (h1' : sh[r]? = some (.inr (0, n1))) (hsp : ¬ sp < 0) (hdp : ¬ dp < 0) (hn : ¬ n < 0) (hl0 : sp.toNatClampNeg + n.toNatClampNeg ≤ q.2.2.length) (hl1 : dp.toNatClampNeg + n.toNatClampNeg ≤ n1) (hR : 1 ≤ R.frames ∧ (S.map fun v => v.category).sum + 18 ≤ R.locals)
    (kk : Z l D dA ad sh y R X Q mc ms cells slots xw (pc + 3) L S (zr μ r (va_cpy (fun j => q.2.2.getD j 0) (μ r) sp.toNatClampNeg dp.toNatClampNeg n.toNatClampNeg)) ν) : Z l D dA ad sh y R X Q mc ms cells slots xw pc L (.int n :: .int dp :: .ref (ad r) :: .int sp :: .ref (ad (1000000 + k)) :: S) μ ν := by
  intro p e s m args below meth c H locs ls A h0 h1
  have hml := zC1.ml h0 h1
  obtain ⟨hS, hP, hK, hD, hll⟩ := h1
  have ht := h0.2.2.2.2.1
  have nn : ∀ z : Int32, ¬ z < 0 → z.toInt = (z.toNatClampNeg : Int) := by
    intro z hz
    have hz0 : (0 : Int) ≤ z.toInt := by
      have := Int32.not_lt.mp hz
      simpa using Int32.le_iff_toInt_le.mp this
    show z.toInt = ((z.toInt.toNat : Nat) : Int)
    omega
  have ha1 := zwd_at (dA := dA) (ad := ad) (μ := μ) (ν := ν) (xw := xw) h1'
  have hc1 : H[ad r]? = some (vp_cell (dA 0) (n1, .inl (μ r))) := hP r _ ha1
  intro T hT X1
  obtain ⟨scr, hs1, hs2, hs3, hs4, -, hs5, hs7⟩ := ((hX A s h0.2.2.2.2.2.2.2.2).1 k q hk).2
  have hc0 : H[ad (1000000 + k)]? = some scr := by rw [hS.2.1 _ (Array.getElem?_eq_some_iff.mp hs1).1 hs7]; exact hs1
  obtain ⟨hs6, k0, hk0, cm0, hkk0⟩ := hs2
  obtain ⟨-, k1, hk1, cm1, hkk1⟩ := (hK.2 0 _ rfl).1 n1 (fun j => .int (μ r j))
  obtain ⟨vm', X', step⟩ := X1.arraycopy h0.1 h0.2.2.2.2.2.1 (ht _ hlk) (ht _ hcp.1) (ht _ hcp.2.1) (ht _ hcp.2.2) (src := ad (1000000 + k)) (dst := ad r) (cs := scr) (cd := vp_cell (dA 0) (n1, .inl (μ r))) (srcPos := sp) (destPos := dp) (n := n) (by rw [hT]; exact hc0) (by rw [hT]; exact hc1)
    hs6 (fun _ h => by cases h) hs3 (fun h => by cases h) hk0 hk1 hkk0 hkk1 (by simp [refKind]) hsp hdp hn
    (by rw [nn sp hsp, nn n hn]; omega)
    (by rw [nn dp hdp, nn n hn]; show ¬ _ > ((arrV (dA 0) n1 (fun j => .int (μ r j))).slots.size : Int); rw [arrV_size]; omega)
    (fun vm₁ _ i hi => by
      have e : scr.slots.getD (sp.toNatClampNeg + i) .null = .int (q.2.2.getD (sp.toNatClampNeg + i) 0) := by
        rw [Array.getD_eq_getD_getElem?, hs5 _ (by omega)]
        rfl
      refine ⟨?_, ?_⟩
      · rw [e]
        rfl
      · rw [e]
        exact trivial)
    (g := F0 m pc ls (.int n :: .int dp :: .ref (ad r) :: .int sp :: .ref (ad (1000000 + k)) :: S)) rfl (by rw [hml]) (rest := S) rfl (by rw [h0.2.1]; exact hd) hR.1 (by show 2 * 0 + _ + 18 ≤ _; omega)
  have e1 : copied scr (vp_cell (dA 0) (n1, .inl (μ r))) sp dp n = vp_cell (dA 0) (n1, .inl (va_cpy (fun j => q.2.2.getD j 0) (μ r) sp.toNatClampNeg dp.toNatClampNeg n.toNatClampNeg)) := va_copiedX (fun z => .int z) scr (dA 0) (fun j => q.2.2.getD j 0) (μ r) hs5 hl0
  rw [e1] at X' step
  have hl : ad r < H.size := (Array.getElem?_eq_some_iff.mp hc1).1
  have hheap : ((T.setVm vm').setCell (ad r) (vp_cell (dA 0) (n1, .inl (va_cpy (fun j => q.2.2.getD j 0) (μ r) sp.toNatClampNeg dp.toNatClampNeg n.toNatClampNeg)))).heap = H.setIfInBounds (ad r) (vp_cell (dA 0) (n1, .inl (va_cpy (fun j => q.2.2.getD j 0) (μ r) sp.toNatClampNeg dp.toNatClampNeg n.toNatClampNeg))) := by rw [← hT]; rfl
  have oq : ∀ q' : Nat, q' ≠ ad r → (H.setIfInBounds (ad r) (vp_cell (dA 0) (n1, .inl (va_cpy (fun j => q.2.2.getD j 0) (μ r) sp.toNatClampNeg dp.toNatClampNeg n.toNatClampNeg))))[q']? = H[q']? := fun q' hq => by simp [Array.getElem?_setIfInBounds, Ne.symm hq]
  have hP1 := hP.set (e := .inl (dA 0, n1, .inl (va_cpy (fun j => q.2.2.getD j 0) (μ r) sp.toNatClampNeg dp.toNatClampNeg n.toNatClampNeg))) hD ha1 (show (H.setIfInBounds (ad r) _)[ad r]? = some _ by simp [Array.getElem?_setIfInBounds, hl]) oq
  have hD1 := hD.set (e := .inl (dA 0, n1, .inl (va_cpy (fun j => q.2.2.getD j 0) (μ r) sp.toNatClampNeg dp.toNatClampNeg n.toNatClampNeg))) ha1
  rw [zwd_set (μ' := zr μ r (va_cpy (fun j => q.2.2.getD j 0) (μ r) sp.toNatClampNeg dp.toNatClampNeg n.toNatClampNeg)) (ν' := ν) h1' (by rw [zr_eq, if_pos rfl]; rfl) (fun q hq => by rw [zr_eq, if_neg hq]) (fun _ _ => rfl)] at hP1 hD1
  obtain ⟨t, a1, b1⟩ := kk p e s m args below meth c _ _ ls A h0 ⟨⟨by simp; exact hS.1, fun q' g1 g2 => by
      rw [oq q' (fun e => g2 (by rw [e]; exact hD.2 r _ ha1))]
      exact hS.2.1 q' g1 g2, fun q' hq => by
      rcases List.mem_append.mp hq with h | h
      · exact hS.2.2 q' h
      · obtain ⟨z, -, hz⟩ := List.mem_map.mp h
        rw [← hz]
        exact hD.2 r _ ha1⟩, hP1, hK, hD1, hll⟩ _ hheap X'
  exact ⟨t, step t a1, b1⟩
end ZC
