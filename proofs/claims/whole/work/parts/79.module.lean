/-! Two throws of module. -/
section NST
variable {p : Program} {l : Launch} {e : Env} {R : Room} {s : State} {m : MethodId} {args : Array Value} {below : List Frame} {meth : Method} {c : Code} {H : Heap} {locs : List Loc} {cells slots : Nat} {Q : State → Prop}
variable {mc ms : Nat} {free : Addr → Prop} {A0 A1 : Nat → Prop} {H0 : Heap} {a : Array Value} {ls : Array Slot} {st0 rest : List Value}
variable {Qc : Array Value → State → Outcome → State → Prop} {XC : String → State → State → Prop}
theorem ns_throw {cc : ByteArray} {pc : Nat} (hexec : p.tables.exec = Jvm.exec) (hb : c.code = cc) (hl : l.stackTraces = false) {own text : String} {ik is ic mc ms sa : Nat} {A : Nat → Prop}
    (hown : s.vm.findClass own = some m.cls)
    (hk : (Cond.classLink own ik nNS).before args s = true) (hini : (Cond.initialized nNS).before args s = true) (hstr : vk_R own is text sa s) (hat : ∀ w ∈ (nsAt own ic).filter vx_no, w.before args s = true)
    (hgood : ∀ w ∈ Cond.classLink own ik nNS :: Cond.initialized nNS :: (nsAt own ic).filter vx_no, vx_ot w = true)
    (hU : vx_Zq Bundle.tN "UNASSIGNED_STACK" Bundle.steD A s s.heap) (hN : vx_Zq Bundle.tN "SUPPRESSED_SENTINEL" Bundle.listD A s s.heap) (hS : va_S A s.heap H locs) (hsize : ls.size = c.maxLocals)
    (d0 : decode cc pc = .ok (.new ik, 3)) (d3 : decode cc (pc + 3) = .ok (.dup, 1)) (d4 : decode cc (pc + 4) = .ok (.ldc is, 2)) (d6 : decode cc (pc + 6) = .ok (.invokespecial ic, 3)) (d9 : decode cc (pc + 9) = .ok (.athrow, 1))
    (hout : ∀ x ∈ c.exceptionTable.toList, covers x (pc + 9) = false)
    (hRframes : 5 < R.frames) (hRlocals : (rest.map fun v => v.category).sum + (13 * 3 + 43) ≤ R.locals) (hRcells : cells + 1 ≤ R.cells) (hRslots : slots + 6 ≤ R.slots) (hlocks : meth.locks = false)
    (hx : ∀ t : State, s.vm.Alike t.vm → H.size ≤ t.heap.size → (∀ q : Nat, q < H.size → t.heap[q]? = H[q]?) → XC nNS s t)
    (hf : ∀ z ∈ locs, free z.base) (hc : cells + 1 ≤ mc) (hs : slots + 6 ≤ ms) :
    W p l e R s m args below meth c H locs cells slots (vx_MQ below Qc XC args s mc ms free) (F0 m pc ls rest) := by
  intro T hT X
  have htr : e.platform.stackTraces = false := (show e.platform.stackTraces = l.stackTraces by rw [X.admits.platform]).trans hl
  have Y := vx_rebase X (R' := { frames := R.frames, locals := R.locals, cells := 1, slots := 6 }) (Nat.le_refl _) (Nat.le_refl _) hRcells hRslots
  obtain ⟨s', hA⟩ : ∃ z, z = (T.setVm s.vm).setFrames (.invoking m args :: below) := ⟨_, rfl⟩
  rw [← hA] at Y
  have hvm : s'.vm = s.vm := by rw [hA]; rfl
  have hhp : s'.heap = H := by rw [hA]; exact hT
  have hW0 : s.WarmedH s'.vm := by rw [hvm]; exact State.WarmedH.refl s
  have hat' : ∀ w ∈ (nsAt own ic).filter vx_no, w.before args s' = true := fun w hw => vx_ot_at hW0 hvm.symm (hgood w (List.mem_cons_of_mem _ (List.mem_cons_of_mem _ hw))) (hat w hw)
  have hk' : (Cond.classLink own ik nNS).before args s' = true := vx_ot_at hW0 hvm.symm (hgood _ List.mem_cons_self) hk
  have hini' : (Cond.initialized nNS).before args s' = true := vx_ot_at hW0 hvm.symm (hgood _ (List.mem_cons_of_mem _ List.mem_cons_self)) hini
  have hU' : vx_Zq Bundle.tN "UNASSIGNED_STACK" Bundle.steD A s' s'.heap := by rw [hhp]; exact vx_Zq.moved hW0.alike (hU.kept hS.2.1)
  have hN' : vx_Zq Bundle.tN "SUPPRESSED_SENTINEL" Bundle.listD A s' s'.heap := by rw [hhp]; exact vx_Zq.moved hW0.alike (hN.kept hS.2.1)
  have h : ∀ w ∈ nsAt own ic, w.before args s' = true := vx_own hat' (vx_isRefq hU'.1) (vx_isRefq hN'.1) hU'.2.word hN'.2.word
  have hown' : s'.vm.findClass own = some m.cls := by rw [hvm]; exact hown
  have hins : (Cond.instantiable nNS 6).before args s' = true := h _ (by simp [nsAt, nsTail])
  obtain ⟨vm₁, cX, kX, hfX, hkX, -, -, X₁, st1⟩ := Y.newCold hexec (own := own) (C := nNS) (index := ik) (n := 6) hown' hk' hins hini'
    (g := F0 m pc ls rest) rfl (by rw [hb]; exact d0) (Nat.le_refl _) (Nat.le_refl _)
  generalize hT1 : (T.setVm vm₁).pushCell { cls := cX, slots := kX.instanceTypes.map defaultValue, vm := .none } = T1 at X₁ st1
  have hcat : (Value.ref T.heap.size).category = 1 := rfl
  have hcellA : T1.heap[T.heap.size]? = some (freshCell cX kX) := by rw [← hT1]; exact State.heap_pushCell_size _ _
  have d3' : decode c.code (pc + 3) = .ok (.dup, 1) := by rw [hb]; exact d3
  have d4' : decode c.code (pc + 4) = .ok (.ldc is, 2) := by rw [hb]; exact d4
  have hstr' : vk_R own is text sa s' := vk_R.warm hW0 hstr
  obtain ⟨U, hsteps, hrun, hend, hW, hsame, ce, hce, hOv, hOc⟩ := ns_ctor X₁ hexec htr (own := own) (ic := ic) hown' h (fun x hx => nomatch hx) hfX hkX hcellA (by rw [hhp, hT]; exact Nat.le_refl _) (msg := .ref sa) rfl
    (g := { method := m, pc := pc + 6, locals := ls, stack := .ref sa :: .ref T.heap.size :: .ref T.heap.size :: rest, locked := none }) rfl hsize rfl rfl (rest := rest) rfl
    (by rw [hb]; exact d6) (by rw [hb]; exact d9) hout hRframes (by simp only [List.map_cons, List.sum_cons, hcat]; omega) hlocks
  obtain ⟨f1, f2⟩ := vx_frame hsame
  rw [hhp] at f1 f2
  have hWs : s.WarmedH U.vm := State.WarmedH.trans hW0 hW
  have hcl : s.vm.findClass nNS = some ce.cls := by
    have h9 := hOc
    rw [hvm] at h9
    exact h9
  have hall : s.sameButNew ({ U with vm := s.vm } : State) locs mc ms := by
    subst hA
    obtain ⟨e1, e2⟩ := hsame
    rw [State.setFrames_setFrames] at e1
    have h2 : (T.setVm s.vm).sameButNew ({ U with vm := s.vm } : State) [] (0 + 1) (0 + 6) := ⟨e1, e2⟩
    have h3 := X.same.trans h2
    rw [List.append_nil] at h3
    exact h3.mono hc hs
  refine ⟨U, ?_, .threw T.heap.size, hrun, hend, Or.inr ⟨T.heap.size, rfl, nNS, ce, locs, hx U hWs.alike f1 (fun q hq => f2 q hq (fun z hz => nomatch hz)), hce, hOv, hcl, hWs, hall, hf⟩⟩
  refine st1 _ ?_
  show Steps p.tables e below (T1.setTop { method := m, pc := pc + 3, locals := ls, stack := .ref T.heap.size :: rest, locked := none }) _
  jvm_step X₁.here [X₁.here.top, hexec, d3', Value.category]
  exact X₁.ldcString hexec (own := own) (text := text) (index := is) (a := sa) hown' hstr'.1 hstr'.2
    (g := { method := m, pc := pc + 4, locals := ls, stack := .ref T.heap.size :: .ref T.heap.size :: rest, locked := none }) rfl d4' _ hsteps
end NST
def exL : List MethodName := [Bundle.initS nRt, Bundle.initS "java/lang/Exception", Bundle.initS Bundle.tN]
def isCa (n : String) : Cond → Bool
  | .castable a b => decide (a = n) && decide (b = n)
  | .declares x => decide (x ∈ exL)
  | _ => false
theorem isCa_eq {n : String} {w : Cond} (h : isCa n w = true) : w = .castable n n ∨ ∃ x ∈ exL, w = .declares x := by
  cases w <;> first | (simp only [isCa, Bool.and_eq_true, decide_eq_true_eq] at h; obtain ⟨rfl, rfl⟩ := h; exact Or.inl rfl) | (simp only [isCa, decide_eq_true_eq] at h; exact Or.inr ⟨_, h, rfl⟩) | exact absurd h (by simp [isCa])
theorem at_IO1 : ((vx_atS "SunPoint" 161 nIO nUp).all (fun w => decide (w ∈ tables_1))) = true := by decide +kernel
theorem at_NS1 : (((nsAt "SunPoint" 177).filter vx_no).all (fun w => decide (w ∈ tables_1))) = true := by decide +kernel
theorem at_IO2 : ((vx_atS "SunPoint" 161 nIO nUp).all (fun w => isCa nIO w || goodWord w)) = true := by decide +kernel
theorem at_NS2 : (((nsAt "SunPoint" 177).filter vx_no).all (fun w => isCa nNS w || goodWord w)) = true := by decide +kernel
theorem gd_IO : ((Cond.classLink "SunPoint" 157 nIO :: Cond.initialized nIO :: vx_atS "SunPoint" 161 nIO nUp).all vx_ot) = true := by decide +kernel
theorem gd_NS : ((Cond.classLink "SunPoint" 173 nNS :: Cond.initialized nNS :: (nsAt "SunPoint" 177).filter vx_no).all vx_ot) = true := by decide +kernel
theorem at_of {L : List Cond} {n : String} (h1 : (L.all (fun w => decide (w ∈ tables_1))) = true) (h2 : (L.all (fun w => isCa n w || goodWord w)) = true) : ∀ w ∈ L, (w = .castable n n ∨ ∃ x ∈ exL, w = .declares x) ∨ w ∈ TB := by
  intro w hw
  have a1 := of_decide_eq_true (List.all_eq_true.mp h1 w hw)
  have a2 := List.all_eq_true.mp h2 w hw
  rw [Bool.or_eq_true] at a2
  rcases a2 with a2 | a2
  · exact Or.inl (isCa_eq a2)
  · exact Or.inr (List.mem_filter.mpr ⟨List.mem_append_right _ a1, a2⟩)
/-- what stands, and what a throw needs -/
def zX (ad : Nat → Nat) (A : Nat → Prop) (U : State) : Prop := zS ad A U ∧ vx_Zq Bundle.tN "UNASSIGNED_STACK" Bundle.steD A U U.heap ∧ vx_Zq Bundle.tN "SUPPRESSED_SENTINEL" Bundle.listD A U U.heap ∧ va_Nw (.castable nIO nIO) U ∧ va_Nw (.castable nNS nNS) U ∧ va_Nc nNS nIO U ∧ ∀ x ∈ exL, va_Nw (.declares x) U
theorem zX.later {ad : Nat → Nat} {A B : Nat → Prop} {s U : State} (h : zX ad A s) (hW : s.WarmedH U.vm) (hq : ∀ a : Nat, a < s.heap.size → ¬ A a → U.heap[a]? = s.heap[a]?) (hAB : ∀ q, B q → A q) : zX ad B U := by
  obtain ⟨h1, h2, h3, h4, h5, h6, h7⟩ := h
  exact ⟨h1.later hW hq hAB, (vx_Zq.moved hW.alike (h2.kept hq)).narrow hAB, (vx_Zq.moved hW.alike (h3.kept hq)).narrow hAB, va_Nw.warmC hW h4, va_Nw.warmC hW h5, va_Nc.moved hW.alike h6, fun x hx => va_Nw.warmD hW (h7 x hx)⟩
theorem zX.calling {ad : Nat → Nat} {A : Nat → Prop} {U : State} (h : zX ad A U) (g : JFrame) (mk : MethodId) (a : Array Value) : zX ad A (U.calling g mk a) := h.later (State.WarmedH.refl U) (fun _ _ _ => rfl) (fun _ h => h)
theorem zX.congr {ad ad' : Nat → Nat} {A : Nat → Prop} {U : State} (h : zX ad A U) (e : ∀ k, 1000000 ≤ k → ad' k = ad k) : zX ad' A U := ⟨h.1.congr e, h.2⟩
def zPreX (D : va_G) (dA : Nat → ClassId) (ad : Nat → Nat) (sh : List zSE) (μ : zI) (ν : zJ) (sz : Nat) (U : State) : Prop := U.heap.size = sz ∧ va_P D CL (zwd dA ad sh μ ν) U.heap ∧ va_K D CL (zty dA) U ∧ va_D (fun _ => True) (zwd dA ad sh μ ν) ∧ zX ad (zA ad sh.length sz) U
section GM
variable {l : Launch} {D : va_G} {dA : Nat → ClassId} {ad : Nat → Nat} {sh : List zSE} {y : zM} {R : Room} {X : (Nat → Prop) → State → Prop} {ini : Method → Code → Prop} {QF : zQF} {cells slots : Nat} {pc : Nat} {L : List (Nat × Value)} {S : List Value} {μ : zI} {ν : zJ}
theorem g_iload_n {k : Fin 4} {i : Nat} {x : Int32} (hd : decode y.2.1 pc = .ok (.iload_n k, 1)) (j : Nat) (hl : L[j]? = some (i, .int x)) (hi : (k : Nat) = i)
    (kk : G l D dA ad sh y R X ini QF cells slots (pc + 1) L (.int x :: S) μ ν) : G l D dA ad sh y R X ini QF cells slots pc L S μ ν :=
  G.row (fun p e s m args below meth c H locs ls A Qs hx hb ht ho hX h1 h0 k => lv_iload_n hx hb hd hi (lv_at h1.2.2.2.2 j hl) k) kk
theorem g_if_ne_y {x : Int32} {off : Int} {tgt : Nat} (hd : decode y.2.1 pc = .ok (.ifCond .ne off, 3)) (htg : (pc : Int) + off = (tgt : Int)) (h : x ≠ 0)
    (k1 : G l D dA ad sh y R X ini QF cells slots tgt L S μ ν) : G l D dA ad sh y R X ini QF cells slots pc L (.int x :: S) μ ν :=
  G.row (fun p e s m args below meth c H locs ls A Qs hx hb ht ho hX h1 h0 k => lv_if_ne hx hb hd htg (fun _ => k) (fun hn => absurd hn (by first | exact h | exact fun e => e h))) k1
theorem g_if_ne_n {x : Int32} {off : Int} {tgt : Nat} (hd : decode y.2.1 pc = .ok (.ifCond .ne off, 3)) (htg : (pc : Int) + off = (tgt : Int)) (h : x = 0)
    (k1 : G l D dA ad sh y R X ini QF cells slots (pc + 3) L S μ ν) : G l D dA ad sh y R X ini QF cells slots pc L (.int x :: S) μ ν :=
  G.row (fun p e s m args below meth c H locs ls A Qs hx hb ht ho hX h1 h0 k => lv_if_ne hx hb hd htg (fun hn => absurd h (by first | exact hn | exact fun e => hn e)) (fun _ => k)) k1
theorem g_tabIn {dflt lo hi off : Int} {offs : Array Int} {len tgt : Nat} {x : Int32} (hd : decode y.2.1 pc = .ok (.tableswitch dflt lo hi offs, len)) (v : Int32) (hx : x = v) (h1 : ¬ v.toInt < lo) (h2 : ¬ hi < v.toInt) (ho : offs[(v.toInt - lo).toNat]? = some off) (htg : (pc : Int) + off = (tgt : Int))
    (kk : G l D dA ad sh y R X ini QF cells slots tgt L S μ ν) : G l D dA ad sh y R X ini QF cells slots pc L (.int x :: S) μ ν := by
  subst hx
  exact G.row (fun p e s m args below meth c H locs ls A Qs hx hb ht hown hX0 h9 h0 k9 => lv_tableIn hx hb hd h1 h2 ho htg k9) kk
theorem g_tabOut {dflt lo hi : Int} {offs : Array Int} {len tgt : Nat} {x : Int32} (hd : decode y.2.1 pc = .ok (.tableswitch dflt lo hi offs, len)) (h : x.toInt < lo ∨ hi < x.toInt) (htg : (pc : Int) + dflt = (tgt : Int))
    (kk : G l D dA ad sh y R X ini QF cells slots tgt L S μ ν) : G l D dA ad sh y R X ini QF cells slots pc L (.int x :: S) μ ν :=
  G.row (fun p e s m args below meth c H locs ls A Qs hx hb ht hown hX0 h9 h0 k9 => lv_tableOut hx hb hd h htg k9) kk
end GM
/-- the ends of module: with answer v (t = 0), or thrown -/
def mdQ (D : va_G) (dA : Nat → ClassId) (ad : Nat → Nat) (sh : List zSE) (μ : zI) (ν : zJ) (t v : Int32) (A : Nat → Prop) : Array Value → State → Outcome → State → Prop := va_Qi (fun (r : Int32) (_ : Unit) => t = 0 ∧ r = v) (fun _ T => va_P D CL (zwd dA ad sh μ ν) T.heap) A
def mdX (D : va_G) (dA : Nat → ClassId) (ad : Nat → Nat) (sh : List zSE) (μ : zI) (ν : zJ) (t : Int32) (A : Nat → Prop) : String → State → State → Prop := vx_X (fun (_ : Unit) => True) (fun E _ T => ((E = nIO ∧ t = 1) ∨ (E = nNS ∧ t = 2)) ∧ va_P D CL (zwd dA ad sh μ ν) T.heap) A
def mdF (D : va_G) (dA : Nat → ClassId) (ad : Nat → Nat) (sh : List zSE) (μ : zI) (ν : zJ) (t v : Int32) : zQF := fun A s args below => vx_MQ below (mdQ D dA ad sh μ ν t v A) (mdX D dA ad sh μ ν t A) args s 1 6 A
abbrev noTab : Method → Code → Prop := fun _ c => ∀ x ∈ c.exceptionTable.toList, False
section MD
variable {l : Launch} {D : va_G} {dA : Nat → ClassId} {ad : Nat → Nat} {sh : List zSE} {X : (Nat → Prop) → State → Prop} {cells slots : Nat} {pc : Nat} {L : List (Nat × Value)} {μ : zI} {ν : zJ} {t v : Int32}
theorem md_ret (hd : decode m_S_module.2.1 pc = .ok (.ireturn, 1)) (ht0 : t = 0) (hc : cells ≤ 1) (hs : slots ≤ 6) : G l D dA ad sh m_S_module (zR 6 1 6) X noTab (mdF D dA ad sh μ ν t v) cells slots pc L [.int v] μ ν := by
  intro p e s m args below meth c H locs ls A h0 hi h1
  obtain ⟨hx, hb, hm, hrt, ht, ho, hk, hA, hX⟩ := h0
  obtain ⟨hS, hP1, hK, hD, hll⟩ := h1
  rw [List.append_nil] at hP1 hD
  refine vx_ret ?_
  refine W.widen hc hs ?_
  exact W.zret hx hb hrt rfl (fun T hT hW => ⟨⟨v, (), rfl, ⟨ht0, rfl⟩, by show va_P D CL (zwd dA ad sh μ ν) T.heap; rw [hT]; exact hP1⟩, hS.F hT⟩) hS.2.2 hd hk
theorem md_thr {cls text : String} {ik is ic sa : Nat} (hl : l.stackTraces = false) (hX0 : ∀ A s, X A s → zX ad A s) (hcls : Bundle.fit cls = true) (hk9 : Cond.classLink "SunPoint" ik cls ∈ TB) (hini : Cond.initialized cls ∈ TB) (hstr : ∀ (A : Nat → Prop) (s : State), zS ad A s → vk_R "SunPoint" is text sa s) (hat : ∀ w ∈ vx_atS "SunPoint" ic cls nUp, (w = .castable cls cls ∨ ∃ x ∈ exL, w = .declares x) ∨ w ∈ TB) (hca : ∀ (A : Nat → Prop) (s : State), zX ad A s → va_Nw (.castable cls cls) s) (hgood : ((Cond.classLink "SunPoint" ik cls :: Cond.initialized cls :: vx_atS "SunPoint" ic cls nUp).all vx_ot) = true)
    (d0 : decode m_S_module.2.1 pc = .ok (.new ik, 3)) (d3 : decode m_S_module.2.1 (pc + 3) = .ok (.dup, 1)) (d4 : decode m_S_module.2.1 (pc + 4) = .ok (.ldc is, 2)) (d6 : decode m_S_module.2.1 (pc + 6) = .ok (.invokespecial ic, 3)) (d9 : decode m_S_module.2.1 (pc + 9) = .ok (.athrow, 1)) (hE : (cls = nIO ∧ t = 1) ∨ (cls = nNS ∧ t = 2)) (hc : cells + 1 ≤ 1) (hs : slots + 6 ≤ 6) : G l D dA ad sh m_S_module (zR 6 1 6) X noTab (mdF D dA ad sh μ ν t v) cells slots pc L [] μ ν := by
  intro p e s m args below meth c H locs ls A h0 hi h1
  obtain ⟨hx, hb, hm, hrt, ht, ho, hk, hA, hX⟩ := h0
  obtain ⟨hS, hP1, hK, hD, hll⟩ := h1
  rw [List.append_nil] at hP1 hD
  have hZ := hX0 A s hX
  refine vx_throwS (A := A) (names := nUp) hx hb hl ho hcls (by decide) (ht _ hk9) (ht _ hini) (hstr A s hZ.1) (fun w hw => ?_) (List.all_eq_true.mp hgood) hZ.2.1 hZ.2.2.1 hS (by rw [hm]; exact hll.1) d0 d3 d4 d6 d9 (fun x hx => (hi x hx).elim) (Nat.le_of_ble_eq_true rfl) (Nat.le_of_ble_eq_true rfl) hc hs hk (fun T hW hz hq => ?_) hS.2.2 hc hs
  · rcases hat w hw with (rfl | ⟨x, hx, rfl⟩) | h
    · exact (hca A s hZ).use rfl
    · exact (hZ.2.2.2.2.2.2 x hx).use rfl
    · exact ht w h
  · refine ⟨(), trivial, ⟨hE, hP1.kept (fun k x hx => hq x.1 (hP1 k x hx).lt)⟩, Nat.le_trans hS.1 hz, fun q h1 h2 => ?_⟩
    rw [hq q (Nat.lt_of_lt_of_le h1 hS.1)]
    exact hS.2.1 q h1 h2
theorem md_thrN {text : String} {ik is ic sa : Nat} (hl : l.stackTraces = false) (hX0 : ∀ A s, X A s → zX ad A s) (hk9 : Cond.classLink "SunPoint" ik nNS ∈ TB) (hini : Cond.initialized nNS ∈ TB) (hstr : ∀ (A : Nat → Prop) (s : State), zS ad A s → vk_R "SunPoint" is text sa s) (hat : ∀ w ∈ (nsAt "SunPoint" ic).filter vx_no, (w = .castable nNS nNS ∨ ∃ x ∈ exL, w = .declares x) ∨ w ∈ TB) (hca : ∀ (A : Nat → Prop) (s : State), zX ad A s → va_Nw (.castable nNS nNS) s) (hgood : ((Cond.classLink "SunPoint" ik nNS :: Cond.initialized nNS :: (nsAt "SunPoint" ic).filter vx_no).all vx_ot) = true)
    (d0 : decode m_S_module.2.1 pc = .ok (.new ik, 3)) (d3 : decode m_S_module.2.1 (pc + 3) = .ok (.dup, 1)) (d4 : decode m_S_module.2.1 (pc + 4) = .ok (.ldc is, 2)) (d6 : decode m_S_module.2.1 (pc + 6) = .ok (.invokespecial ic, 3)) (d9 : decode m_S_module.2.1 (pc + 9) = .ok (.athrow, 1)) (hE : (nNS = nIO ∧ t = 1) ∨ (nNS = nNS ∧ t = 2)) (hc : cells + 1 ≤ 1) (hs : slots + 6 ≤ 6) : G l D dA ad sh m_S_module (zR 6 1 6) X noTab (mdF D dA ad sh μ ν t v) cells slots pc L [] μ ν := by
  intro p e s m args below meth c H locs ls A h0 hi h1
  obtain ⟨hx, hb, hm, hrt, ht, ho, hk, hA, hX⟩ := h0
  obtain ⟨hS, hP1, hK, hD, hll⟩ := h1
  rw [List.append_nil] at hP1 hD
  have hZ := hX0 A s hX
  refine ns_throw (A := A) hx hb hl ho (ht _ hk9) (ht _ hini) (hstr A s hZ.1) (fun w hw => ?_) (List.all_eq_true.mp hgood) hZ.2.1 hZ.2.2.1 hS (by rw [hm]; exact hll.1) d0 d3 d4 d6 d9 (fun x hx => (hi x hx).elim) (Nat.le_of_ble_eq_true rfl) (Nat.le_of_ble_eq_true rfl) hc hs hk (fun T hW hz hq => ?_) hS.2.2 hc hs
  · rcases hat w hw with (rfl | ⟨x, hx, rfl⟩) | h
    · exact (hca A s hZ).use rfl
    · exact (hZ.2.2.2.2.2.2 x hx).use rfl
    · exact ht w h
  · refine ⟨(), trivial, ⟨hE, hP1.kept (fun k x hx => hq x.1 (hP1 k x hx).lt)⟩, Nat.le_trans hS.1 hz, fun q h1 h2 => ?_⟩
    rw [hq q (Nat.lt_of_lt_of_le h1 hS.1)]
    exact hS.2.1 q h1 h2
end MD
theorem w_in {w : Int32} (h0 : w ≠ 0) (h1 : w ≠ 1) (h2 : w ≠ 2) (h3 : w ≠ 3) : w.toInt < 0 ∨ 3 < w.toInt := by
  by_cases c : w.toInt < 0
  · exact Or.inl c
  · by_cases d : 3 < w.toInt
    · exact Or.inr d
    · exfalso
      have : w.toInt = 0 ∨ w.toInt = 1 ∨ w.toInt = 2 ∨ w.toInt = 3 := by omega
      rcases this with e | e | e | e
      · exact h0 (Int32.toInt_inj.mp e)
      · exact h1 (Int32.toInt_inj.mp e)
      · exact h2 (Int32.toInt_inj.mp e)
      · exact h3 (Int32.toInt_inj.mp e)
set_option maxRecDepth 20000 in
theorem mS_body {l : Launch} {D : va_G} {dA : Nat → ClassId} {ad : Nat → Nat} {sh : List zSE} {μ : zI} {ν : zJ} {i w t v : Int32} (hfl : l.stackTraces = false) (hr : zRo sh) (hmd : mdC i w μ ν t v) : G l D dA ad sh m_S_module (zR 6 1 6) (zX ad) noTab (mdF D dA ad sh μ ν t v) 0 0 0 [(2, .int w), (1, .int i), (0, .ref (ad 0))] [] μ ν := by
  refine g_aload_n d_S_module_0 2 rfl rfl ?_
  refine g_iload_n d_S_module_1 1 rfl rfl ?_
  have go : ∀ o, E_S_isModule i μ ν = some (o, μ, ν) → G l D dA ad sh m_S_module (zR 6 1 6) (zX ad) noTab (mdF D dA ad sh μ ν t v) 0 0 5 [(2, .int w), (1, .int i), (0, .ref (ad 0))] [.int o] μ ν → G l D dA ad sh m_S_module (zR 6 1 6) (zX ad) noTab (mdF D dA ad sh μ ν t v) 0 0 2 [(2, .int w), (1, .int i), (0, .ref (ad 0))] [.int i, .ref (ad 0)] μ ν := fun o ho kk =>
    g_callV d_S_module_2 (c_S_isModule hr ho) rfl mv_S_isModule l_S_97 (fun _ _ h => h.1) (hr 0 _ rfl) rfl rfl ⟨Nat.le_of_ble_eq_true rfl, Nat.le_of_ble_eq_true rfl⟩ ⟨Nat.le_of_ble_eq_true rfl, Nat.le_of_ble_eq_true rfl⟩ rfl (Nat.le_of_ble_eq_true rfl) (fun r μ' ν' hq => by
      obtain ⟨rfl, rfl, rfl⟩ := hq
      exact kk)
  rcases hmd with ⟨t1, im⟩ | ⟨t2, im, w0, w1, w2, w3⟩ | ⟨t0, im, hv⟩
  · refine go 0 im ?_
    refine g_if_ne_n (tgt := 18) d_S_module_5 rfl rfl ?_
    exact md_thr (text := "no such module") hfl (fun _ _ h => h) (by decide) (zt5 100 (by decide +kernel) rfl) (zt1 26 (by decide +kernel) rfl) (fun A s h => h.2.2.2.2.2.2.1.2.1) (at_of at_IO1 at_IO2) (fun A s h => h.2.2.2.1) gd_IO d_S_module_8 d_S_module_11 d_S_module_12 d_S_module_14 d_S_module_17 (Or.inl ⟨rfl, t1⟩) (Nat.le_refl _) (Nat.le_refl _)
  · refine go 1 im ?_
    refine g_if_ne_y (tgt := 18) d_S_module_5 rfl (by decide) ?_
    refine g_iload_n d_S_module_18 0 rfl rfl ?_
    refine g_tabOut (tgt := 96) d_S_module_19 (w_in w0 w1 w2 w3) rfl ?_
    exact md_thrN (text := "no such what") hfl (fun _ _ h => h) (zt5 178 (by decide +kernel) rfl) (zt1 27 (by decide +kernel) rfl) (fun A s h => h.2.2.2.2.2.2.1.2.2) (at_of at_NS1 at_NS2) (fun A s h => h.2.2.2.2.1) gd_NS d_S_module_96 d_S_module_99 d_S_module_100 d_S_module_102 d_S_module_105 (Or.inr ⟨rfl, t2⟩) (Nat.le_refl _) (Nat.le_refl _)
  · refine go 1 im ?_
    refine g_if_ne_y (tgt := 18) d_S_module_5 rfl (by decide) ?_
    refine g_iload_n d_S_module_18 0 rfl rfl ?_
    rcases hv with ⟨rfl, hv⟩ | ⟨rfl, hv⟩ | ⟨rfl, hv⟩ | ⟨rfl, hv⟩
    · refine g_tabIn (tgt := 48) d_S_module_19 0 rfl (by decide) (by decide) rfl rfl ?_
      refine g_aload_n d_S_module_48 2 rfl rfl ?_
      refine g_getr d_S_module_49 f_S_28 (hr 0 _ rfl) rfl rfl ?_
      refine g_getr d_S_module_52 f_S_100 ((zRo_4 hr) 0 _ rfl) rfl rfl ?_
      refine g_iload_n d_S_module_55 1 rfl rfl ?_
      refine g_callV (b := 4 + 3) d_S_module_56 (c_Panel_ampsOf (zRo_4 hr) hv) rfl mv_Panel_ampsOf l_S_164 (fun _ _ h => h.1) ((zRo_4 hr) 3 _ rfl) rfl rfl ⟨Nat.le_of_ble_eq_true rfl, Nat.le_of_ble_eq_true rfl⟩ ⟨Nat.le_of_ble_eq_true rfl, Nat.le_of_ble_eq_true rfl⟩ rfl (Nat.le_of_ble_eq_true rfl) (fun r μ' ν' hq => ?_)
      obtain ⟨rfl, rfl, rfl⟩ := hq
      exact md_ret d_S_module_59 t0 (Nat.le_of_ble_eq_true rfl) (Nat.le_of_ble_eq_true rfl)
    · refine g_tabIn (tgt := 60) d_S_module_19 1 rfl (by decide) (by decide) rfl rfl ?_
      refine g_aload_n d_S_module_60 2 rfl rfl ?_
      refine g_getr d_S_module_61 f_S_28 (hr 0 _ rfl) rfl rfl ?_
      refine g_getr d_S_module_64 f_S_100 ((zRo_4 hr) 0 _ rfl) rfl rfl ?_
      refine g_iload_n d_S_module_67 1 rfl rfl ?_
      refine g_callV (b := 4 + 3) d_S_module_68 (c_Panel_voltsOf (zRo_4 hr) hv) rfl mv_Panel_voltsOf l_S_167 (fun _ _ h => h.1) ((zRo_4 hr) 3 _ rfl) rfl rfl ⟨Nat.le_of_ble_eq_true rfl, Nat.le_of_ble_eq_true rfl⟩ ⟨Nat.le_of_ble_eq_true rfl, Nat.le_of_ble_eq_true rfl⟩ rfl (Nat.le_of_ble_eq_true rfl) (fun r μ' ν' hq => ?_)
      obtain ⟨rfl, rfl, rfl⟩ := hq
      exact md_ret d_S_module_71 t0 (Nat.le_of_ble_eq_true rfl) (Nat.le_of_ble_eq_true rfl)
    · refine g_tabIn (tgt := 72) d_S_module_19 2 rfl (by decide) (by decide) rfl rfl ?_
      refine g_aload_n d_S_module_72 2 rfl rfl ?_
      refine g_getr d_S_module_73 f_S_28 (hr 0 _ rfl) rfl rfl ?_
      refine g_getr d_S_module_76 f_S_100 ((zRo_4 hr) 0 _ rfl) rfl rfl ?_
      refine g_iload_n d_S_module_79 1 rfl rfl ?_
      refine g_callV (b := 4 + 3) d_S_module_80 (c_Panel_lightOf (zRo_4 hr) hv) rfl mv_Panel_lightOf l_S_104 (fun _ _ h => h.1) ((zRo_4 hr) 3 _ rfl) rfl rfl ⟨Nat.le_of_ble_eq_true rfl, Nat.le_of_ble_eq_true rfl⟩ ⟨Nat.le_of_ble_eq_true rfl, Nat.le_of_ble_eq_true rfl⟩ rfl (Nat.le_of_ble_eq_true rfl) (fun r μ' ν' hq => ?_)
      obtain ⟨rfl, rfl, rfl⟩ := hq
      exact md_ret d_S_module_83 t0 (Nat.le_of_ble_eq_true rfl) (Nat.le_of_ble_eq_true rfl)
    · refine g_tabIn (tgt := 84) d_S_module_19 3 rfl (by decide) (by decide) rfl rfl ?_
      refine g_aload_n d_S_module_84 2 rfl rfl ?_
      refine g_getr d_S_module_85 f_S_28 (hr 0 _ rfl) rfl rfl ?_
      refine g_getr d_S_module_88 f_S_100 ((zRo_4 hr) 0 _ rfl) rfl rfl ?_
      refine g_iload_n d_S_module_91 1 rfl rfl ?_
      refine g_callV (b := 4 + 3) d_S_module_92 (c_Panel_litOf (zRo_4 hr) hv) rfl mv_Panel_litOf l_S_170 (fun _ _ h => h.1) ((zRo_4 hr) 3 _ rfl) rfl rfl ⟨Nat.le_of_ble_eq_true rfl, Nat.le_of_ble_eq_true rfl⟩ ⟨Nat.le_of_ble_eq_true rfl, Nat.le_of_ble_eq_true rfl⟩ rfl (Nat.le_of_ble_eq_true rfl) (fun r μ' ν' hq => ?_)
      obtain ⟨rfl, rfl, rfl⟩ := hq
      exact md_ret d_S_module_95 t0 (Nat.le_of_ble_eq_true rfl) (Nat.le_of_ble_eq_true rfl)
theorem mS_met {l : Launch} {D : va_G} {dA : Nat → ClassId} {ad : Nat → Nat} {sh : List zSE} {μ : zI} {ν : zJ} {i w t v : Int32} (hfl : l.stackTraces = false) (hr : zRo sh) (hmd : mdC i w μ ν t v) (sz : Nat) : vx_Met l m_S_module.1 (zws m_S_module) (zR 6 1 6) (va_Pc [.ref (ad 0), .int i, .int w] (zPreX D dA ad sh μ ν sz)) (mdQ D dA ad sh μ ν t v (zA ad sh.length sz)) (mdX D dA ad sh μ ν t (zA ad sh.length sz)) 1 6 (zA ad sh.length sz) := by
  refine vx_ofW (cc := m_S_module.2.1) (maxL := m_S_module.2.2.1) (ret := m_S_module.2.2.2) (by decide) rfl ?_
  intro p e s m args below meth c s₁ B hml htab hv
  obtain ⟨rfl, hsz, hP, hK, hD, hX⟩ := hv
  subst hsz
  have hts := atoms_spec (ws := zws m_S_module) B.pre
  have hl := lv_entry [.ref (ad 0), .int i, .int w] (n := m_S_module.2.2.1) (Nat.le_of_ble_eq_true rfl)
  rw [lg_entry_eq]
  refine mS_body hfl hr hmd p e s m _ below meth c s.heap [] _ (zA ad sh.length s.heap.size) ⟨B.exec, B.bytes, hml, B.returns, fun w hw => hts w (List.mem_cons_of_mem _ hw), findClass_of_methodNamed B.named, B.notSynchronized, fun q hq => Or.inr hq, hX⟩ htab ⟨va_S.rf, ?_, hK, ?_, lv_sub hl [2, 1, 0] rfl⟩
  · rw [List.append_nil]; exact hP
  · rw [List.append_nil]; exact zwd_self hD _
