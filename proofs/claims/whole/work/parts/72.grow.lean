/-! A world that grows: constructors, the law. -/
theorem zS.congr {ad ad' : Nat → Nat} {A : Nat → Prop} {U : State} (h : zS ad A U) (e : ∀ k, 1000000 ≤ k → ad' k = ad k) : zS ad' A U := by
  have e1 : (fun i => ad' (1000100 + i)) = fun i => ad (1000100 + i) := funext fun i => e _ (Nat.le_add_right_of_le (by decide))
  have e2 : (fun i => ad' (1000200 + i)) = fun i => ad (1000200 + i) := funext fun i => e _ (Nat.le_add_right_of_le (by decide))
  have e3 : (fun i => ad' (1000300 + i)) = fun i => ad (1000300 + i) := funext fun i => e _ (Nat.le_add_right_of_le (by decide))
  have e4 : (fun i => Value.ref (ad' (1000200 + i))) = fun i => Value.ref (ad (1000200 + i)) := funext fun i => by rw [e _ (Nat.le_add_right_of_le (by decide))]
  have e5 : (fun j => Value.ref (ad' (1000100 + j))) = fun j => Value.ref (ad (1000100 + j)) := funext fun i => by rw [e _ (Nat.le_add_right_of_le (by decide))]
  have e0 : ∀ k, ad' (1000000 + k) = ad (1000000 + k) := fun k => e _ (Nat.le_add_right _ _)
  unfold zS at h ⊢
  rw [e1, e2, e3, e4, e5, e 1000010 (by decide), e 1000211 (by decide), e 1000212 (by decide), e 1000213 (by decide)]
  simp only [e0]
  exact h
/-- no field of the shape refers beyond it -/
def zCl (sh : List zSE) : Prop := ∀ (r ci : Nat) (fks : List Nat), sh[r]? = some (.inl (ci, fks)) → ∀ fk ∈ fks, fk < sh.length + 2
theorem zCl.app {sh : List zSE} (h : zCl sh) {e : zSE} (he : ∀ ci fks, e = .inl (ci, fks) → ∀ fk ∈ fks, fk < sh.length + 3) : zCl (sh ++ [e]) := by
  intro r ci fks hr fk hf
  rw [List.length_append, List.length_singleton]
  by_cases c : r < sh.length
  · rw [List.getElem?_append_left c] at hr
    have := h r ci fks hr fk hf
    omega
  · rw [List.getElem?_append_right (by omega)] at hr
    have c1 : r - sh.length = 0 := by
      have := (List.getElem?_eq_some_iff.mp hr).1
      rw [List.length_singleton] at this
      omega
    rw [c1] at hr
    have := he ci fks (Option.some.inj hr) fk hf
    omega
theorem zCl.set {sh : List zSE} (h : zCl sh) {r0 ci0 : Nat} {fks0 : List Nat} (h0 : ∀ fk ∈ fks0, fk < sh.length + 2) : zCl (sh.set r0 (.inl (ci0, fks0))) := by
  intro r ci fks hr fk hf
  rw [List.length_set]
  by_cases c : r0 = r
  · subst c
    have hl : r0 < sh.length := by
      have := (List.getElem?_eq_some_iff.mp hr).1
      rwa [List.length_set] at this
    rw [List.getElem?_set_self hl] at hr
    cases hr
    exact h0 fk hf
  · rw [List.getElem?_set_ne c] at hr
    exact h r ci fks hr fk hf
theorem zf_congr {ad ad' : Nat → Nat} {x : Int32} {fk n : Nat} (hf : fk < n + 2) (e : ∀ r, r < n → ad' r = ad r) : zf ad' x fk = zf ad x fk := by
  match fk, hf with
  | 0, _ => rfl
  | 1, _ => rfl
  | q + 2, hf => show Value.ref _ = Value.ref _; rw [e q (by omega)]
theorem zwd_congr {dA : Nat → ClassId} {ad ad' : Nat → Nat} {sh : List zSE} {μ μ' : zI} {ν ν' : zJ} (hc : zCl sh) (ea : ∀ r, r < sh.length → ad' r = ad r) (eμ : ∀ r, r < sh.length → μ' r = μ r) (eν : ∀ r, r < sh.length → ν' r = ν r) : zwd dA ad' sh μ' ν' = zwd dA ad sh μ ν := by
  apply List.ext_getElem?
  intro i
  rw [zwd, zwd, List.getElem?_mapIdx, List.getElem?_mapIdx]
  cases he : sh[i]? with
  | none => rfl
  | some e =>
    have hi : i < sh.length := (List.getElem?_eq_some_iff.mp he).1
    show some _ = some _
    rw [ea i hi, eμ i hi, eν i hi]
    cases e with
    | inr a => rfl
    | inl a =>
      obtain ⟨ci, fks⟩ := a
      have : (fks.mapIdx fun k fk => zf ad' (μ i k) fk) = fks.mapIdx fun k fk => zf ad (μ i k) fk := by
        apply List.ext_getElem?
        intro k
        rw [List.getElem?_mapIdx, List.getElem?_mapIdx]
        cases hk : fks[k]? with
        | none => rfl
        | some fk =>
          exact congrArg some (zf_congr (hc i ci fks he fk (List.mem_of_getElem? hk)) ea)
      show some (ad i, zE dA ad' (μ i) (ν i) (.inl (ci, fks))) = some (ad i, zE dA ad (μ i) (ν i) (.inl (ci, fks)))
      rw [zE_field, zE_field, this]
theorem zwd_app {dA : Nat → ClassId} {ad : Nat → Nat} {sh : List zSE} {μ : zI} {ν : zJ} {e : zSE} : zwd dA ad (sh ++ [e]) μ ν = zwd dA ad sh μ ν ++ [(ad sh.length, zE dA ad (μ sh.length) (ν sh.length) e)] := by
  rw [zwd, zwd, List.mapIdx_append]
  congr 1
  show [(ad (0 + sh.length), zE dA ad (μ (0 + sh.length)) (ν (0 + sh.length)) e)] = _
  rw [Nat.zero_add]
/-- a reference is put -/
theorem zwd_putr {dA : Nat → ClassId} {ad : Nat → Nat} {sh : List zSE} {μ : zI} {ν : zJ} {r ci k q : Nat} {fks : List Nat} (h : sh[r]? = some (.inl (ci, fks))) : (zwd dA ad sh μ ν).set r (ad r, .inr (ci, (fks.mapIdx fun k fk => zf ad (μ r k) fk).set k (.ref (ad q)))) = zwd dA ad (sh.set r (.inl (ci, fks.set k (q + 2)))) μ ν := by
  have hl : r < sh.length := (List.getElem?_eq_some_iff.mp h).1
  apply List.ext_getElem?
  intro i
  by_cases hi : r = i
  · subst hi
    rw [List.getElem?_set_self (by rw [zwd, List.length_mapIdx]; exact hl), zwd, List.getElem?_mapIdx, List.getElem?_set_self hl]
    show some _ = some (ad r, zE dA ad (μ r) (ν r) (.inl (ci, fks.set k (q + 2))))
    rw [zE_field]
    refine congrArg (fun z => some (ad r, (Sum.inr (ci, z) : va_E))) ?_
    apply List.ext_getElem?
    intro j
    rw [List.getElem?_mapIdx]
    by_cases hj : k = j
    · subst hj
      by_cases hk : k < fks.length
      · rw [List.getElem?_set_self (by rw [List.length_mapIdx]; exact hk), List.getElem?_set_self hk]
        rfl
      · rw [List.getElem?_eq_none (by rw [List.length_set, List.length_mapIdx]; omega), List.getElem?_eq_none (by rw [List.length_set]; omega)]
        rfl
    · rw [List.getElem?_set_ne hj, List.getElem?_set_ne hj, List.getElem?_mapIdx]
  · rw [List.getElem?_set_ne hi, zwd, zwd, List.getElem?_mapIdx, List.getElem?_mapIdx, List.getElem?_set_ne hi]
abbrev zQF : Type := (Nat → Prop) → State → Array Value → List Frame → State → Prop
def G (l : Launch) (D : va_G) (dA : Nat → ClassId) (ad : Nat → Nat) (sh : List zSE) (y : zM) (R : Room) (X : (Nat → Prop) → State → Prop) (ini : Method → Code → Prop) (QF : zQF) (cells slots pc : Nat) (L : List (Nat × Value)) (S : List Value) (μ : zI) (ν : zJ) : Prop :=
  ∀ (p : Program) (e : Env) (s : State) (m : MethodId) (args : Array Value) (below : List Frame) (meth : Method) (c : Code) (H : Heap) (locs : List Loc) (ls : Array Slot) (A : Nat → Prop),
    zC0 y X p s m args meth c A → ini meth c → zC1 D dA ad sh y s A L μ ν [] H locs ls →
      W p l e R s m args below meth c H locs cells slots (QF A s args below) (F0 m pc ls S)
section GR
variable {l : Launch} {D : va_G} {dA : Nat → ClassId} {ad : Nat → Nat} {sh : List zSE} {y : zM} {R : Room} {X : (Nat → Prop) → State → Prop} {ini : Method → Code → Prop} {QF : zQF} {cells slots : Nat} {pc : Nat} {L : List (Nat × Value)} {S : List Value} {μ : zI} {ν : zJ}
theorem G.row {pc' : Nat} {S' : List Value} (h : ∀ (p : Program) (e : Env) (s : State) (m : MethodId) (args : Array Value) (below : List Frame) (meth : Method) (c : Code) (H : Heap) (locs : List Loc) (ls : Array Slot) (A : Nat → Prop) (Qs : State → Prop), p.tables.exec = Jvm.exec → c.code = y.2.1 → (∀ w ∈ TB, w.before args s = true) → s.vm.findClass y.1.cls = some m.cls → X A s → zC1 D dA ad sh y s A L μ ν [] H locs ls → zC0 y X p s m args meth c A → W p l e R s m args below meth c H locs cells slots Qs (F0 m pc' ls S') → W p l e R s m args below meth c H locs cells slots Qs (F0 m pc ls S))
    (kk : G l D dA ad sh y R X ini QF cells slots pc' L S' μ ν) : G l D dA ad sh y R X ini QF cells slots pc L S μ ν := by
  intro p e s m args below meth c H locs ls A h0 hi h1
  exact h p e s m args below meth c H locs ls A _ h0.1 h0.2.1 h0.2.2.2.2.1 h0.2.2.2.2.2.1 h0.2.2.2.2.2.2.2.2 h1 h0 (kk p e s m args below meth c H locs ls A h0 hi h1)
theorem g_iconst {n : Int} {v : Int32} (hd : decode y.2.1 pc = .ok (.iconst n, 1)) (hv : Int32.ofInt n = v)
    (kk : G l D dA ad sh y R X ini QF cells slots (pc + 1) L (.int v :: S) μ ν) : G l D dA ad sh y R X ini QF cells slots pc L S μ ν :=
  G.row (fun p e s m args below meth c H locs ls A Qs hx hb ht ho hX h1 h0 k => lv_iconst hx hb hd hv k) kk
theorem g_bipush {n : Int} {v : Int32} (hd : decode y.2.1 pc = .ok (.bipush n, 2)) (hv : (Int8.ofInt n).toInt32 = v)
    (kk : G l D dA ad sh y R X ini QF cells slots (pc + 2) L (.int v :: S) μ ν) : G l D dA ad sh y R X ini QF cells slots pc L S μ ν :=
  G.row (fun p e s m args below meth c H locs ls A Qs hx hb ht ho hX h1 h0 k => lv_bipush hx hb hd hv k) kk
theorem g_sipush {n : Int} {v : Int32} (hd : decode y.2.1 pc = .ok (.sipush n, 3)) (hv : (Int16.ofInt n).toInt32 = v)
    (kk : G l D dA ad sh y R X ini QF cells slots (pc + 3) L (.int v :: S) μ ν) : G l D dA ad sh y R X ini QF cells slots pc L S μ ν :=
  G.row (fun p e s m args below meth c H locs ls A Qs hx hb ht ho hX h1 h0 k => lv_sipush hx hb hd hv k) kk
theorem g_aload_n {k : Fin 4} {i : Nat} {x : Nat} (hd : decode y.2.1 pc = .ok (.aload_n k, 1)) (j : Nat) (hl : L[j]? = some (i, .ref x)) (hi : (k : Nat) = i)
    (kk : G l D dA ad sh y R X ini QF cells slots (pc + 1) L (.ref x :: S) μ ν) : G l D dA ad sh y R X ini QF cells slots pc L S μ ν :=
  G.row (fun p e s m args below meth c H locs ls A Qs hx hb ht ho hX h1 h0 k => lv_aload_n hx hb hd hi (lv_at h1.2.2.2.2 j hl) k) kk
theorem g_dup {v : Value} (hd : decode y.2.1 pc = .ok (.dup, 1)) (hv : v.category = 1)
    (kk : G l D dA ad sh y R X ini QF cells slots (pc + 1) L (v :: v :: S) μ ν) : G l D dA ad sh y R X ini QF cells slots pc L (v :: S) μ ν :=
  G.row (fun p e s m args below meth c H locs ls A Qs hx hb ht ho hX h1 h0 k => lv_dup hx hb hd hv k) kk
theorem obj_i : Cond.instanceMethod Lib.objectInit ∈ TB := zt1 34 (by decide +kernel) rfl
theorem obj_c : Cond.code Lib.objectInit ⟨#[0xb1]⟩ 1 none ∈ TB := zt1 35 (by decide +kernel) rfl
theorem g_objInit {idx a : Nat} (hd : decode y.2.1 pc = .ok (.invokespecial idx, 3)) (hlk : Cond.methodLink y.1.cls idx Lib.objectInit ∈ TB) (hR : 1 ≤ R.frames ∧ (S.map fun v => v.category).sum + 12 ≤ R.locals)
    (kk : G l D dA ad sh y R X ini QF cells slots (pc + 3) L S μ ν) : G l D dA ad sh y R X ini QF cells slots pc L (.ref a :: S) μ ν :=
  G.row (fun p e s m args below meth c H locs ls A Qs hx hb ht ho hX h1 h0 k => W.objInit hx hb ho (ht _ hlk) (ht _ obj_i) (ht _ obj_c) rfl (by rw [h0.2.2.1]; exact h1.2.2.2.2.1) rfl hd hR.1 (by show 2 * 0 + _ + 12 ≤ _; omega) k) kk
/-- what a class needs to be made: its words, its fresh fields (0 an int, 1 null) -/
def zNw (ci : Nat) (fks : List Nat) : Prop := ∃ (C : String) (T : u_T) (N : Nat) (ty : Nat → FieldType), CL[ci]? = some (C, T, N) ∧ (∀ w ∈ u_ws C T N, w ∈ TB) ∧ (∀ k, k < N → parseFieldDescriptor (T k).2.2.1 = some (ty k)) ∧ Cond.instantiable C N ∈ TB ∧ Cond.initialized C ∈ TB ∧ fks.length = N ∧ (∀ j, j < N → defaultValue (ty j) = vp_V (fks.mapIdx fun k fk => zf (fun _ => 0) 0 fk) j) ∧ ∀ fk ∈ fks, fk < 2
theorem g_new {idx ci N : Nat} {C : String} {T : u_T} {fks : List Nat} (hd : decode y.2.1 pc = .ok (.new idx, 3)) (hw : zNw ci fks) (hc0 : CL[ci]? = some (C, T, N)) (hlk : Cond.classLink y.1.cls idx C ∈ TB) (hcl : zCl sh) (hR : cells + 1 ≤ R.cells ∧ slots + N ≤ R.slots)
    (kk : ∀ (q : Nat) (ad' : Nat → Nat) (μ' : zI) (ν' : zJ), (∀ r, r ≠ sh.length → ad' r = ad r) → ad' sh.length = q → (∀ r, r ≠ sh.length → μ' r = μ r) → (∀ k, μ' sh.length k = 0) → (∀ r, r ≠ sh.length → ν' r = ν r) → (∀ k, ν' sh.length k = 0) → zCl (sh ++ [.inl (ci, fks)]) →
      G l D dA ad' (sh ++ [.inl (ci, fks)]) y R X ini QF (cells + 1) (slots + N) (pc + 3) L (.ref q :: S) μ' ν') : G l D dA ad sh y R X ini QF cells slots pc L S μ ν := by
  obtain ⟨C', T', N', ty, hc, hin, hty, hinst, hini, hlen, hfs, h2⟩ := hw
  cases hc0.symm.trans hc
  intro p e s m args below meth c H locs ls A h0 hi h1
  obtain ⟨hx, hb, hm, hr, ht, ho, hk, hA, hX⟩ := id h0
  obtain ⟨hS, hP, hK, hD, hll⟩ := h1
  rw [List.append_nil] at hP hD
  refine va_new hx hb ht hin ty hty ho (ht _ hlk) (ht _ hinst) (ht _ hini) hK hP hD hS hA hc hfs hR.1 hR.2 hd (fun q H1 hP1 hD1 hS1 => ?_)
  have hz : zCl (sh ++ [.inl (ci, fks)]) := hcl.app (fun ci' fks' he fk hf => by cases he; have := h2 fk hf; omega)
  have e1 : ∀ r, r < sh.length → (fun r => if r = sh.length then q else ad r) r = ad r := fun r hr => if_neg (by omega)
  have e2 : ∀ r, r < sh.length → (fun r => if r = sh.length then (fun _ => 0) else μ r : zI) r = μ r := fun r hr => if_neg (by omega)
  have e3 : ∀ r, r < sh.length → (fun r => if r = sh.length then (fun _ => 0) else ν r : zJ) r = ν r := fun r hr => if_neg (by omega)
  have eW : zwd dA ad sh μ ν ++ [(q, .inr (ci, fks.mapIdx fun k fk => zf (fun _ => 0) 0 fk))] = zwd dA (fun r => if r = sh.length then q else ad r) (sh ++ [.inl (ci, fks)]) (fun r => if r = sh.length then (fun _ => 0) else μ r) (fun r => if r = sh.length then (fun _ => 0) else ν r) := by
    rw [zwd_app, zwd_congr hcl e1 e2 e3, if_pos rfl, if_pos rfl, zE_field]
    congr 5
    apply List.ext_getElem?
    intro k
    rw [List.getElem?_mapIdx, List.getElem?_mapIdx]
    cases hk9 : fks[k]? with
    | none => rfl
    | some fk =>
      show some _ = some _
      have := h2 fk (List.mem_of_getElem? hk9)
      have h01 : fk = 0 ∨ fk = 1 := by omega
      rcases h01 with rfl | rfl <;> rfl
  rw [eW] at hP1 hD1
  exact kk q _ _ _ (fun r h => if_neg h) (if_pos rfl) (fun r h => if_neg h) (fun k => congrFun (if_pos rfl) k) (fun r h => if_neg h) (fun k => congrFun (if_pos rfl) k) hz p e s m args below meth c H1 locs ls A h0 hi ⟨hS1, by rw [List.append_nil]; exact hP1, hK, by rw [List.append_nil]; exact hD1, hll⟩
/-- an array's kind: its place among the types, its newarray code -/
def zAt (atype : ArrayType) (t : Nat) (ty : FieldType) : Prop := newarray.typeOf atype = ty ∧ Cond.arrayClass ty ∈ TB ∧ (∀ dA : Nat → ClassId, (zty dA)[t]? = some (dA t, ty)) ∧ (∀ (s : State) (c1 c2 : ClassId), va_RA s c1 ty → va_RA s c2 ty → c1 = c2) ∧ ∀ (cA : ClassId) (N : Nat), vp_cell cA (N, if t = 1 then .inr (.inl fun _ => 0) else .inl fun _ => 0) = arrV cA N (fun _ => defaultValue ty)
theorem at_int : zAt .int 0 .int := ⟨rfl, zt1 102 (by decide +kernel) rfl, fun _ => rfl, fun _ _ _ h1 h2 => Option.some.inj (h1.symm.trans h2), fun _ _ => rfl⟩
theorem at_long : zAt .long 1 .long := ⟨rfl, zt2 170 (by decide +kernel) rfl, fun _ => rfl, fun _ _ _ h1 h2 => Option.some.inj (h1.symm.trans h2), fun _ _ => rfl⟩
theorem at_byte : zAt .byte 2 .byte := ⟨rfl, zt1 52 (by decide +kernel) rfl, fun _ => rfl, fun _ _ _ h1 h2 => Option.some.inj (h1.symm.trans h2), fun _ _ => rfl⟩
theorem at_bool : zAt .boolean 3 .boolean := ⟨rfl, zt6 79 (by decide +kernel) rfl, fun _ => rfl, fun _ _ _ h1 h2 => Option.some.inj (h1.symm.trans h2), fun _ _ => rfl⟩
theorem g_newa {atype : ArrayType} {t N : Nat} {ty : FieldType} {v : Int32} (hd : decode y.2.1 pc = .ok (.newarray atype, 2)) (ha : zAt atype t ty) (hn : ¬ v < 0) (hv : v.toNatClampNeg = N) (hby : N * componentBytes ty ≤ 536870912) (hcl : zCl sh) (hR : cells + 1 ≤ R.cells ∧ slots + N ≤ R.slots)
    (kk : ∀ (q : Nat) (ad' : Nat → Nat) (μ' : zI) (ν' : zJ), (∀ r, r ≠ sh.length → ad' r = ad r) → ad' sh.length = q → (∀ r, r ≠ sh.length → μ' r = μ r) → (∀ k, μ' sh.length k = 0) → (∀ r, r ≠ sh.length → ν' r = ν r) → (∀ k, ν' sh.length k = 0) → zCl (sh ++ [.inr (t, N)]) →
      G l D dA ad' (sh ++ [.inr (t, N)]) y R X ini QF (cells + 1) (slots + N) (pc + 2) L (.ref q :: S) μ' ν') : G l D dA ad sh y R X ini QF cells slots pc L (.int v :: S) μ ν := by
  obtain ⟨hat, hac, hty, hra, hce⟩ := ha
  intro p e s m args below meth c H locs ls A h0 hi h1
  obtain ⟨hx, hb, hm, hr, ht, ho, hk, hA, hX⟩ := id h0
  obtain ⟨hS, hP, hK, hD, hll⟩ := h1
  rw [List.append_nil] at hP hD
  refine va_newa (atype := atype) (a0 := (N, if t = 1 then .inr (.inl fun _ => 0) else .inl fun _ => 0)) hx hb (by rw [hat]; exact ht _ hac) hat hK hP hD hS hA (fun cA => hce cA N) hn hv hby hR.1 hR.2 hd (fun q cA H1 hK1 hP1 hD1 hS1 => ?_)
  have a3 : cA = dA t := hra s cA (dA t) (hK1.2 4 (cA, ty) rfl).2 (hK.2 t (dA t, ty) (hty dA)).2
  subst a3
  have hz : zCl (sh ++ [.inr (t, N)]) := hcl.app (fun ci' fks' he fk hf => by cases he)
  have e1 : ∀ r, r < sh.length → (fun r => if r = sh.length then q else ad r) r = ad r := fun r hr => if_neg (by omega)
  have e2 : ∀ r, r < sh.length → (fun r => if r = sh.length then (fun _ => 0) else μ r : zI) r = μ r := fun r hr => if_neg (by omega)
  have e3 : ∀ r, r < sh.length → (fun r => if r = sh.length then (fun _ => 0) else ν r : zJ) r = ν r := fun r hr => if_neg (by omega)
  have eW : zwd dA ad sh μ ν ++ [(q, .inl (dA t, N, if t = 1 then .inr (.inl fun _ => 0) else .inl fun _ => 0))] = zwd dA (fun r => if r = sh.length then q else ad r) (sh ++ [.inr (t, N)]) (fun r => if r = sh.length then (fun _ => 0) else μ r) (fun r => if r = sh.length then (fun _ => 0) else ν r) := by
    rw [zwd_app, zwd_congr hcl e1 e2 e3, if_pos rfl, if_pos rfl, if_pos rfl]
    rfl
  rw [eW] at hP1 hD1
  exact kk q _ _ _ (fun r h => if_neg h) (if_pos rfl) (fun r h => if_neg h) (fun k => congrFun (if_pos rfl) k) (fun r h => if_neg h) (fun k => congrFun (if_pos rfl) k) hz p e s m args below meth c H1 locs ls A h0 hi ⟨hS1, by rw [List.append_nil]; exact hP1, hK, by rw [List.append_nil]; exact hD1, hll⟩
/-- a final reference field is put -/
theorem g_putF {idx ci k r q a b : Nat} {ty : FieldType} {fks : List Nat} (hd : decode y.2.1 pc = .ok (.putfield idx, 3)) (hf : zFld y.1.cls idx ci k ty) (hs : sh[r]? = some (.inl (ci, fks))) (hk : k < fks.length) (ha : ad r = a) (hb' : ad q = b) (hq : q < sh.length) (hfin : ∀ C T N, CL[ci]? = some (C, T, N) → (T k).2.2.2 = true ∧ (T k).1 = y.1.cls) (hini : ∀ me co, ini me co → me.name = "<init>") (hn : narrow ty (.ref b) = .ref b) (hft : fits ty (.ref b) = true) (hcl : zCl sh)
    (kk : zCl (sh.set r (.inl (ci, fks.set k (q + 2)))) → G l D dA ad (sh.set r (.inl (ci, fks.set k (q + 2)))) y R X ini QF cells slots (pc + 3) L S μ ν) : G l D dA ad sh y R X ini QF cells slots pc L (.ref b :: .ref a :: S) μ ν := by
  obtain ⟨C, T, N, hc, hkN, ⟨hin, ⟨ty0, hty⟩, hnm⟩, hl, hp⟩ := hf
  intro p e s m args below meth c H locs ls A h0 hi h1
  obtain ⟨hx, hb, -, -, ht, ho, -⟩ := id h0
  obtain ⟨hS, hP, hK, hD, hll⟩ := h1
  rw [List.append_nil] at hP hD
  subst ha
  subst hb'
  have hz := zwd_at (dA := dA) (ad := ad) (μ := μ) (ν := ν) (xw := []) hs
  rw [List.append_nil] at hz
  refine va_putF hx hb ht hin ty0 hty hnm ho hK hP hD hS r hz hc k hkN (ht _ hl) (fun x h => h) (hfin C T N hc).1 (hini _ _ hi) (hfin C T N hc).2 hp hn hft (by rw [List.length_mapIdx]; exact hk) hd (fun H1 locs1 hP1 hD1 hS1 => ?_)
  rw [zwd_putr hs] at hP1 hD1
  have hz : zCl (sh.set r (.inl (ci, fks.set k (q + 2)))) := hcl.set (fun fk hm => by
    rcases List.mem_or_eq_of_mem_set hm with h | h
    · exact hcl r ci fks hs fk h
    · omega)
  exact kk hz p e s m args below meth c H1 locs1 ls A h0 hi ⟨hS1, by rw [List.append_nil]; exact hP1, hK, by rw [List.append_nil]; exact hD1, hll⟩
theorem g_put {idx ci k r a : Nat} {ty : FieldType} {fks : List Nat} {v : Int32} (hd : decode y.2.1 pc = .ok (.putfield idx, 3)) (hf : zFld y.1.cls idx ci k ty) (hs : sh[r]? = some (.inl (ci, fks))) (hk : fks[k]? = some 0) (ha : ad r = a) (hfin : ∀ C T N, CL[ci]? = some (C, T, N) → (T k).2.2.2 = false) (hn : narrow ty (.int v) = .int v) (hft : fits ty (.int v) = true)
    (kk : G l D dA ad sh y R X ini QF cells slots (pc + 3) L S (zu μ r k v) ν) : G l D dA ad sh y R X ini QF cells slots pc L (.int v :: .ref a :: S) μ ν := by
  obtain ⟨C, T, N, hc, hkN, ⟨hin, ⟨ty0, hty⟩, hnm⟩, hl, hp⟩ := hf
  intro p e s m args below meth c H locs ls A h0 hi h1
  obtain ⟨hx, hb, -, -, ht, ho, -⟩ := id h0
  obtain ⟨hS, hP, hK, hD, hll⟩ := h1
  subst ha
  refine va_put hx hb ht hin ty0 hty hnm ho hK hP hD hS r (zwd_at hs) hc k hkN (ht _ hl) (fun x h => h) (hfin C T N hc) hp hn hft (by rw [List.length_mapIdx]; exact (List.getElem?_eq_some_iff.mp hk).1) hd (fun H1 locs1 hP1 hD1 hS1 => ?_)
  rw [zwd_set (μ' := zu μ r k v) (ν' := ν) hs (by rw [zu_row]; exact zE_put hk) (fun q hq => zu_off μ r k v hq) (fun _ _ => rfl)] at hP1 hD1
  exact kk p e s m args below meth c H1 locs1 ls A h0 hi ⟨hS1, hP1, hK, hD1, hll⟩
theorem g_getr {idx ci k r q a : Nat} {ty : FieldType} {fks : List Nat} (hd : decode y.2.1 pc = .ok (.getfield idx, 3)) (hf : zFld y.1.cls idx ci k ty) (hs : sh[r]? = some (.inl (ci, fks))) (hk : fks[k]? = some (q + 2)) (ha : ad r = a)
    (kk : G l D dA ad sh y R X ini QF cells slots (pc + 3) L (.ref (ad q) :: S) μ ν) : G l D dA ad sh y R X ini QF cells slots pc L (.ref a :: S) μ ν := by
  obtain ⟨C, T, N, hc, hkN, ⟨hin, -, -⟩, hl, -⟩ := hf
  subst ha
  exact G.row (fun p e s m args below meth c H locs ls A Qs hx hb ht ho hX h1 h0 k9 => va_get hx hb ht hin ho h1.2.2.1 h1.2.1 r (zwd_at hs) hc k hkN (ht _ hl) (fun x h => h) (zF_at hk) hd k9) kk
/-! ## calls -/
abbrev zPK : Type := (Nat → Nat) → List zSE → zI → zJ → Prop
def zQK (D : va_G) (dA : Nat → ClassId) (P : zPK) (A : Nat → Prop) : Array Value → State → Outcome → State → Prop := fun _ st o t =>
  (∃ (ad' : Nat → Nat) (sh' : List zSE) (μ' : zI) (ν' : zJ), o = .returned none ∧ P ad' sh' μ' ν' ∧ va_P D CL (zwd dA ad' sh' μ' ν') t.heap ∧ va_K D CL (zty dA) t ∧ va_D A (zwd dA ad' sh' μ' ν')) ∧ va_F A st t
/-- a constructor's contract -/
def zK (l : Launch) (D : va_G) (dA : Nat → ClassId) (ad : Nat → Nat) (sh : List zSE) (y : zM) (d mc ms : Nat) (av : List Value) (μ : zI) (ν : zJ) (P : zPK) : Prop :=
  ∀ sz : Nat, Met l y.1 (zws y) (zR d mc ms) (va_Pc av (zPre D dA ad sh μ ν sz)) (zQK D dA P (zA ad sh.length sz)) mc ms (zA ad sh.length sz)
def zKF (D : va_G) (dA : Nat → ClassId) (P : zPK) (mc ms : Nat) : zQF := fun A s args below => MQ below (zQK D dA P A) args s mc ms A
theorem zK.of {d mc ms : Nat} {av : List Value} {P : zPK} (hy : plainName y.1.cls = true) (hnm : y.1.name = "<init>") (hlen : (lg_sl av).length ≤ y.2.2.1) (h : G l D dA ad sh y (zR d mc ms) (zS ad) (fun me _ => me.name = "<init>") (zKF D dA P mc ms) 0 0 0 (lv_args 0 av) [] μ ν) : zK l D dA ad sh y d mc ms av μ ν P := by
  intro sz
  refine Met.ofW (cc := y.2.1) (maxL := y.2.2.1) (ret := y.2.2.2) hy rfl ?_
  intro p e s m args below meth c s₁ B hml hv
  obtain ⟨rfl, hsz, hP, hK, hD, hX⟩ := hv
  subst hsz
  have hts := atoms_spec (ws := zws y) B.pre
  have hl := lv_entry av (n := y.2.2.1) hlen
  rw [lg_entry_eq]
  refine h p e s m _ below meth c s.heap [] _ (zA ad sh.length s.heap.size) ⟨B.exec, B.bytes, hml, B.returns, fun w hw => hts w (List.mem_cons_of_mem _ hw), findClass_of_methodNamed B.named, B.notSynchronized, fun q hq => Or.inr hq, hX⟩ ((name_of_methodNamed B.named B.method).1.trans hnm) ⟨va_S.rf, ?_, hK, ?_, hl⟩
  · rw [List.append_nil]; exact hP
  · rw [List.append_nil]; exact zwd_self hD _
theorem g_return {mc ms : Nat} {P : zPK} (hd : decode y.2.1 pc = .ok (.return_, 1)) (hr : y.2.2.2 = none) (hP : P ad sh μ ν) (hc : cells ≤ mc) (hs : slots ≤ ms) : G l D dA ad sh y R X ini (zKF D dA P mc ms) cells slots pc L [] μ ν := by
  intro p e s m args below meth c H locs ls A h0 hi h1
  obtain ⟨hx, hb, hm, hrt, ht, ho, hk, hA, hX⟩ := h0
  obtain ⟨hS, hP1, hK, hD, hll⟩ := h1
  rw [List.append_nil] at hP1 hD
  refine W.widen hc hs ?_
  exact W.vret hx hb (hrt.trans hr) (fun t ht hW => ⟨⟨ad, sh, μ, ν, rfl, hP, by rw [ht]; exact hP1, va_K.moved hW.alike hK, hD⟩, hS.F ht⟩) hS.2.2 hd hk
theorem zcall_goK {p : Program} {e : Env} {s : State} {m : MethodId} {args : Array Value} {below : List Frame} {meth : Method} {c : Code} {H : Heap} {locs : List Loc} {ls : Array Slot} {A : Nat → Prop} {Qs : State → Prop} {mc1 ms1 : Nat} {st0 rest : List Value} {P : zPK} {a : Array Value}
    (hA : ∀ q, s.heap.size ≤ q → A q) (hS : va_S A s.heap H locs) (hD : va_D A (zwd dA ad sh μ ν))
    (hr : va_Run p l e R s m args below meth c H locs cells slots mc1 ms1 (F0 m pc ls st0) rest (zQK D dA P (zA ad sh.length H.size) a) (zA ad sh.length H.size))
    (kk : ∀ (ad' : Nat → Nat) (sh' : List zSE) (μ' : zI) (ν' : zJ) (H1 : Heap) (locs1 : List Loc), P ad' sh' μ' ν' → va_S A s.heap H1 locs1 → va_P D CL (zwd dA ad' sh' μ' ν') H1 → va_D A (zwd dA ad' sh' μ' ν') → W p l e R s m args below meth c H1 locs1 (cells + mc1) (slots + ms1) Qs (F0 m (pc + 3) ls rest)) : W p l e R s m args below meth c H locs cells slots Qs (F0 m pc ls st0) := by
  have hz0 : ∀ q, zA ad sh.length H.size q → A q := by
    rintro q (⟨r, hr, rfl⟩ | h)
    · exact zwd_in hD hr
    · exact hA q (Nat.le_trans hS.1 h)
  intro T hT X1
  obtain ⟨v, st₀, t, T', L1, h0, X', hL, e1, e2, ⟨⟨ad', sh', μ', ν', hv, hq, hP1, hK1, hD1⟩, hz, hk⟩, st⟩ := hr T hT X1
  cases hv
  rw [h0] at hz hk
  obtain ⟨t2, a1, b1⟩ := kk ad' sh' μ' ν' T'.heap (locs ++ L1) hq
    ⟨Nat.le_trans hS.1 (by rw [e1]; exact hz), fun q h1 h2 => by rw [e1, hk q (Nat.lt_of_lt_of_le h1 hS.1) (fun z => h2 (hz0 q z))]; exact hS.2.1 q h1 h2, fun q hq => by
      rcases List.mem_append.mp hq with h | h
      · exact hS.2.2 q h
      · exact hz0 _ (hL q h)⟩ (by rw [e1]; exact hP1) (hD1.weaken (fun _ _ _ h => hz0 _ h)) T' rfl X'
  exact ⟨t2, st t2 a1, b1⟩
theorem g_callI {idx n d mc1 ms1 a : Nat} {z : zM} {As S0 : List Value} {P : zPK} (hd : decode y.2.1 pc = .ok (.invokespecial idx, 3)) (hC : zK l D dA ad sh z d mc1 ms1 (.ref a :: As) μ ν P) (hz : zMd z n) (hzn : z.1.name = "<init>") (hret : z.2.2.2 = none) (hzi : Cond.instanceMethod z.1 ∈ TB) (hlk : Cond.methodLink y.1.cls idx z.1 ∈ TB) (hX : ∀ A s, X A s → zS ad A s) (hn : As.length = n) (hR : d + 1 ≤ R.frames ∧ 8 + (z.2.2.1 + 11) + 40 * d ≤ R.locals) (hf : cells + mc1 ≤ R.cells ∧ slots + ms1 ≤ R.slots) (hst : S0 = As.reverse ++ .ref a :: S) (hW : (S.map fun v => v.category).sum ≤ 8)
    (kk : ∀ ad' sh' μ' ν', P ad' sh' μ' ν' → G l D dA ad' sh' y R X ini QF (cells + mc1) (slots + ms1) (pc + 3) L S μ' ν') : G l D dA ad sh y R X ini QF cells slots pc L S0 μ ν := by
  intro p e s m args below meth c H locs ls A h0 hi h1
  obtain ⟨hx, hb, hm, hr, ht, ho, hk, hA, hX0⟩ := id h0
  obtain ⟨hS, hP, hK, hD, hll⟩ := h1
  rw [List.append_nil] at hP hD
  obtain ⟨z1, z2, z3, z4⟩ := z
  subst hret
  refine zcall_goK (rest := S) hA hS hD (va_runI (As := As) (b := a) (Ts := TB) ⟨hx, hb, hm, ho, ht⟩ (hC H.size) ⟨callB_of n ht (zws_good hz) rfl rfl rfl (ht _ hz.1) (ht _ hlk) hz.2.2 hR, hzn, ht _ hzi⟩ ⟨zblind, fun U hU hW => zcall_pre hA (hX A s hX0) hS hP hK hD U hU hW⟩ rfl hn hll.1 hst (lv_room hW) hd hf) (fun ad' sh' μ' ν' H1 locs1 hq hS1 hP1 hD1 => kk ad' sh' μ' ν' hq p e s m args below meth c H1 locs1 ls A h0 hi ⟨hS1, by rw [List.append_nil]; exact hP1, hK, by rw [List.append_nil]; exact hD1, hll⟩)
theorem g_callIN {idx n d mc1 ms1 a : Nat} {z : zM} {As S0 : List Value} {P : zPK} {host : String} (hd : decode y.2.1 pc = .ok (.invokespecial idx, 3)) (hC : zK l D dA ad sh z d mc1 ms1 (.ref a :: As) μ ν P) (hz : zMd z n) (hzn : z.1.name = "<init>") (hret : z.2.2.2 = none) (hzi : Cond.instanceMethod z.1 ∈ TB) (hlk : (y.1.cls, idx, z.1, host) ∈ zNest) (hX : ∀ A s, X A s → zS ad A s) (hn : As.length = n) (hR : d + 1 ≤ R.frames ∧ 8 + (z.2.2.1 + 11) + 40 * d ≤ R.locals) (hf : cells + mc1 ≤ R.cells ∧ slots + ms1 ≤ R.slots) (hst : S0 = As.reverse ++ .ref a :: S) (hW : (S.map fun v => v.category).sum ≤ 8)
    (kk : ∀ ad' sh' μ' ν', P ad' sh' μ' ν' → G l D dA ad' sh' y R X ini QF (cells + mc1) (slots + ms1) (pc + 3) L S μ' ν') : G l D dA ad sh y R X ini QF cells slots pc L S0 μ ν := by
  intro p e s m args below meth c H locs ls A h0 hi h1
  obtain ⟨hx, hb, hm, hr, ht, ho, hk, hA, hX0⟩ := id h0
  obtain ⟨hS, hP, hK, hD, hll⟩ := h1
  rw [List.append_nil] at hP hD
  obtain ⟨z1, z2, z3, z4⟩ := z
  subst hret
  refine zcall_goK (rest := S) hA hS hD (va_runIN (As := As) (b := a) (Ts := TB) ⟨hx, hb, hm, ho, ht⟩ (hC H.size) ⟨va_cnB n ht (zws_good hz) rfl rfl rfl ((hX A s hX0).2.1 _ hlk) (ht _ hz.1) hz.2.2 hR, hzn, ht _ hzi⟩ ⟨zblind, fun U hU hW => zcall_pre hA (hX A s hX0) hS hP hK hD U hU hW⟩ rfl hn hll.1 hst (lv_room hW) hd hf) (fun ad' sh' μ' ν' H1 locs1 hq hS1 hP1 hD1 => kk ad' sh' μ' ν' hq p e s m args below meth c H1 locs1 ls A h0 hi ⟨hS1, by rw [List.append_nil]; exact hP1, hK, by rw [List.append_nil]; exact hD1, hll⟩)
theorem g_callV {idx b a ci n d mc1 ms1 : Nat} {z : zM} {As S0 : List Value} {fks : List Nat} {T : u_T} {N : Nat} {Qz : zPost} (hd : decode y.2.1 pc = .ok (.invokevirtual idx, 3)) (hC : zC l D dA ad sh z d mc1 ms1 (.ref (ad b) :: As) μ ν Qz) (ha : ad b = a) (hz : zMv z n) (hlk : Cond.methodLink y.1.cls idx z.1 ∈ TB) (hX : ∀ A s, X A s → zS ad A s) (hs : sh[b]? = some (.inl (ci, fks))) (hcl : CL[ci]? = some (z.1.cls, T, N)) (hn : As.length = n) (hR : d + 1 ≤ R.frames ∧ 8 + (z.2.2.1 + 11) + 40 * d ≤ R.locals) (hf : cells + mc1 ≤ R.cells ∧ slots + ms1 ≤ R.slots) (hst : S0 = As.reverse ++ .ref a :: S) (hW : (S.map fun v => v.category).sum ≤ 8)
    (kk : ∀ r μ' ν', Qz r μ' ν' → G l D dA ad sh y R X ini QF (cells + mc1) (slots + ms1) (pc + 3) L (r.toList ++ S) μ' ν') : G l D dA ad sh y R X ini QF cells slots pc L S0 μ ν := by
  intro p e s m args below meth c H locs ls A h0 hi h1
  obtain ⟨hx, hb, hm, hr, ht, ho, hk, hA, hX0⟩ := id h0
  obtain ⟨hS, hP, hK, hD, hll⟩ := h1
  rw [List.append_nil] at hP hD
  subst ha
  have hs1 : (zwd dA ad sh μ ν)[b]? = some (ad b, zE dA ad (μ b) (ν b) (.inl (ci, fks))) := by
    have h := zwd_at (dA := dA) (ad := ad) (μ := μ) (ν := ν) (xw := []) hs
    rwa [List.append_nil] at h
  refine zcall_go (rest := S) hA hS hD (va_runV (As := As) (b := ad b) (C := z.1.cls) (Ts := TB) ⟨hx, hb, hm, ho, ht⟩ (hC H.size) ⟨callB_of n ht (zws_good hz.1) rfl rfl rfl (ht _ hz.1.1) (ht _ hlk) hz.1.2.2 hR, ht _ hz.2.1, ht _ hz.2.2⟩ ⟨zblind, va_recv hK hP hcl hs1, fun U hU hW => zcall_pre hA (hX A s hX0) hS hP hK hD U hU hW⟩ rfl hn hll.1 hst (lv_room hW) hd hf) (fun r μ' ν' H1 locs1 hq hS1 hP1 hD1 => kk r μ' ν' hq p e s m args below meth c H1 locs1 ls A h0 hi ⟨hS1, by rw [List.append_nil]; exact hP1, hK, by rw [List.append_nil]; exact hD1, hll⟩)
end GR
