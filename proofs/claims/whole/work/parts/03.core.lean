/-! A layer over the kit's W: one abstract world; one rule an instruction. -/
abbrev zSE : Type := (Nat × List Nat) ⊕ (Nat × Nat)
/-- what a field holds: 0 an int of the memory, 1 null, q + 2 the address of region q -/
def zf (ad : Nat → Nat) (x : Int32) : Nat → Value
  | 0 => .int x
  | 1 => .null
  | q + 2 => .ref (ad q)
def zE (dA : Nat → ClassId) (ad : Nat → Nat) (f : Nat → Int32) (g : Nat → Int64) : zSE → va_E
  | .inl a => .inr (a.1, a.2.mapIdx fun k fk => zf ad (f k) fk)
  | .inr a => .inl (dA a.1, a.2, if a.1 = 1 then .inr (.inl g) else .inl f)
abbrev zI : Type := Nat → Nat → Int32
abbrev zJ : Type := Nat → Nat → Int64
def zwd (dA : Nat → ClassId) (ad : Nat → Nat) (sh : List zSE) (μ : zI) (ν : zJ) : va_W := sh.mapIdx fun r e => (ad r, zE dA ad (μ r) (ν r) e)
def zty (dA : Nat → ClassId) : List (ClassId × FieldType) := [(dA 0, .int), (dA 1, .long), (dA 2, .byte), (dA 3, .boolean)]
/-- one int is written -/
def zu (μ : zI) (r k : Nat) (v : Int32) : zI := fun r' k' => if r' = r ∧ k' = k then v else μ r' k'
def zul (ν : zJ) (r k : Nat) (v : Int64) : zJ := fun r' k' => if r' = r ∧ k' = k then v else ν r' k'
/-- a whole row is written -/
def zr (μ : zI) (r : Nat) (f : Nat → Int32) : zI := fun r' => if r' = r then f else μ r'
def zrl (ν : zJ) (r : Nat) (f : Nat → Int64) : zJ := fun r' => if r' = r then f else ν r'
theorem zu_eq (μ : zI) (r k : Nat) (v : Int32) (r' k' : Nat) : zu μ r k v r' k' = if r' = r ∧ k' = k then v else μ r' k' := rfl
theorem zul_eq (ν : zJ) (r k : Nat) (v : Int64) (r' k' : Nat) : zul ν r k v r' k' = if r' = r ∧ k' = k then v else ν r' k' := rfl
theorem zr_eq (μ : zI) (r : Nat) (f : Nat → Int32) (r' : Nat) : zr μ r f r' = if r' = r then f else μ r' := rfl
theorem zrl_eq (ν : zJ) (r : Nat) (f : Nat → Int64) (r' : Nat) : zrl ν r f r' = if r' = r then f else ν r' := rfl
theorem zu_row (μ : zI) (r k : Nat) (v : Int32) : zu μ r k v r = upd (μ r) k v := by
  funext k'
  by_cases h : k' = k <;> simp [zu, upd, h]
theorem zu_off (μ : zI) (r k : Nat) (v : Int32) {r' : Nat} (h : r' ≠ r) : zu μ r k v r' = μ r' := by
  funext k'
  simp [zu, h]
theorem zul_row (ν : zJ) (r k : Nat) (v : Int64) : zul ν r k v r = vp_updL (ν r) k v := by
  funext k'
  by_cases h : k' = k <;> simp [zul, vp_updL, h]
theorem zul_off (ν : zJ) (r k : Nat) (v : Int64) {r' : Nat} (h : r' ≠ r) : zul ν r k v r' = ν r' := by
  funext k'
  simp [zul, h]
theorem zwd_at {dA : Nat → ClassId} {ad : Nat → Nat} {sh : List zSE} {μ : zI} {ν : zJ} {xw : va_W} {r : Nat} {e : zSE} (h : sh[r]? = some e) : (zwd dA ad sh μ ν ++ xw)[r]? = some (ad r, zE dA ad (μ r) (ν r) e) := by
  have hl : r < sh.length := (List.getElem?_eq_some_iff.mp h).1
  rw [List.getElem?_append_left (by rw [zwd, List.length_mapIdx]; exact hl), zwd, List.getElem?_mapIdx, h]
  rfl
theorem zwd_set {dA : Nat → ClassId} {ad : Nat → Nat} {sh : List zSE} {μ μ' : zI} {ν ν' : zJ} {xw : va_W} {r : Nat} {e : zSE} {x : va_E} (h : sh[r]? = some e) (hx : zE dA ad (μ' r) (ν' r) e = x) (h1 : ∀ q, q ≠ r → μ' q = μ q) (h2 : ∀ q, q ≠ r → ν' q = ν q) : (zwd dA ad sh μ ν ++ xw).set r (ad r, x) = zwd dA ad sh μ' ν' ++ xw := by
  have hl : r < sh.length := (List.getElem?_eq_some_iff.mp h).1
  rw [List.set_append_left _ _ (by rw [zwd, List.length_mapIdx]; exact hl)]
  congr 1
  apply List.ext_getElem?
  intro i
  by_cases hi : i = r
  · subst hi
    rw [List.getElem?_set_self (by rw [zwd, List.length_mapIdx]; exact hl), zwd, List.getElem?_mapIdx, h]
    simp [hx]
  · rw [List.getElem?_set_ne (Ne.symm hi), zwd, zwd, List.getElem?_mapIdx, List.getElem?_mapIdx, h1 i hi, h2 i hi]
theorem zE_field {dA : Nat → ClassId} {ad : Nat → Nat} {f : Nat → Int32} {g : Nat → Int64} {ci : Nat} {fks : List Nat} : zE dA ad f g (.inl (ci, fks)) = .inr (ci, fks.mapIdx fun k fk => zf ad (f k) fk) := rfl
theorem zE_put {dA : Nat → ClassId} {ad : Nat → Nat} {f : Nat → Int32} {g : Nat → Int64} {ci k : Nat} {fks : List Nat} {v : Int32} (hk : fks[k]? = some 0) : zE dA ad (upd f k v) g (.inl (ci, fks)) = .inr (ci, (fks.mapIdx fun k fk => zf ad (f k) fk).set k (.int v)) := by
  rw [zE_field]
  congr 2
  have hl : k < fks.length := (List.getElem?_eq_some_iff.mp hk).1
  apply List.ext_getElem?
  intro i
  by_cases hi : i = k
  · subst hi
    rw [List.getElem?_set_self (by rw [List.length_mapIdx]; exact hl), List.getElem?_mapIdx, hk]
    simp [zf, upd]
  · rw [List.getElem?_set_ne (Ne.symm hi), List.getElem?_mapIdx, List.getElem?_mapIdx]
    simp [upd, hi]
theorem zF_at {ad : Nat → Nat} {f : Nat → Int32} {fks : List Nat} {k fk : Nat} (hk : fks[k]? = some fk) : (fks.mapIdx fun k fk => zf ad (f k) fk)[k]? = some (zf ad (f k) fk) := by
  rw [List.getElem?_mapIdx, hk]
  rfl
/-! ## statics, strings, nest links: what stays as it is -/
def zTabs : List (String × String × List Int32) := [
  ("SunPoint$Told", "FIRST", [10000, 0, 1400, 1350, 80, 20, 100, 500, 3, 50, 10, 5000, 4, 3, 50, 0, 0, 0, 75]),
  ("SunPoint$Told", "LEAST", [1000, 0, 1100, 1100, 0, 1, 0, 1, 1, 0, 1, 1, 1, 1, 10, 0, 0, 0, 1]),
  ("SunPoint$Told", "MOST", [99999, 999, 2000, 2000, 100, 200, 99999, 5000, 20, 1000, 99, 99999, 64, 9, 200, 500, 100, 2, 99]),
  ("SunPoint$1", "$SwitchMap$SunPoint$Word", [1, 2, 3, 4, 5, 6, 7, 8, 9, 10, 0])]
def zNest : List (String × Nat × MethodName × String) := [("SunPoint", 11, ⟨"SunPoint$Tape", "<init>", "()V"⟩, "SunPoint"), ("SunPoint$Station", 9, ⟨"SunPoint$Told", "<init>", "()V"⟩, "SunPoint"), ("SunPoint$Station", 18, ⟨"SunPoint$Panel", "<init>", "()V"⟩, "SunPoint"), ("SunPoint$Station", 25, ⟨"SunPoint$Schedule", "<init>", "()V"⟩, "SunPoint"), ("SunPoint$Station", 32, ⟨"SunPoint$Follower", "<init>", "()V"⟩, "SunPoint"), ("SunPoint$Station", 39, ⟨"SunPoint$Battery", "<init>", "()V"⟩, "SunPoint"), ("SunPoint$Station", 46, ⟨"SunPoint$Inverter", "<init>", "()V"⟩, "SunPoint"), ("SunPoint", 37, ⟨"SunPoint$Log", "<init>", "()V"⟩, "SunPoint"), ("SunPoint$Station", 187, ⟨"SunPoint", "flag", "(Z)I"⟩, "SunPoint"), ("SunPoint$Log", 82, ⟨"SunPoint", "flag", "(Z)I"⟩, "SunPoint"), ("SunPoint$Log", 92, ⟨"SunPoint", "isNear", "(III)Z"⟩, "SunPoint")]
def zWd : List String := ["MODULE", "BATTERY", "STAGES", "INVERTER", "FOLLOW", "WAY", "AT", "LIGHT", "GRID", "TUNE", "OTHER"]
def zWf : List (String × String × String × List Int32) := [("java/lang/Enum", "ordinal", "I", [0, 1, 2, 3, 4, 5, 6, 7, 8, 9, 10]), ("SunPoint$Word", "first", "I", [-1, 0, 2, 7, 12, 17, -1, -1, -1, -1, -1]), ("SunPoint$Word", "last", "I", [-1, 1, 6, 11, 16, 18, -1, -1, -1, -1, -1])]
def zStrs : List (List Int32) := [[109, 111, 100, 117, 108, 101], [98, 97, 116, 116, 101, 114, 121], [115, 116, 97, 103, 101, 115], [105, 110, 118, 101, 114, 116, 101, 114], [102, 111, 108, 108, 111, 119], [119, 97, 121], [97, 116], [108, 105, 103, 104, 116], [103, 114, 105, 100], [116, 117, 110, 101], [], [98, 97, 116, 116, 101, 114, 121, 32, 115, 116, 97, 103, 101, 115, 32, 105, 110, 118, 101, 114, 116, 101, 114, 32, 102, 111, 108, 108, 111, 119, 32, 119, 97, 121, 32, 109, 111, 100, 117, 108, 101, 32, 97, 116, 32, 108, 105, 103, 104, 116, 32, 103, 114, 105, 100, 32, 116, 117, 110, 101, 32], [110, 111, 32, 115, 117, 99, 104, 32, 109, 111, 100, 117, 108, 101], [110, 111, 32, 115, 117, 99, 104, 32, 119, 104, 97, 116]]
def zS (ad : Nat → Nat) (A : Nat → Prop) (U : State) : Prop :=
  (∀ (k : Nat) (q : String × String × List Int32), zTabs[k]? = some q → va_Z q.1 q.2.1 "[I" (.ref (ad (1000000 + k))) A U U.heap ∧ va_T .int (ad (1000000 + k)) q.2.2.length (fun j => .int (q.2.2.getD j 0)) A U U.heap) ∧
  (∀ q ∈ zNest, va_Nw (.methodLinkNest q.1 q.2.1 q.2.2.1 q.2.2.2) U) ∧
  (va_Z "SunPoint$Reader" "WORDS" "[LSunPoint$Word;" (.ref (ad 1000010)) A U U.heap ∧ va_T (.object "SunPoint$Word") (ad 1000010) 11 (fun j => .ref (ad (1000100 + j))) A U U.heap) ∧
  va_En "SunPoint$Word" "LSunPoint$Word;" zWd zWf (fun i => ad (1000100 + i)) A U U.heap ∧
  va_Ef 11 "SunPoint$Word" "letters" "Ljava/lang/String;" (fun i => .ref (ad (1000200 + i))) (fun i => ad (1000100 + i)) A U U.heap ∧
  vk_S 14 (zStrs.map List.length) zStrs (fun i => ad (1000200 + i)) (fun i => ad (1000300 + i)) A U U.heap ∧
  (vk_R "SunPointModel" 91 "battery stages inverter follow way module at light grid tune " (ad 1000211) U ∧ vk_R "SunPoint" 159 "no such module" (ad 1000212) U ∧ vk_R "SunPoint" 175 "no such what" (ad 1000213) U) ∧
  va_Z "java/lang/String" "COMPACT_STRINGS" "Z" (.int 1) A U U.heap ∧ va_Zq "jdk/internal/util/Preconditions" "SIOOBE_FORMATTER" "Ljava/util/function/BiFunction;" A U U.heap
/-- they are the same later, and for who may change less -/
theorem zS.later {ad : Nat → Nat} {A B : Nat → Prop} {s U : State} (h : zS ad A s) (hW : s.WarmedH U.vm) (hq : ∀ a : Nat, a < s.heap.size → ¬ A a → U.heap[a]? = s.heap[a]?) (hAB : ∀ q, B q → A q) : zS ad B U := by
  have hv := hW.alike
  obtain ⟨h1, h2, ⟨h3, h4⟩, h5, h6, h7, ⟨h8, h9, h10⟩, h11, h12⟩ := h
  refine ⟨fun k q hk => ⟨(va_Z.moved hv ((h1 k q hk).1.kept hq)).narrow hAB, (va_T.moved hv ((h1 k q hk).2.kept hq)).narrow hAB⟩, fun q hm => va_Nw.warmM hW (h2 q hm), ⟨(va_Z.moved hv (h3.kept hq)).narrow hAB, (va_T.moved hv (h4.kept hq)).narrow hAB⟩, (va_En.moved hv (h5.kept hq)).narrow hAB, (va_Ef.moved hv (h6.kept hq)).narrow hAB, (vk_S.moved hv (h7.kept hq)).narrow hAB, ⟨vk_R.warm hW h8, vk_R.warm hW h9, vk_R.warm hW h10⟩, (va_Z.moved hv (h11.kept hq)).narrow hAB, (va_Zq.moved hv (h12.kept hq)).narrow hAB⟩
theorem zS.calling {ad : Nat → Nat} {A : Nat → Prop} {U : State} (h : zS ad A U) (g : JFrame) (mk : MethodId) (a : Array Value) : zS ad A (U.calling g mk a) := h.later (State.WarmedH.refl U) (fun _ _ _ => rfl) (fun _ h => h)
/-! ## the judgement -/
def zR (d mc ms : Nat) : Room := { frames := d, cells := mc, slots := ms, locals := 40 * d }
def zws (y : zM) : List Cond := .code y.1 y.2.1 y.2.2.1 y.2.2.2 :: TB
def zA (ad : Nat → Nat) (n sz : Nat) : Nat → Prop := fun q => (∃ r, r < n ∧ q = ad r) ∨ sz ≤ q
abbrev zPost : Type := Option Value → zI → zJ → Prop
def zQ (D : va_G) (dA : Nat → ClassId) (ad : Nat → Nat) (sh : List zSE) (Q : zPost) (A : Nat → Prop) : Array Value → State → Outcome → State → Prop := fun _ st o t =>
  (∃ (r : Option Value) (μ : zI) (ν : zJ), o = .returned r ∧ Q r μ ν ∧ va_P D CL (zwd dA ad sh μ ν) t.heap ∧ va_K D CL (zty dA) t ∧ va_D A (zwd dA ad sh μ ν)) ∧ va_F A st t
/-- what stays over a method's body -/
def zC0 (y : zM) (X : (Nat → Prop) → State → Prop) (p : Program) (s : State) (m : MethodId) (args : Array Value) (meth : Method) (c : Code) (A : Nat → Prop) : Prop :=
  p.tables.exec = Jvm.exec ∧ c.code = y.2.1 ∧ c.maxLocals = y.2.2.1 ∧ meth.sig.returnType = y.2.2.2 ∧ (∀ w ∈ TB, w.before args s = true) ∧ s.vm.findClass y.1.cls = some m.cls ∧ meth.locks = false ∧ (∀ q, s.heap.size ≤ q → A q) ∧ X A s
def zC1 (D : va_G) (dA : Nat → ClassId) (ad : Nat → Nat) (sh : List zSE) (y : zM) (s : State) (A : Nat → Prop) (L : List (Nat × Value)) (μ : zI) (ν : zJ) (xw : va_W) (H : Heap) (locs : List Loc) (ls : Array Slot) : Prop :=
  va_S A s.heap H locs ∧ va_P D CL (zwd dA ad sh μ ν ++ xw) H ∧ va_K D CL (zty dA) s ∧ va_D A (zwd dA ad sh μ ν ++ xw) ∧ lv_has ls y.2.2.1 L
def Z (l : Launch) (D : va_G) (dA : Nat → ClassId) (ad : Nat → Nat) (sh : List zSE) (y : zM) (R : Room) (X : (Nat → Prop) → State → Prop) (Q : zPost) (mc ms cells slots : Nat) (xw : va_W) (pc : Nat) (L : List (Nat × Value)) (S : List Value) (μ : zI) (ν : zJ) : Prop :=
  ∀ (p : Program) (e : Env) (s : State) (m : MethodId) (args : Array Value) (below : List Frame) (meth : Method) (c : Code) (H : Heap) (locs : List Loc) (ls : Array Slot) (A : Nat → Prop),
    zC0 y X p s m args meth c A → zC1 D dA ad sh y s A L μ ν xw H locs ls →
      W p l e R s m args below meth c H locs cells slots (MQ below (zQ D dA ad sh Q A) args s mc ms A) (F0 m pc ls S)
section ZR
variable {l : Launch} {D : va_G} {dA : Nat → ClassId} {ad : Nat → Nat} {sh : List zSE} {y : zM} {R : Room} {X : (Nat → Prop) → State → Prop} {Q : zPost} {mc ms cells slots : Nat} {xw : va_W} {pc : Nat} {L : List (Nat × Value)} {S : List Value} {μ : zI} {ν : zJ}
theorem Z.row {pc' : Nat} {S' : List Value} (h : ∀ (p : Program) (e : Env) (s : State) (m : MethodId) (args : Array Value) (below : List Frame) (meth : Method) (c : Code) (H : Heap) (locs : List Loc) (ls : Array Slot) (A : Nat → Prop) (Qs : State → Prop), p.tables.exec = Jvm.exec → c.code = y.2.1 → (∀ w ∈ TB, w.before args s = true) → s.vm.findClass y.1.cls = some m.cls → X A s → zC1 D dA ad sh y s A L μ ν xw H locs ls → W p l e R s m args below meth c H locs cells slots Qs (F0 m pc' ls S') → W p l e R s m args below meth c H locs cells slots Qs (F0 m pc ls S))
    (kk : Z l D dA ad sh y R X Q mc ms cells slots xw pc' L S' μ ν) : Z l D dA ad sh y R X Q mc ms cells slots xw pc L S μ ν := by
  intro p e s m args below meth c H locs ls A h0 h1
  exact h p e s m args below meth c H locs ls A _ h0.1 h0.2.1 h0.2.2.2.2.1 h0.2.2.2.2.2.1 h0.2.2.2.2.2.2.2.2 h1 (kk p e s m args below meth c H locs ls A h0 h1)

theorem z_iconst {n : Int} {v : Int32} (hd : decode y.2.1 pc = .ok (.iconst n, 1)) (hv : Int32.ofInt n = v)
    (kk : Z l D dA ad sh y R X Q mc ms cells slots xw (pc + 1) L (.int v :: S) μ ν) : Z l D dA ad sh y R X Q mc ms cells slots xw pc L S μ ν :=
  Z.row (fun p e s m args below meth c H locs ls A Qs hx hb ht ho hX h1 k => lv_iconst hx hb hd hv k) kk
theorem z_bipush {n : Int} {v : Int32} (hd : decode y.2.1 pc = .ok (.bipush n, 2)) (hv : (Int8.ofInt n).toInt32 = v)
    (kk : Z l D dA ad sh y R X Q mc ms cells slots xw (pc + 2) L (.int v :: S) μ ν) : Z l D dA ad sh y R X Q mc ms cells slots xw pc L S μ ν :=
  Z.row (fun p e s m args below meth c H locs ls A Qs hx hb ht ho hX h1 k => lv_bipush hx hb hd hv k) kk
theorem z_sipush {n : Int} {v : Int32} (hd : decode y.2.1 pc = .ok (.sipush n, 3)) (hv : (Int16.ofInt n).toInt32 = v)
    (kk : Z l D dA ad sh y R X Q mc ms cells slots xw (pc + 3) L (.int v :: S) μ ν) : Z l D dA ad sh y R X Q mc ms cells slots xw pc L S μ ν :=
  Z.row (fun p e s m args below meth c H locs ls A Qs hx hb ht ho hX h1 k => lv_sipush hx hb hd hv k) kk
theorem z_lconst {n : Fin 2} {v : Int64} (hd : decode y.2.1 pc = .ok (.lconst n, 1)) (hv : Int64.ofNat (n : Nat) = v)
    (kk : Z l D dA ad sh y R X Q mc ms cells slots xw (pc + 1) L (.long v :: S) μ ν) : Z l D dA ad sh y R X Q mc ms cells slots xw pc L S μ ν :=
  Z.row (fun p e s m args below meth c H locs ls A Qs hx hb ht ho hX h1 k => lv_lconst hx hb hd hv k) kk
theorem z_ldc {n : Nat} {v : Int32} (hd : decode y.2.1 pc = .ok (.ldc n, 2)) (hc : Cond.constant y.1.cls n v ∈ TB)
    (kk : Z l D dA ad sh y R X Q mc ms cells slots xw (pc + 2) L (.int v :: S) μ ν) : Z l D dA ad sh y R X Q mc ms cells slots xw pc L S μ ν :=
  Z.row (fun p e s m args below meth c H locs ls A Qs hx hb ht ho hX h1 k => lv_ldc hx hb ho (ht _ hc) hd k) kk
theorem z_ldcw {n : Nat} {v : Int32} (hd : decode y.2.1 pc = .ok (.ldc_w n, 3)) (hc : Cond.constant y.1.cls n v ∈ TB)
    (kk : Z l D dA ad sh y R X Q mc ms cells slots xw (pc + 3) L (.int v :: S) μ ν) : Z l D dA ad sh y R X Q mc ms cells slots xw pc L S μ ν :=
  Z.row (fun p e s m args below meth c H locs ls A Qs hx hb ht ho hX h1 k => lv_ldcw hx hb ho (ht _ hc) hd k) kk
theorem z_ldc2 {n : Nat} {v : Int64} (hd : decode y.2.1 pc = .ok (.ldc2_w n, 3)) (hc : Cond.constantLong y.1.cls n v ∈ TB)
    (kk : Z l D dA ad sh y R X Q mc ms cells slots xw (pc + 3) L (.long v :: S) μ ν) : Z l D dA ad sh y R X Q mc ms cells slots xw pc L S μ ν :=
  Z.row (fun p e s m args below meth c H locs ls A Qs hx hb ht ho hX h1 k => lv_ldc2 hx hb ho (ht _ hc) hd k) kk
theorem z_iload_n {k : Fin 4} {i : Nat} {x : Int32} (hd : decode y.2.1 pc = .ok (.iload_n k, 1)) (j : Nat) (hl : L[j]? = some (i, .int x)) (hi : (k : Nat) = i)
    (kk : Z l D dA ad sh y R X Q mc ms cells slots xw (pc + 1) L (.int x :: S) μ ν) : Z l D dA ad sh y R X Q mc ms cells slots xw pc L S μ ν :=
  Z.row (fun p e s m args below meth c H locs ls A Qs hx hb ht ho hX h1 k => lv_iload_n hx hb hd hi (lv_at h1.2.2.2.2 j hl) k) kk
theorem z_iload {i : Nat} {x : Int32} (hd : decode y.2.1 pc = .ok (.iload i, 2)) (j : Nat) (hl : L[j]? = some (i, .int x))
    (kk : Z l D dA ad sh y R X Q mc ms cells slots xw (pc + 2) L (.int x :: S) μ ν) : Z l D dA ad sh y R X Q mc ms cells slots xw pc L S μ ν :=
  Z.row (fun p e s m args below meth c H locs ls A Qs hx hb ht ho hX h1 k => lv_iload hx hb hd (lv_at h1.2.2.2.2 j hl) k) kk
theorem z_lload_n {k : Fin 4} {i : Nat} {x : Int64} (hd : decode y.2.1 pc = .ok (.lload_n k, 1)) (j : Nat) (hl : L[j]? = some (i, .long x)) (hi : (k : Nat) = i)
    (kk : Z l D dA ad sh y R X Q mc ms cells slots xw (pc + 1) L (.long x :: S) μ ν) : Z l D dA ad sh y R X Q mc ms cells slots xw pc L S μ ν :=
  Z.row (fun p e s m args below meth c H locs ls A Qs hx hb ht ho hX h1 k => lv_lload_n hx hb hd hi (lv_at h1.2.2.2.2 j hl) k) kk
theorem z_lload {i : Nat} {x : Int64} (hd : decode y.2.1 pc = .ok (.lload i, 2)) (j : Nat) (hl : L[j]? = some (i, .long x))
    (kk : Z l D dA ad sh y R X Q mc ms cells slots xw (pc + 2) L (.long x :: S) μ ν) : Z l D dA ad sh y R X Q mc ms cells slots xw pc L S μ ν :=
  Z.row (fun p e s m args below meth c H locs ls A Qs hx hb ht ho hX h1 k => lv_lload hx hb hd (lv_at h1.2.2.2.2 j hl) k) kk
theorem z_aload_n {k : Fin 4} {i : Nat} {x : Nat} (hd : decode y.2.1 pc = .ok (.aload_n k, 1)) (j : Nat) (hl : L[j]? = some (i, .ref x)) (hi : (k : Nat) = i)
    (kk : Z l D dA ad sh y R X Q mc ms cells slots xw (pc + 1) L (.ref x :: S) μ ν) : Z l D dA ad sh y R X Q mc ms cells slots xw pc L S μ ν :=
  Z.row (fun p e s m args below meth c H locs ls A Qs hx hb ht ho hX h1 k => lv_aload_n hx hb hd hi (lv_at h1.2.2.2.2 j hl) k) kk
theorem z_aload {i : Nat} {x : Nat} (hd : decode y.2.1 pc = .ok (.aload i, 2)) (j : Nat) (hl : L[j]? = some (i, .ref x))
    (kk : Z l D dA ad sh y R X Q mc ms cells slots xw (pc + 2) L (.ref x :: S) μ ν) : Z l D dA ad sh y R X Q mc ms cells slots xw pc L S μ ν :=
  Z.row (fun p e s m args below meth c H locs ls A Qs hx hb ht ho hX h1 k => lv_aload hx hb hd (lv_at h1.2.2.2.2 j hl) k) kk
theorem z_istore_n {k : Fin 4} {i : Nat} {x : Int32} {L2 : List (Nat × Value)} (hd : decode y.2.1 pc = .ok (.istore_n k, 1)) (hi : (k : Nat) = i) (hn : i < y.2.2.1) (hL : (i, Value.int x) :: L.filter (fun q => !(q.1 == i) && !(q.1 + 1 == i && q.2.category == 2)) = L2)
    (kk : Z l D dA ad sh y R X Q mc ms cells slots xw (pc + 1) L2 S μ ν) : Z l D dA ad sh y R X Q mc ms cells slots xw pc L (.int x :: S) μ ν := by
  intro p e s m args below meth c H locs ls A h0 h1
  obtain ⟨hS, hP, hK, hD, hl⟩ := h1
  exact lv_istore_n h0.1 h0.2.1 hd hi hl hn hL (fun ls2 hl2 => kk p e s m args below meth c H locs ls2 A h0 ⟨hS, hP, hK, hD, hl2⟩)
theorem z_istore {i : Nat} {x : Int32} {L2 : List (Nat × Value)} (hd : decode y.2.1 pc = .ok (.istore i, 2)) (hn : i < y.2.2.1) (hL : (i, Value.int x) :: L.filter (fun q => !(q.1 == i) && !(q.1 + 1 == i && q.2.category == 2)) = L2)
    (kk : Z l D dA ad sh y R X Q mc ms cells slots xw (pc + 2) L2 S μ ν) : Z l D dA ad sh y R X Q mc ms cells slots xw pc L (.int x :: S) μ ν := by
  intro p e s m args below meth c H locs ls A h0 h1
  obtain ⟨hS, hP, hK, hD, hl⟩ := h1
  exact lv_istore h0.1 h0.2.1 hd hl hn hL (fun ls2 hl2 => kk p e s m args below meth c H locs ls2 A h0 ⟨hS, hP, hK, hD, hl2⟩)
theorem z_lstore_n {k : Fin 4} {i : Nat} {x : Int64} {L2 : List (Nat × Value)} (hd : decode y.2.1 pc = .ok (.lstore_n k, 1)) (hi : (k : Nat) = i) (hn : i + 1 < y.2.2.1) (hL : (i, Value.long x) :: L.filter (fun q => !(q.1 == i) && (!(q.1 == i + 1) && !(q.1 + 1 == i && q.2.category == 2))) = L2)
    (kk : Z l D dA ad sh y R X Q mc ms cells slots xw (pc + 1) L2 S μ ν) : Z l D dA ad sh y R X Q mc ms cells slots xw pc L (.long x :: S) μ ν := by
  intro p e s m args below meth c H locs ls A h0 h1
  obtain ⟨hS, hP, hK, hD, hl⟩ := h1
  exact lv_lstore_n h0.1 h0.2.1 hd hi hl hn hL (fun ls2 hl2 => kk p e s m args below meth c H locs ls2 A h0 ⟨hS, hP, hK, hD, hl2⟩)
theorem z_lstore {i : Nat} {x : Int64} {L2 : List (Nat × Value)} (hd : decode y.2.1 pc = .ok (.lstore i, 2)) (hn : i + 1 < y.2.2.1) (hL : (i, Value.long x) :: L.filter (fun q => !(q.1 == i) && (!(q.1 == i + 1) && !(q.1 + 1 == i && q.2.category == 2))) = L2)
    (kk : Z l D dA ad sh y R X Q mc ms cells slots xw (pc + 2) L2 S μ ν) : Z l D dA ad sh y R X Q mc ms cells slots xw pc L (.long x :: S) μ ν := by
  intro p e s m args below meth c H locs ls A h0 h1
  obtain ⟨hS, hP, hK, hD, hl⟩ := h1
  exact lv_lstore h0.1 h0.2.1 hd hl hn hL (fun ls2 hl2 => kk p e s m args below meth c H locs ls2 A h0 ⟨hS, hP, hK, hD, hl2⟩)
theorem z_astore_n {k : Fin 4} {i : Nat} {x : Nat} {L2 : List (Nat × Value)} (hd : decode y.2.1 pc = .ok (.astore_n k, 1)) (hi : (k : Nat) = i) (hn : i < y.2.2.1) (hL : (i, Value.ref x) :: L.filter (fun q => !(q.1 == i) && !(q.1 + 1 == i && q.2.category == 2)) = L2)
    (kk : Z l D dA ad sh y R X Q mc ms cells slots xw (pc + 1) L2 S μ ν) : Z l D dA ad sh y R X Q mc ms cells slots xw pc L (.ref x :: S) μ ν := by
  intro p e s m args below meth c H locs ls A h0 h1
  obtain ⟨hS, hP, hK, hD, hl⟩ := h1
  exact lv_astore_n h0.1 h0.2.1 hd hi hl hn hL (fun ls2 hl2 => kk p e s m args below meth c H locs ls2 A h0 ⟨hS, hP, hK, hD, hl2⟩)
theorem z_astore {i : Nat} {x : Nat} {L2 : List (Nat × Value)} (hd : decode y.2.1 pc = .ok (.astore i, 2)) (hn : i < y.2.2.1) (hL : (i, Value.ref x) :: L.filter (fun q => !(q.1 == i) && !(q.1 + 1 == i && q.2.category == 2)) = L2)
    (kk : Z l D dA ad sh y R X Q mc ms cells slots xw (pc + 2) L2 S μ ν) : Z l D dA ad sh y R X Q mc ms cells slots xw pc L (.ref x :: S) μ ν := by
  intro p e s m args below meth c H locs ls A h0 h1
  obtain ⟨hS, hP, hK, hD, hl⟩ := h1
  exact lv_astore h0.1 h0.2.1 hd hl hn hL (fun ls2 hl2 => kk p e s m args below meth c H locs ls2 A h0 ⟨hS, hP, hK, hD, hl2⟩)
theorem z_iinc {i k : Nat} {n : Int} {x v : Int32} {L2 : List (Nat × Value)} (hd : decode y.2.1 pc = .ok (.iinc i n, 3)) (hk : L[k]? = some (i, .int x)) (hv : x + Int32.ofInt n = v) (hn : i < y.2.2.1) (hL : (i, Value.int v) :: L.filter (fun q => !(q.1 == i) && !(q.1 + 1 == i && q.2.category == 2)) = L2)
    (kk : Z l D dA ad sh y R X Q mc ms cells slots xw (pc + 3) L2 S μ ν) : Z l D dA ad sh y R X Q mc ms cells slots xw pc L S μ ν := by
  intro p e s m args below meth c H locs ls A h0 h1
  obtain ⟨hS, hP, hK, hD, hl⟩ := h1
  exact lv_iinc h0.1 h0.2.1 hd hl hk hv hn hL (fun ls2 hl2 => kk p e s m args below meth c H locs ls2 A h0 ⟨hS, hP, hK, hD, hl2⟩)
theorem z_iadd {x w : Int32} (hd : decode y.2.1 pc = .ok (.iadd, 1))
    (kk : Z l D dA ad sh y R X Q mc ms cells slots xw (pc + 1) L (.int (x + w) :: S) μ ν) : Z l D dA ad sh y R X Q mc ms cells slots xw pc L (.int w :: .int x :: S) μ ν :=
  Z.row (fun p e s m args below meth c H locs ls A Qs hx hb ht ho hX h1 k => lv_iadd hx hb hd k) kk
theorem z_isub {x w : Int32} (hd : decode y.2.1 pc = .ok (.isub, 1))
    (kk : Z l D dA ad sh y R X Q mc ms cells slots xw (pc + 1) L (.int (x - w) :: S) μ ν) : Z l D dA ad sh y R X Q mc ms cells slots xw pc L (.int w :: .int x :: S) μ ν :=
  Z.row (fun p e s m args below meth c H locs ls A Qs hx hb ht ho hX h1 k => lv_isub hx hb hd k) kk
theorem z_imul {x w : Int32} (hd : decode y.2.1 pc = .ok (.imul, 1))
    (kk : Z l D dA ad sh y R X Q mc ms cells slots xw (pc + 1) L (.int (x * w) :: S) μ ν) : Z l D dA ad sh y R X Q mc ms cells slots xw pc L (.int w :: .int x :: S) μ ν :=
  Z.row (fun p e s m args below meth c H locs ls A Qs hx hb ht ho hX h1 k => lv_imul hx hb hd k) kk
theorem z_iand {x w : Int32} (hd : decode y.2.1 pc = .ok (.iand, 1))
    (kk : Z l D dA ad sh y R X Q mc ms cells slots xw (pc + 1) L (.int (x &&& w) :: S) μ ν) : Z l D dA ad sh y R X Q mc ms cells slots xw pc L (.int w :: .int x :: S) μ ν :=
  Z.row (fun p e s m args below meth c H locs ls A Qs hx hb ht ho hX h1 k => lv_iand hx hb hd k) kk
theorem z_ior {x w : Int32} (hd : decode y.2.1 pc = .ok (.ior, 1))
    (kk : Z l D dA ad sh y R X Q mc ms cells slots xw (pc + 1) L (.int (x ||| w) :: S) μ ν) : Z l D dA ad sh y R X Q mc ms cells slots xw pc L (.int w :: .int x :: S) μ ν :=
  Z.row (fun p e s m args below meth c H locs ls A Qs hx hb ht ho hX h1 k => lv_ior hx hb hd k) kk
theorem z_ishl {x w : Int32} (hd : decode y.2.1 pc = .ok (.ishl, 1))
    (kk : Z l D dA ad sh y R X Q mc ms cells slots xw (pc + 1) L (.int (x <<< (w &&& 31)) :: S) μ ν) : Z l D dA ad sh y R X Q mc ms cells slots xw pc L (.int w :: .int x :: S) μ ν :=
  Z.row (fun p e s m args below meth c H locs ls A Qs hx hb ht ho hX h1 k => lv_ishl hx hb hd k) kk
theorem z_ishr {x w : Int32} (hd : decode y.2.1 pc = .ok (.ishr, 1))
    (kk : Z l D dA ad sh y R X Q mc ms cells slots xw (pc + 1) L (.int (x >>> (w &&& 31)) :: S) μ ν) : Z l D dA ad sh y R X Q mc ms cells slots xw pc L (.int w :: .int x :: S) μ ν :=
  Z.row (fun p e s m args below meth c H locs ls A Qs hx hb ht ho hX h1 k => lv_ishr hx hb hd k) kk
theorem z_ladd {x w : Int64} (hd : decode y.2.1 pc = .ok (.ladd, 1))
    (kk : Z l D dA ad sh y R X Q mc ms cells slots xw (pc + 1) L (.long (x + w) :: S) μ ν) : Z l D dA ad sh y R X Q mc ms cells slots xw pc L (.long w :: .long x :: S) μ ν :=
  Z.row (fun p e s m args below meth c H locs ls A Qs hx hb ht ho hX h1 k => lv_ladd hx hb hd k) kk
theorem z_lsub {x w : Int64} (hd : decode y.2.1 pc = .ok (.lsub, 1))
    (kk : Z l D dA ad sh y R X Q mc ms cells slots xw (pc + 1) L (.long (x - w) :: S) μ ν) : Z l D dA ad sh y R X Q mc ms cells slots xw pc L (.long w :: .long x :: S) μ ν :=
  Z.row (fun p e s m args below meth c H locs ls A Qs hx hb ht ho hX h1 k => lv_lsub hx hb hd k) kk
theorem z_lmul {x w : Int64} (hd : decode y.2.1 pc = .ok (.lmul, 1))
    (kk : Z l D dA ad sh y R X Q mc ms cells slots xw (pc + 1) L (.long (x * w) :: S) μ ν) : Z l D dA ad sh y R X Q mc ms cells slots xw pc L (.long w :: .long x :: S) μ ν :=
  Z.row (fun p e s m args below meth c H locs ls A Qs hx hb ht ho hX h1 k => lv_lmul hx hb hd k) kk
theorem z_idiv {x w : Int32} (hd : decode y.2.1 pc = .ok (.idiv, 1)) (hne : ¬ w = 0)
    (kk : Z l D dA ad sh y R X Q mc ms cells slots xw (pc + 1) L (.int (x / w) :: S) μ ν) : Z l D dA ad sh y R X Q mc ms cells slots xw pc L (.int w :: .int x :: S) μ ν :=
  Z.row (fun p e s m args below meth c H locs ls A Qs hx hb ht ho hX h1 k => lv_idiv hx hb hd hne k) kk
theorem z_irem {x w : Int32} (hd : decode y.2.1 pc = .ok (.irem, 1)) (hne : ¬ w = 0)
    (kk : Z l D dA ad sh y R X Q mc ms cells slots xw (pc + 1) L (.int (x - x / w * w) :: S) μ ν) : Z l D dA ad sh y R X Q mc ms cells slots xw pc L (.int w :: .int x :: S) μ ν :=
  Z.row (fun p e s m args below meth c H locs ls A Qs hx hb ht ho hX h1 k => lv_irem hx hb hd hne k) kk
theorem z_ldiv {x w : Int64} (hd : decode y.2.1 pc = .ok (.ldiv, 1)) (hne : ¬ w = 0)
    (kk : Z l D dA ad sh y R X Q mc ms cells slots xw (pc + 1) L (.long (x / w) :: S) μ ν) : Z l D dA ad sh y R X Q mc ms cells slots xw pc L (.long w :: .long x :: S) μ ν :=
  Z.row (fun p e s m args below meth c H locs ls A Qs hx hb ht ho hX h1 k => lv_ldiv hx hb hd hne k) kk
theorem z_ineg {x : Int32} (hd : decode y.2.1 pc = .ok (.ineg, 1))
    (kk : Z l D dA ad sh y R X Q mc ms cells slots xw (pc + 1) L (.int (-x) :: S) μ ν) : Z l D dA ad sh y R X Q mc ms cells slots xw pc L (.int x :: S) μ ν :=
  Z.row (fun p e s m args below meth c H locs ls A Qs hx hb ht ho hX h1 k => lv_ineg hx hb hd k) kk
theorem z_i2l {x : Int32} (hd : decode y.2.1 pc = .ok (.i2l, 1))
    (kk : Z l D dA ad sh y R X Q mc ms cells slots xw (pc + 1) L (.long x.toInt64 :: S) μ ν) : Z l D dA ad sh y R X Q mc ms cells slots xw pc L (.int x :: S) μ ν :=
  Z.row (fun p e s m args below meth c H locs ls A Qs hx hb ht ho hX h1 k => lv_i2l hx hb hd rfl k) kk
theorem z_l2i {x : Int64} (hd : decode y.2.1 pc = .ok (.l2i, 1))
    (kk : Z l D dA ad sh y R X Q mc ms cells slots xw (pc + 1) L (.int x.toInt32 :: S) μ ν) : Z l D dA ad sh y R X Q mc ms cells slots xw pc L (.long x :: S) μ ν :=
  Z.row (fun p e s m args below meth c H locs ls A Qs hx hb ht ho hX h1 k => lv_l2i hx hb hd rfl k) kk
theorem z_i2b {x : Int32} (hd : decode y.2.1 pc = .ok (.i2b, 1))
    (kk : Z l D dA ad sh y R X Q mc ms cells slots xw (pc + 1) L (.int x.toInt8.toInt32 :: S) μ ν) : Z l D dA ad sh y R X Q mc ms cells slots xw pc L (.int x :: S) μ ν :=
  Z.row (fun p e s m args below meth c H locs ls A Qs hx hb ht ho hX h1 k => lv_i2b hx hb hd rfl k) kk
theorem z_iushr {x w : Int32} (hd : decode y.2.1 pc = .ok (.iushr, 1))
    (kk : Z l D dA ad sh y R X Q mc ms cells slots xw (pc + 1) L (.int (x.toUInt32 >>> (w.toUInt32 &&& Int32.toUInt32 31)).toInt32 :: S) μ ν) : Z l D dA ad sh y R X Q mc ms cells slots xw pc L (.int w :: .int x :: S) μ ν :=
  Z.row (fun p e s m args below meth c H locs ls A Qs hx hb ht ho hX h1 k => lv_iushr hx hb hd rfl k) kk
theorem z_lcmp {x w : Int64} (hd : decode y.2.1 pc = .ok (.lcmp, 1))
    (kk : Z l D dA ad sh y R X Q mc ms cells slots xw (pc + 1) L (.int (lg_cmp x w) :: S) μ ν) : Z l D dA ad sh y R X Q mc ms cells slots xw pc L (.long w :: .long x :: S) μ ν :=
  Z.row (fun p e s m args below meth c H locs ls A Qs hx hb ht ho hX h1 k => W.lcmp hx hb hd k) kk
theorem z_dup {v : Value} (hd : decode y.2.1 pc = .ok (.dup, 1)) (hv : v.category = 1)
    (kk : Z l D dA ad sh y R X Q mc ms cells slots xw (pc + 1) L (v :: v :: S) μ ν) : Z l D dA ad sh y R X Q mc ms cells slots xw pc L (v :: S) μ ν :=
  Z.row (fun p e s m args below meth c H locs ls A Qs hx hb ht ho hX h1 k => lv_dup hx hb hd hv k) kk
theorem z_dup2 {v w : Value} (hd : decode y.2.1 pc = .ok (.dup2, 1)) (hv : v.category = 1) (hw : w.category = 1)
    (kk : Z l D dA ad sh y R X Q mc ms cells slots xw (pc + 1) L (v :: w :: v :: w :: S) μ ν) : Z l D dA ad sh y R X Q mc ms cells slots xw pc L (v :: w :: S) μ ν :=
  Z.row (fun p e s m args below meth c H locs ls A Qs hx hb ht ho hX h1 k => lv_dup2_11 hx hb hd hv hw k) kk
theorem z_goto {off : Int} {tgt : Nat} (hd : decode y.2.1 pc = .ok (.goto off, 3)) (htg : (pc : Int) + off = (tgt : Int))
    (kk : Z l D dA ad sh y R X Q mc ms cells slots xw tgt L S μ ν) : Z l D dA ad sh y R X Q mc ms cells slots xw pc L S μ ν :=
  Z.row (fun p e s m args below meth c H locs ls A Qs hx hb ht ho hX h1 k => lv_goto hx hb hd htg k) kk
--eq
theorem z_if_eq {x : Int32} {off : Int} {tgt : Nat} (hd : decode y.2.1 pc = .ok (.ifCond .eq off, 3)) (htg : (pc : Int) + off = (tgt : Int))
    (kt : x = 0 → Z l D dA ad sh y R X Q mc ms cells slots xw tgt L S μ ν) (kf : ¬ x = 0 → Z l D dA ad sh y R X Q mc ms cells slots xw (pc + 3) L S μ ν) : Z l D dA ad sh y R X Q mc ms cells slots xw pc L (.int x :: S) μ ν := by
  intro p e s m args below meth c H locs ls A h0 h1
  exact lv_if_eq h0.1 h0.2.1 hd htg (fun h => kt h p e s m args below meth c H locs ls A h0 h1) (fun h => kf h p e s m args below meth c H locs ls A h0 h1)
theorem z_icmp_eq {x w : Int32} {off : Int} {tgt : Nat} (hd : decode y.2.1 pc = .ok (.if_icmp .eq off, 3)) (htg : (pc : Int) + off = (tgt : Int))
    (kt : x = w → Z l D dA ad sh y R X Q mc ms cells slots xw tgt L S μ ν) (kf : ¬ x = w → Z l D dA ad sh y R X Q mc ms cells slots xw (pc + 3) L S μ ν) : Z l D dA ad sh y R X Q mc ms cells slots xw pc L (.int w :: .int x :: S) μ ν := by
  intro p e s m args below meth c H locs ls A h0 h1
  exact lv_icmp_eq h0.1 h0.2.1 hd htg (fun h => kt h p e s m args below meth c H locs ls A h0 h1) (fun h => kf h p e s m args below meth c H locs ls A h0 h1)
--ne
theorem z_if_ne {x : Int32} {off : Int} {tgt : Nat} (hd : decode y.2.1 pc = .ok (.ifCond .ne off, 3)) (htg : (pc : Int) + off = (tgt : Int))
    (kt : (¬ x = 0) → Z l D dA ad sh y R X Q mc ms cells slots xw tgt L S μ ν) (kf : x = 0 → Z l D dA ad sh y R X Q mc ms cells slots xw (pc + 3) L S μ ν) : Z l D dA ad sh y R X Q mc ms cells slots xw pc L (.int x :: S) μ ν := by
  intro p e s m args below meth c H locs ls A h0 h1
  exact lv_if_ne h0.1 h0.2.1 hd htg (fun h => kt h p e s m args below meth c H locs ls A h0 h1) (fun h => kf h p e s m args below meth c H locs ls A h0 h1)
theorem z_icmp_ne {x w : Int32} {off : Int} {tgt : Nat} (hd : decode y.2.1 pc = .ok (.if_icmp .ne off, 3)) (htg : (pc : Int) + off = (tgt : Int))
    (kt : (¬ x = w) → Z l D dA ad sh y R X Q mc ms cells slots xw tgt L S μ ν) (kf : x = w → Z l D dA ad sh y R X Q mc ms cells slots xw (pc + 3) L S μ ν) : Z l D dA ad sh y R X Q mc ms cells slots xw pc L (.int w :: .int x :: S) μ ν := by
  intro p e s m args below meth c H locs ls A h0 h1
  exact lv_icmp_ne h0.1 h0.2.1 hd htg (fun h => kt h p e s m args below meth c H locs ls A h0 h1) (fun h => kf h p e s m args below meth c H locs ls A h0 h1)
--lt
theorem z_if_lt {x : Int32} {off : Int} {tgt : Nat} (hd : decode y.2.1 pc = .ok (.ifCond .lt off, 3)) (htg : (pc : Int) + off = (tgt : Int))
    (kt : x < 0 → Z l D dA ad sh y R X Q mc ms cells slots xw tgt L S μ ν) (kf : ¬ x < 0 → Z l D dA ad sh y R X Q mc ms cells slots xw (pc + 3) L S μ ν) : Z l D dA ad sh y R X Q mc ms cells slots xw pc L (.int x :: S) μ ν := by
  intro p e s m args below meth c H locs ls A h0 h1
  exact lv_if_lt h0.1 h0.2.1 hd htg (fun h => kt h p e s m args below meth c H locs ls A h0 h1) (fun h => kf h p e s m args below meth c H locs ls A h0 h1)
theorem z_icmp_lt {x w : Int32} {off : Int} {tgt : Nat} (hd : decode y.2.1 pc = .ok (.if_icmp .lt off, 3)) (htg : (pc : Int) + off = (tgt : Int))
    (kt : x < w → Z l D dA ad sh y R X Q mc ms cells slots xw tgt L S μ ν) (kf : ¬ x < w → Z l D dA ad sh y R X Q mc ms cells slots xw (pc + 3) L S μ ν) : Z l D dA ad sh y R X Q mc ms cells slots xw pc L (.int w :: .int x :: S) μ ν := by
  intro p e s m args below meth c H locs ls A h0 h1
  exact lv_icmp_lt h0.1 h0.2.1 hd htg (fun h => kt h p e s m args below meth c H locs ls A h0 h1) (fun h => kf h p e s m args below meth c H locs ls A h0 h1)
--ge
theorem z_if_ge {x : Int32} {off : Int} {tgt : Nat} (hd : decode y.2.1 pc = .ok (.ifCond .ge off, 3)) (htg : (pc : Int) + off = (tgt : Int))
    (kt : 0 ≤ x → Z l D dA ad sh y R X Q mc ms cells slots xw tgt L S μ ν) (kf : ¬ 0 ≤ x → Z l D dA ad sh y R X Q mc ms cells slots xw (pc + 3) L S μ ν) : Z l D dA ad sh y R X Q mc ms cells slots xw pc L (.int x :: S) μ ν := by
  intro p e s m args below meth c H locs ls A h0 h1
  exact lv_if_ge h0.1 h0.2.1 hd htg (fun h => kt h p e s m args below meth c H locs ls A h0 h1) (fun h => kf h p e s m args below meth c H locs ls A h0 h1)
theorem z_icmp_ge {x w : Int32} {off : Int} {tgt : Nat} (hd : decode y.2.1 pc = .ok (.if_icmp .ge off, 3)) (htg : (pc : Int) + off = (tgt : Int))
    (kt : w ≤ x → Z l D dA ad sh y R X Q mc ms cells slots xw tgt L S μ ν) (kf : ¬ w ≤ x → Z l D dA ad sh y R X Q mc ms cells slots xw (pc + 3) L S μ ν) : Z l D dA ad sh y R X Q mc ms cells slots xw pc L (.int w :: .int x :: S) μ ν := by
  intro p e s m args below meth c H locs ls A h0 h1
  exact lv_icmp_ge h0.1 h0.2.1 hd htg (fun h => kt h p e s m args below meth c H locs ls A h0 h1) (fun h => kf h p e s m args below meth c H locs ls A h0 h1)
--gt
theorem z_if_gt {x : Int32} {off : Int} {tgt : Nat} (hd : decode y.2.1 pc = .ok (.ifCond .gt off, 3)) (htg : (pc : Int) + off = (tgt : Int))
    (kt : 0 < x → Z l D dA ad sh y R X Q mc ms cells slots xw tgt L S μ ν) (kf : ¬ 0 < x → Z l D dA ad sh y R X Q mc ms cells slots xw (pc + 3) L S μ ν) : Z l D dA ad sh y R X Q mc ms cells slots xw pc L (.int x :: S) μ ν := by
  intro p e s m args below meth c H locs ls A h0 h1
  exact lv_if_gt h0.1 h0.2.1 hd htg (fun h => kt h p e s m args below meth c H locs ls A h0 h1) (fun h => kf h p e s m args below meth c H locs ls A h0 h1)
theorem z_icmp_gt {x w : Int32} {off : Int} {tgt : Nat} (hd : decode y.2.1 pc = .ok (.if_icmp .gt off, 3)) (htg : (pc : Int) + off = (tgt : Int))
    (kt : w < x → Z l D dA ad sh y R X Q mc ms cells slots xw tgt L S μ ν) (kf : ¬ w < x → Z l D dA ad sh y R X Q mc ms cells slots xw (pc + 3) L S μ ν) : Z l D dA ad sh y R X Q mc ms cells slots xw pc L (.int w :: .int x :: S) μ ν := by
  intro p e s m args below meth c H locs ls A h0 h1
  exact lv_icmp_gt h0.1 h0.2.1 hd htg (fun h => kt h p e s m args below meth c H locs ls A h0 h1) (fun h => kf h p e s m args below meth c H locs ls A h0 h1)
--le
theorem z_if_le {x : Int32} {off : Int} {tgt : Nat} (hd : decode y.2.1 pc = .ok (.ifCond .le off, 3)) (htg : (pc : Int) + off = (tgt : Int))
    (kt : x ≤ 0 → Z l D dA ad sh y R X Q mc ms cells slots xw tgt L S μ ν) (kf : ¬ x ≤ 0 → Z l D dA ad sh y R X Q mc ms cells slots xw (pc + 3) L S μ ν) : Z l D dA ad sh y R X Q mc ms cells slots xw pc L (.int x :: S) μ ν := by
  intro p e s m args below meth c H locs ls A h0 h1
  exact lv_if_le h0.1 h0.2.1 hd htg (fun h => kt h p e s m args below meth c H locs ls A h0 h1) (fun h => kf h p e s m args below meth c H locs ls A h0 h1)
theorem z_icmp_le {x w : Int32} {off : Int} {tgt : Nat} (hd : decode y.2.1 pc = .ok (.if_icmp .le off, 3)) (htg : (pc : Int) + off = (tgt : Int))
    (kt : x ≤ w → Z l D dA ad sh y R X Q mc ms cells slots xw tgt L S μ ν) (kf : ¬ x ≤ w → Z l D dA ad sh y R X Q mc ms cells slots xw (pc + 3) L S μ ν) : Z l D dA ad sh y R X Q mc ms cells slots xw pc L (.int w :: .int x :: S) μ ν := by
  intro p e s m args below meth c H locs ls A h0 h1
  exact lv_icmp_le h0.1 h0.2.1 hd htg (fun h => kt h p e s m args below meth c H locs ls A h0 h1) (fun h => kf h p e s m args below meth c H locs ls A h0 h1)
theorem z_table {dflt lo hi : Int} {offs : Array Int} {len : Nat} {x : Int32} (hd : decode y.2.1 pc = .ok (.tableswitch dflt lo hi offs, len))
    (ko : ∀ tgt : Nat, (x.toInt < lo ∨ hi < x.toInt) → (pc : Int) + dflt = (tgt : Int) → Z l D dA ad sh y R X Q mc ms cells slots xw tgt L S μ ν)
    (ki : ∀ (off : Int) (tgt : Nat), ¬ x.toInt < lo → ¬ hi < x.toInt → offs[(x.toInt - lo).toNat]? = some off → (pc : Int) + off = (tgt : Int) → Z l D dA ad sh y R X Q mc ms cells slots xw tgt L S μ ν)
    (hn : ∀ o ∈ (dflt :: offs.toList), 0 ≤ (pc : Int) + o) (hlen : offs.size = (hi - lo + 1).toNat) : Z l D dA ad sh y R X Q mc ms cells slots xw pc L (.int x :: S) μ ν := by
  intro p e s m args below meth c H locs ls A h0 h1
  by_cases h : x.toInt < lo ∨ hi < x.toInt
  · have ht : (pc : Int) + dflt = (((pc : Int) + dflt).toNat : Int) := (Int.toNat_of_nonneg (hn _ List.mem_cons_self)).symm
    exact lv_tableOut h0.1 h0.2.1 hd h ht (ko _ h ht p e s m args below meth c H locs ls A h0 h1)
  · have h2 : ¬ x.toInt < lo := fun q => h (Or.inl q)
    have h3 : ¬ hi < x.toInt := fun q => h (Or.inr q)
    have hi4 : (x.toInt - lo).toNat < offs.size := by omega
    have ho : offs[(x.toInt - lo).toNat]? = some offs[(x.toInt - lo).toNat] := Array.getElem?_eq_getElem hi4
    have ht : (pc : Int) + offs[(x.toInt - lo).toNat] = (((pc : Int) + offs[(x.toInt - lo).toNat]).toNat : Int) := (Int.toNat_of_nonneg (hn _ (List.mem_cons_of_mem _ (by simp)))).symm
    exact lv_tableIn h0.1 h0.2.1 hd h2 h3 ho ht (ki _ _ h2 h3 ho ht p e s m args below meth c H locs ls A h0 h1)
theorem z_lookup {dflt : Int} {ps : Array (Int × Int)} {len : Nat} {x : Int32} {off : Int} {tgt : Nat} (hd : decode y.2.1 pc = .ok (.lookupswitch dflt ps, len)) (hp : (ps.toList.zip (ps.toList.drop 1)).all (fun (a, next) => a.1 < next.1) = true) (hof : Op.lookupswitch.offset ps.toList dflt x.toInt = off) (htg : (pc : Int) + off = (tgt : Int))
    (kk : Z l D dA ad sh y R X Q mc ms cells slots xw tgt L S μ ν) : Z l D dA ad sh y R X Q mc ms cells slots xw pc L (.int x :: S) μ ν :=
  Z.row (fun p e s m args below meth c H locs ls A Qs hx hb ht ho hX h1 k => lv_lookup hx hb hd hp hof htg k) kk
/-! names for what has been reckoned -/
theorem z_topi {x : Int32} (kk : ∀ v, v = x → Z l D dA ad sh y R X Q mc ms cells slots xw pc L (.int v :: S) μ ν) : Z l D dA ad sh y R X Q mc ms cells slots xw pc L (.int x :: S) μ ν := kk x rfl
theorem z_mem (kk : ∀ μ', μ' = μ → Z l D dA ad sh y R X Q mc ms cells slots xw pc L S μ' ν) : Z l D dA ad sh y R X Q mc ms cells slots xw pc L S μ ν := kk μ rfl
theorem z_eqi {x v : Int32} (h : x = v) (kk : Z l D dA ad sh y R X Q mc ms cells slots xw pc L (.int v :: S) μ ν) : Z l D dA ad sh y R X Q mc ms cells slots xw pc L (.int x :: S) μ ν := h ▸ kk
theorem z_eqm {μ' : zI} (h : μ = μ') (kk : Z l D dA ad sh y R X Q mc ms cells slots xw pc L S μ' ν) : Z l D dA ad sh y R X Q mc ms cells slots xw pc L S μ ν := h ▸ kk
theorem z_sub (ks : List Nat) {L' : List (Nat × Value)} (h : lv_pick L ks = L') (kk : Z l D dA ad sh y R X Q mc ms cells slots xw pc L' S μ ν) : Z l D dA ad sh y R X Q mc ms cells slots xw pc L S μ ν := by
  intro p e s m args below meth c H locs ls A h0 h1
  exact kk p e s m args below meth c H locs ls A h0 ⟨h1.1, h1.2.1, h1.2.2.1, h1.2.2.2.1, lv_sub h1.2.2.2.2 ks h⟩
theorem z_wide {k n : Nat} (h1 : cells ≤ k) (h2 : slots ≤ n) (kk : Z l D dA ad sh y R X Q mc ms k n xw pc L S μ ν) : Z l D dA ad sh y R X Q mc ms cells slots xw pc L S μ ν :=
  fun p e s m args below meth c H locs ls A h0 h3 => W.widen h1 h2 (kk p e s m args below meth c H locs ls A h0 h3)
/-! ## fields -/
def zCls (C : String) (T : u_T) (N : Nat) : Prop := (∀ w ∈ u_ws C T N, w ∈ TB) ∧ (∃ ty : Nat → FieldType, ∀ k, k < N → parseFieldDescriptor (T k).2.2.1 = some (ty k)) ∧ ∀ a, a < N → ∀ b, b < N → a ≠ b → (T a).2.1 ≠ (T b).2.1
def zFld (own : String) (index ci k : Nat) (ty : FieldType) : Prop := ∃ (C : String) (T : u_T) (N : Nat), CL[ci]? = some (C, T, N) ∧ k < N ∧ zCls C T N ∧ Cond.fieldLink own index (T k).1 (T k).2.1 (T k).2.2.1 ∈ TB ∧ parseFieldDescriptor (T k).2.2.1 = some ty
theorem z_get0 {idx ci k r fk : Nat} {ty : FieldType} {fks : List Nat} (hd : decode y.2.1 pc = .ok (.getfield idx, 3)) (hf : zFld y.1.cls idx ci k ty) (hs : sh[r]? = some (.inl (ci, fks))) (hk : fks[k]? = some fk)
    (kk : Z l D dA ad sh y R X Q mc ms cells slots xw (pc + 3) L (zf ad (μ r k) fk :: S) μ ν) : Z l D dA ad sh y R X Q mc ms cells slots xw pc L (.ref (ad r) :: S) μ ν := by
  obtain ⟨C, T, N, hc, hkN, ⟨hin, -, -⟩, hl, -⟩ := hf
  exact Z.row (fun p e s m args below meth c H locs ls A Qs hx hb ht ho hX h1 k9 => va_get hx hb ht hin ho h1.2.2.1 h1.2.1 r (zwd_at hs) hc k hkN (ht _ hl) (fun x h => h) (zF_at hk) hd k9) kk
theorem z_get {idx ci k r : Nat} {ty : FieldType} {fks : List Nat} (hd : decode y.2.1 pc = .ok (.getfield idx, 3)) (hf : zFld y.1.cls idx ci k ty) (hs : sh[r]? = some (.inl (ci, fks))) (hk : fks[k]? = some 0)
    (kk : Z l D dA ad sh y R X Q mc ms cells slots xw (pc + 3) L (.int (μ r k) :: S) μ ν) : Z l D dA ad sh y R X Q mc ms cells slots xw pc L (.ref (ad r) :: S) μ ν := z_get0 hd hf hs hk kk
theorem z_getr {idx ci k r q : Nat} {ty : FieldType} {fks : List Nat} (hd : decode y.2.1 pc = .ok (.getfield idx, 3)) (hf : zFld y.1.cls idx ci k ty) (hs : sh[r]? = some (.inl (ci, fks))) (hk : fks[k]? = some (q + 2))
    (kk : Z l D dA ad sh y R X Q mc ms cells slots xw (pc + 3) L (.ref (ad q) :: S) μ ν) : Z l D dA ad sh y R X Q mc ms cells slots xw pc L (.ref (ad r) :: S) μ ν := z_get0 hd hf hs hk kk
theorem z_put {idx ci k r : Nat} {ty : FieldType} {fks : List Nat} {v : Int32} (hd : decode y.2.1 pc = .ok (.putfield idx, 3)) (hf : zFld y.1.cls idx ci k ty) (hs : sh[r]? = some (.inl (ci, fks))) (hk : fks[k]? = some 0) (hfin : ∀ C T N, CL[ci]? = some (C, T, N) → (T k).2.2.2 = false) (hn : narrow ty (.int v) = .int v) (hft : fits ty (.int v) = true)
    (kk : Z l D dA ad sh y R X Q mc ms cells slots xw (pc + 3) L S (zu μ r k v) ν) : Z l D dA ad sh y R X Q mc ms cells slots xw pc L (.int v :: .ref (ad r) :: S) μ ν := by
  obtain ⟨C, T, N, hc, hkN, ⟨hin, ⟨ty0, hty⟩, hnm⟩, hl, hp⟩ := hf
  intro p e s m args below meth c H locs ls A h0 h1
  obtain ⟨hx, hb, -, -, ht, ho, -⟩ := id h0
  obtain ⟨hS, hP, hK, hD, hll⟩ := h1
  refine va_put hx hb ht hin ty0 hty hnm ho hK hP hD hS r (zwd_at hs) hc k hkN (ht _ hl) (fun x h => h) (hfin C T N hc) hp hn hft (by rw [List.length_mapIdx]; exact (List.getElem?_eq_some_iff.mp hk).1) hd (fun H1 locs1 hP1 hD1 hS1 => ?_)
  rw [zwd_set (μ' := zu μ r k v) (ν' := ν) hs (by rw [zu_row]; exact zE_put hk) (fun q hq => zu_off μ r k v hq) (fun _ _ => rfl)] at hP1 hD1
  exact kk p e s m args below meth c H1 locs1 ls A h0 ⟨hS1, hP1, hK, hD1, hll⟩
/-! ## arrays -/
theorem z_iald {r n : Nat} {i : Int32} (hd : decode y.2.1 pc = .ok (.iaload, 1)) (hs : sh[r]? = some (.inr (0, n))) (hin : vp_in i n)
    (kk : Z l D dA ad sh y R X Q mc ms cells slots xw (pc + 1) L (.int (μ r i.toNatClampNeg) :: S) μ ν) : Z l D dA ad sh y R X Q mc ms cells slots xw pc L (.int i :: .ref (ad r) :: S) μ ν :=
  Z.row (fun p e s m args below meth c H locs ls A Qs hx hb ht ho hX h1 k9 => va_iald hx hb h1.2.2.1 h1.2.1 r 0 (zwd_at hs) rfl hin hd k9) kk
theorem z_bald {r n : Nat} {i : Int32} (hd : decode y.2.1 pc = .ok (.baload, 1)) (hs : sh[r]? = some (.inr (2, n))) (hin : vp_in i n)
    (kk : Z l D dA ad sh y R X Q mc ms cells slots xw (pc + 1) L (.int (μ r i.toNatClampNeg) :: S) μ ν) : Z l D dA ad sh y R X Q mc ms cells slots xw pc L (.int i :: .ref (ad r) :: S) μ ν :=
  Z.row (fun p e s m args below meth c H locs ls A Qs hx hb ht ho hX h1 k9 => va_bald hx hb h1.2.2.1 h1.2.1 r 2 (zwd_at hs) rfl hin hd k9) kk
theorem z_zald {r n : Nat} {i : Int32} (hd : decode y.2.1 pc = .ok (.baload, 1)) (hs : sh[r]? = some (.inr (3, n))) (hin : vp_in i n)
    (kk : Z l D dA ad sh y R X Q mc ms cells slots xw (pc + 1) L (.int (μ r i.toNatClampNeg) :: S) μ ν) : Z l D dA ad sh y R X Q mc ms cells slots xw pc L (.int i :: .ref (ad r) :: S) μ ν :=
  Z.row (fun p e s m args below meth c H locs ls A Qs hx hb ht ho hX h1 k9 => va_zald hx hb h1.2.2.1 h1.2.1 r 3 (zwd_at hs) rfl hin hd k9) kk
theorem z_lald {r n : Nat} {i : Int32} (hd : decode y.2.1 pc = .ok (.laload, 1)) (hs : sh[r]? = some (.inr (1, n))) (hin : vp_in i n)
    (kk : Z l D dA ad sh y R X Q mc ms cells slots xw (pc + 1) L (.long (ν r i.toNatClampNeg) :: S) μ ν) : Z l D dA ad sh y R X Q mc ms cells slots xw pc L (.int i :: .ref (ad r) :: S) μ ν :=
  Z.row (fun p e s m args below meth c H locs ls A Qs hx hb ht ho hX h1 k9 => va_lald hx hb h1.2.2.1 h1.2.1 r 1 (zwd_at hs) rfl hin hd k9) kk
theorem z_iast {r n : Nat} {i v : Int32} (hd : decode y.2.1 pc = .ok (.iastore, 1)) (hs : sh[r]? = some (.inr (0, n))) (hin : vp_in i n)
    (kk : Z l D dA ad sh y R X Q mc ms cells slots xw (pc + 1) L S (zu μ r i.toNatClampNeg v) ν) : Z l D dA ad sh y R X Q mc ms cells slots xw pc L (.int v :: .int i :: .ref (ad r) :: S) μ ν := by
  intro p e s m args below meth c H locs ls A h0 h1
  obtain ⟨hS, hP, hK, hD, hll⟩ := h1
  refine va_iast h0.1 h0.2.1 hK hP hD hS r 0 (zwd_at hs) rfl hin hd (fun H1 locs1 hP1 hD1 hS1 => ?_)
  rw [zwd_set (μ' := zu μ r i.toNatClampNeg v) (ν' := ν) hs (by rw [zu_row]; rfl) (fun q hq => zu_off μ r _ v hq) (fun _ _ => rfl)] at hP1 hD1
  exact kk p e s m args below meth c H1 locs1 ls A h0 ⟨hS1, hP1, hK, hD1, hll⟩
theorem z_bast {r n : Nat} {i v : Int32} (hd : decode y.2.1 pc = .ok (.bastore, 1)) (hs : sh[r]? = some (.inr (2, n))) (hin : vp_in i n)
    (kk : Z l D dA ad sh y R X Q mc ms cells slots xw (pc + 1) L S (zu μ r i.toNatClampNeg (vp_nar .byte v)) ν) : Z l D dA ad sh y R X Q mc ms cells slots xw pc L (.int v :: .int i :: .ref (ad r) :: S) μ ν := by
  intro p e s m args below meth c H locs ls A h0 h1
  obtain ⟨hS, hP, hK, hD, hll⟩ := h1
  refine va_bast h0.1 h0.2.1 hK hP hD hS r 2 (zwd_at hs) rfl hin hd (fun H1 locs1 hP1 hD1 hS1 => ?_)
  rw [zwd_set (μ' := zu μ r i.toNatClampNeg (vp_nar .byte v)) (ν' := ν) hs (by rw [zu_row]; rfl) (fun q hq => zu_off μ r _ _ hq) (fun _ _ => rfl)] at hP1 hD1
  exact kk p e s m args below meth c H1 locs1 ls A h0 ⟨hS1, hP1, hK, hD1, hll⟩
theorem z_zast {r n : Nat} {i v : Int32} (hd : decode y.2.1 pc = .ok (.bastore, 1)) (hs : sh[r]? = some (.inr (3, n))) (hin : vp_in i n)
    (kk : Z l D dA ad sh y R X Q mc ms cells slots xw (pc + 1) L S (zu μ r i.toNatClampNeg (vp_nar .boolean v)) ν) : Z l D dA ad sh y R X Q mc ms cells slots xw pc L (.int v :: .int i :: .ref (ad r) :: S) μ ν := by
  intro p e s m args below meth c H locs ls A h0 h1
  obtain ⟨hS, hP, hK, hD, hll⟩ := h1
  refine va_zast h0.1 h0.2.1 hK hP hD hS r 3 (zwd_at hs) rfl hin hd (fun H1 locs1 hP1 hD1 hS1 => ?_)
  rw [zwd_set (μ' := zu μ r i.toNatClampNeg (vp_nar .boolean v)) (ν' := ν) hs (by rw [zu_row]; rfl) (fun q hq => zu_off μ r _ _ hq) (fun _ _ => rfl)] at hP1 hD1
  exact kk p e s m args below meth c H1 locs1 ls A h0 ⟨hS1, hP1, hK, hD1, hll⟩
theorem z_last {r n : Nat} {i : Int32} {v : Int64} (hd : decode y.2.1 pc = .ok (.lastore, 1)) (hs : sh[r]? = some (.inr (1, n))) (hin : vp_in i n)
    (kk : Z l D dA ad sh y R X Q mc ms cells slots xw (pc + 1) L S μ (zul ν r i.toNatClampNeg v)) : Z l D dA ad sh y R X Q mc ms cells slots xw pc L (.long v :: .int i :: .ref (ad r) :: S) μ ν := by
  intro p e s m args below meth c H locs ls A h0 h1
  obtain ⟨hS, hP, hK, hD, hll⟩ := h1
  refine va_last h0.1 h0.2.1 hK hP hD hS r 1 (zwd_at hs) rfl hin hd (fun H1 locs1 hP1 hD1 hS1 => ?_)
  rw [zwd_set (μ' := μ) (ν' := zul ν r i.toNatClampNeg v) hs (by rw [zul_row]; rfl) (fun _ _ => rfl) (fun q hq => zul_off ν r _ v hq)] at hP1 hD1
  exact kk p e s m args below meth c H1 locs1 ls A h0 ⟨hS1, hP1, hK, hD1, hll⟩
/-! ## the ends -/
theorem z_ret0 {o : Option Value} {g : JFrame} (hq : Q o μ ν) (h : ∀ (p : Program) (e : Env) (s : State) (m : MethodId) (args : Array Value) (below : List Frame) (meth : Method) (c : Code) (H : Heap) (locs : List Loc) (ls : Array Slot) (A : Nat → Prop) (Qc : Array Value → State → Outcome → State → Prop), p.tables.exec = Jvm.exec → c.code = y.2.1 → meth.sig.returnType = y.2.2.2 → meth.locks = false → (∀ t : State, t.heap = H → s.WarmedH t.vm → Qc args s (.returned o) t) → (∀ q ∈ locs, A q.base) → W p l e R s m args below meth c H locs mc ms (MQ below Qc args s mc ms A) (F0 m pc ls S)) : Z l D dA ad sh y R X Q mc ms mc ms xw pc L S μ ν := by
  intro p e s m args below meth c H locs ls A h0 h1
  obtain ⟨hx, hb, hm, hr, ht, ho, hk, hA, hX⟩ := h0
  obtain ⟨hS, hP, hK, hD, hll⟩ := h1
  refine h p e s m args below meth c H locs ls A (zQ D dA ad sh Q A) hx hb hr hk (fun t ht hW => ⟨⟨o, μ, ν, rfl, hq, ?_, va_K.moved hW.alike hK, ?_⟩, hS.F ht⟩) hS.2.2
  · rw [ht]
    intro k q hk
    exact hP k q (by rw [List.getElem?_append_left (List.getElem?_eq_some_iff.mp hk).1]; exact hk)
  · refine ⟨fun i j p q hi hj e => hD.1 i j p q ?_ ?_ e, fun k q hk => hD.2 k q ?_⟩
    · rw [List.getElem?_append_left (List.getElem?_eq_some_iff.mp hi).1]; exact hi
    · rw [List.getElem?_append_left (List.getElem?_eq_some_iff.mp hj).1]; exact hj
    · rw [List.getElem?_append_left (List.getElem?_eq_some_iff.mp hk).1]; exact hk
theorem z_ireturn {v : Int32} {ty : FieldType} (hd : decode y.2.1 pc = .ok (.ireturn, 1)) (hr : y.2.2.2 = some ty) (hn : narrow ty (.int v) = .int v) (hq : Q (some (.int v)) μ ν) : Z l D dA ad sh y R X Q mc ms mc ms xw pc L [.int v] μ ν :=
  z_ret0 (g := F0 default 0 #[] []) hq (fun p e s m args below meth c H locs ls A Qc hx hb hrt hk h1 h2 => W.zret hx hb (hrt.trans hr) hn h1 h2 hd hk)
theorem z_lreturn {v : Int64} (hd : decode y.2.1 pc = .ok (.lreturn, 1)) (hr : y.2.2.2 = some .long) (hq : Q (some (.long v)) μ ν) : Z l D dA ad sh y R X Q mc ms mc ms xw pc L [.long v] μ ν :=
  z_ret0 (g := F0 default 0 #[] []) hq (fun p e s m args below meth c H locs ls A Qc hx hb hrt hk h1 h2 => W.lret hx hb (hrt.trans hr) h1 h2 hd hk)
theorem z_return (hd : decode y.2.1 pc = .ok (.return_, 1)) (hr : y.2.2.2 = none) (hq : Q none μ ν) : Z l D dA ad sh y R X Q mc ms mc ms xw pc L [] μ ν :=
  z_ret0 (g := F0 default 0 #[] []) hq (fun p e s m args below meth c H locs ls A Qc hx hb hrt hk h1 h2 => W.vret hx hb (hrt.trans hr) h1 h2 hd hk)
theorem z_areturn {v : Nat} {rt : FieldType} (hd : decode y.2.1 pc = .ok (.areturn, 1)) (hr : y.2.2.2 = some rt) (hrt2 : (∃ n, rt = .object n) ∨ ∃ t, rt = .array t) (hq : Q (some (.ref v)) μ ν) : Z l D dA ad sh y R X Q mc ms mc ms xw pc L [.ref v] μ ν :=
  z_ret0 (g := F0 default 0 #[] []) hq (fun p e s m args below meth c H locs ls A Qc hx hb hrt hk h1 h2 => W.aret hx hb (hrt.trans hr) hrt2 (Or.inr ⟨v, rfl⟩) h1 h2 hd hk)
end ZR
