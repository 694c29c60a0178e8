/-! The start's standing facts, out of the Statement. -/
theorem va_T_congr {ty : FieldType} {t N : Nat} {f g : Nat → Value} {A : Nat → Prop} {U : State} {H : Heap} (h : va_T ty t N f A U H) (e : ∀ j, j < N → g j = f j) : va_T ty t N g A U H := by
  unfold va_T at h ⊢
  obtain ⟨cell, h1, h2, h3, h4, h5, h6, h7⟩ := h
  exact ⟨cell, h1, h2, h3, h4, h5, fun j hj => by rw [e j hj]; exact h6 j hj, h7⟩
theorem va_En_congr {E d : String} {nm : List String} {F : List (String × String × String × List Int32)} {ad ad' : Nat → Nat} {A : Nat → Prop} {U : State} {H : Heap} (h : va_En E d nm F ad A U H) (e : ∀ i, i < nm.length → ad' i = ad i) : va_En E d nm F ad' A U H := by
  refine ⟨fun i hi => ?_, fun i j hi hj hij => ?_⟩
  · rw [e i hi]; exact h.1 i hi
  · rw [e i hi, e j hj] at hij; exact h.2 i j hi hj hij
theorem vk_S_congr {N : Nat} {len : List Nat} {byt : List (List Int32)} {k k' v v' : Nat → Nat} {A : Nat → Prop} {U : State} {H : Heap} (h : vk_S N len byt k v A U H) (e : ∀ i, i < N → k' i = k i ∧ v' i = v i) : vk_S N len byt k' v' A U H := by
  refine ⟨fun i hi => ?_, fun i j hi hj hij => ?_⟩
  · rw [(e i hi).1, (e i hi).2]; exact h.1 i hi
  · rw [(e i hi).1, (e j hj).1] at hij; exact h.2 i j hi hj hij
theorem al2 {n : Nat} {P : Nat → Bool} (h : ((List.range n).all P) = true) {i : Nat} (hi : i < n) : P i = true := List.all_eq_true.mp h i (List.mem_range.mpr hi)
theorem mem_tab {k : Nat} {q : String × String × List Int32} (h : zTabs[k]? = some q) : q ∈ zTabs := List.mem_of_getElem? h
theorem zl_14 : ∀ i, i < 14 → (zStrs.map List.length).getD i 0 < 2 ^ 31 := by decide
theorem zl_tab : ∀ q ∈ zTabs, q.2.2.length < 2 ^ 31 := by decide
theorem mm_1 : decide (Cond.initialized "SunPoint$Word" ∈ tables_1) = true ∧ decide (Cond.laysStatic "SunPoint$Reader" "WORDS" "[LSunPoint$Word;" ∈ tables_1) = true ∧ decide (Cond.initialized "SunPoint$Reader" ∈ tables_1) = true := ⟨by decide +kernel, by decide +kernel, by decide +kernel⟩
theorem mm_2 : decide (Cond.laysStatic "java/lang/String" "COMPACT_STRINGS" "Z" ∈ tables_1) = true ∧ decide (Cond.initialized "java/lang/String" ∈ tables_1) = true ∧ decide (Cond.laysStatic "jdk/internal/util/Preconditions" "SIOOBE_FORMATTER" "Ljava/util/function/BiFunction;" ∈ tables_1) = true ∧ decide (Cond.initialized "jdk/internal/util/Preconditions" ∈ tables_1) = true := ⟨by decide +kernel, by decide +kernel, by decide +kernel, by decide +kernel⟩
theorem mm_3 : decide (Cond.laysStatic Bundle.tN "UNASSIGNED_STACK" Bundle.steD ∈ tables_1) = true ∧ decide (Cond.laysStatic Bundle.tN "SUPPRESSED_SENTINEL" Bundle.listD ∈ tables_1) = true ∧ decide (Cond.initialized Bundle.tN ∈ tables_1) = true ∧ decide (Cond.castable nIO nIO ∈ tables_1) = true ∧ decide (Cond.castable nNS nNS ∈ tables_1) = true := ⟨by decide +kernel, by decide +kernel, by decide +kernel, by decide +kernel, by decide +kernel⟩
theorem mm_4 : (exL.all fun x => decide (Cond.declares x ∈ tables_1)) = true := by decide +kernel
theorem mm_5 : decide (Cond.stringRef "SunPointModel" 91 "battery stages inverter follow way module at light grid tune " ∈ tables_1) = true ∧ decide (Cond.stringRef "SunPoint" 159 "no such module" ∈ tables_1) = true ∧ decide (Cond.stringRef "SunPoint" 175 "no such what" ∈ tables_1) = true := ⟨by decide +kernel, by decide +kernel, by decide +kernel⟩
theorem mm_6 : decide (Cond.arrayOf tWs (.object "SunPoint$Word") ∈ nFL) = true ∧ decide (Cond.eq (.length tWs) (.int 11) ∈ nFL) = true ∧ decide (Cond.eq (.static "java/lang/String" "COMPACT_STRINGS" "Z") (.int 1) ∈ nFL) = true ∧ decide (Cond.isRef (.static "jdk/internal/util/Preconditions" "SIOOBE_FORMATTER" "Ljava/util/function/BiFunction;") ∈ nFL) = true := ⟨by decide +kernel, by decide +kernel, by decide +kernel, by decide +kernel⟩
theorem mm_7 : decide (Cond.isRef (.static Bundle.tN "UNASSIGNED_STACK" Bundle.steD) ∈ nFL) = true ∧ decide (Cond.isRef (.static Bundle.tN "SUPPRESSED_SENTINEL" Bundle.listD) ∈ nFL) = true ∧ decide (Cond.not (.castable nNS nIO) ∈ nFL) = true := ⟨by decide +kernel, by decide +kernel, by decide +kernel⟩
theorem st_zX {args : Array Value} {s : State} (tb : ∀ w ∈ tables_1, w.before args s = true) (hn : ∀ w ∈ nFL, w.before args s = true) : ∃ ad : Nat → Nat, zX ad (fun q => s.heap.size ≤ q) s := by
  have hA : ∀ a : Nat, a < s.heap.size → ¬ (fun q : Nat => s.heap.size ≤ q) a := fun a h => Nat.not_le.mpr h
  have T : ∀ {w : Cond}, decide (w ∈ tables_1) = true → w.before args s = true := fun h => tb _ (of_decide_eq_true h)
  have F : ∀ {w : Cond}, decide (w ∈ nFL) = true → w.before args s = true := fun h => hn _ (of_decide_eq_true h)
  -- the tables
  have tabs : ∀ k : Nat, ∃ t : Nat, ∀ q, zTabs[k]? = some q → va_Z q.1 q.2.1 "[I" (.ref t) (fun q => s.heap.size ≤ q) s s.heap ∧ va_T .int t q.2.2.length (fun j => .int (q.2.2.getD j 0)) (fun q => s.heap.size ≤ q) s s.heap := by
    intro k
    cases hq : zTabs[k]? with
    | none => exact ⟨0, fun q h => by cases h⟩
    | some q =>
      have hm := mem_tab hq
      have a1 := List.all_eq_true.mp n_tab1 q hm
      have a2 := List.all_eq_true.mp n_tab2 q hm
      have a3 := List.all_eq_true.mp n_tab3 q hm
      rw [Bool.and_eq_true] at a1 a3
      obtain ⟨t, ht, hT⟩ := va_Tof (tm := tTb q) (f := fun j => .int (q.2.2.getD j 0)) (zl_tab q hm) (F a1.1) (va_eqt (F a1.2)) (fun j hj => va_eqt (F (al2 a2 hj))) hA
      refine ⟨t, fun q' h => ?_⟩
      cases h
      exact ⟨va_Zof (T a3.1) (T a3.2) ht hA, hT⟩
  obtain ⟨tk, htk⟩ := Classical.skolem.mp tabs
  -- the words
  have en2 : ∀ q ∈ zWf, ∀ i, i < zWd.length → (Cond.eq (.field (.static "SunPoint$Word" (zWd.getD i "") "LSunPoint$Word;") q.1 q.2.1 q.2.2.1) (.int (q.2.2.2.getD i 0))).before args s = true := fun q hq i hi => F (al2 (List.all_eq_true.mp n_en2 q hq) hi)
  obtain ⟨adE, hE, evE⟩ := va_Enof2 (E := "SunPoint$Word") (d := "LSunPoint$Word;") (nm := zWd) (F := zWf) (fun i hi => T ((Bool.and_eq_true _ _).mp (al2 n_en1 hi)).2) (T mm_1.1) (fun i hi => F ((Bool.and_eq_true _ _).mp (al2 n_en1 hi)).1) en2 (fun i j hi hj hij => by
    have h := al2 (n_en3 hi) hj
    rw [Bool.or_eq_true, Bool.or_eq_true, decide_eq_true_eq] at h
    rcases h with h | h | h
    · exact absurd h hij
    · exact Or.inl (F h)
    · exact Or.inr (F h)) hA
  obtain ⟨tw, hw, hwT⟩ := va_Tof (tm := tWs) (ty := .object "SunPoint$Word") (N := 11) (f := fun j => .ref (adE j)) (by decide) (F mm_6.1) (va_eqt (F mm_6.2.1)) (fun j hj => va_eqv (F (al2 n_ws hj)) (evE j hj)) hA
  -- the texts
  obtain ⟨adK, adV, hS, evS⟩ := vk_Sof (N := 14) (tm := tSt) (len := zStrs.map List.length) (byt := zStrs) zl_14 (fun i hi => by
      have h := al2 n_st1 hi
      rw [Bool.and_eq_true, Bool.and_eq_true, Bool.and_eq_true] at h
      exact F h.1.1.1) (fun i hi => by
      have h := al2 n_st1 hi
      rw [Bool.and_eq_true, Bool.and_eq_true, Bool.and_eq_true] at h
      exact F h.1.1.2) (fun i hi => by
      have h := al2 n_st1 hi
      rw [Bool.and_eq_true, Bool.and_eq_true, Bool.and_eq_true] at h
      exact F h.1.2) (fun i hi => by
      have h := al2 n_st1 hi
      rw [Bool.and_eq_true, Bool.and_eq_true, Bool.and_eq_true] at h
      exact F h.2) (fun i hi j hj => hn _ (n_st2 hi hj)) (fun i j hi hj hij => by
      have h := al2 (n_st3 hi) hj
      rw [Bool.or_eq_true, Bool.or_eq_true, decide_eq_true_eq] at h
      rcases h with h | h | h
      · exact absurd h hij
      · exact Or.inl (F h)
      · exact Or.inr (F h)) hA
  have hEf : va_Ef 11 "SunPoint$Word" "letters" "Ljava/lang/String;" (fun i => .ref (adK i)) adE (fun q => s.heap.size ≤ q) s s.heap := va_Efof (nm := zWd) (d0 := "LSunPoint$Word;") (tm := tSt) evE (fun i hi => F (al2 n_en4 hi)) (fun i hi => evS i (by omega)) hA
  -- one numbering
  obtain ⟨ad, had⟩ : ∃ ad : Nat → Nat, ad = fun r => if r < 1000010 then tk (r - 1000000) else if r = 1000010 then tw else if r < 1000200 then adE (r - 1000100) else if r < 1000300 then adK (r - 1000200) else adV (r - 1000300) := ⟨_, rfl⟩
  have d0 : ∀ k, k < 10 → ad (1000000 + k) = tk k := fun k hk => by
    rw [had]; dsimp only
    rw [if_pos (by omega), Nat.add_sub_cancel_left]
  have d1 : ad 1000010 = tw := by
    rw [had]; dsimp only
    rw [if_neg (by omega), if_pos rfl]
  have d2 : ∀ k, k < 100 → ad (1000100 + k) = adE k := fun k hk => by
    rw [had]; dsimp only
    rw [if_neg (by omega), if_neg (by omega), if_pos (by omega), Nat.add_sub_cancel_left]
  have d3 : ∀ k, k < 100 → ad (1000200 + k) = adK k := fun k hk => by
    rw [had]; dsimp only
    rw [if_neg (by omega), if_neg (by omega), if_neg (by omega), if_pos (by omega), Nat.add_sub_cancel_left]
  have d4 : ∀ k, ad (1000300 + k) = adV k := fun k => by
    rw [had]; dsimp only
    rw [if_neg (by omega), if_neg (by omega), if_neg (by omega), if_neg (by omega), Nat.add_sub_cancel_left]
  refine ⟨ad, ⟨fun k q hk => ?_, fun q hq => va_Nw.of rfl (T (List.all_eq_true.mp n_nest q hq)), ⟨?_, ?_⟩, va_En_congr hE (fun i hi => d2 i (Nat.lt_trans (show i < 11 from hi) (by decide))), fun i hi => ?_, vk_S_congr hS (fun i hi => ⟨d3 i (by omega), d4 i⟩), ⟨?_, ?_, ?_⟩, va_Zof (T mm_2.1) (T mm_2.2.1) (va_eqt (F mm_6.2.2.1)) hA, va_Zqof (T mm_2.2.2.1) (T mm_2.2.2.2) (F mm_6.2.2.2) hA⟩, vx_Zqof (T mm_3.1) (T mm_3.2.2.1) (F mm_7.1) hA, vx_Zqof (T mm_3.2.1) (T mm_3.2.2.1) (F mm_7.2.1) hA, va_Nw.of rfl (T mm_3.2.2.2.1), va_Nw.of rfl (T mm_3.2.2.2.2), va_Nc.of (F mm_7.2.2), fun x hx => va_Nw.of rfl (T (List.all_eq_true.mp mm_4 x hx))⟩
  · have hk4 : k < 4 := (List.getElem?_eq_some_iff.mp hk).1
    rw [d0 k (by omega)]
    exact htk k q hk
  · rw [d1]
    exact va_Zof (T mm_1.2.1) (T mm_1.2.2) hw hA
  · rw [d1]
    exact va_T_congr hwT (fun j hj => by rw [d2 j (by omega)])
  · dsimp only
    rw [d2 i (by omega), d3 i (by omega)]
    exact hEf i hi
  · rw [show (1000211 : Nat) = 1000200 + 11 from rfl, d3 11 (by decide)]
    exact vk_R.of (T mm_5.1) (evS 11 (by decide))
  · rw [show (1000212 : Nat) = 1000200 + 12 from rfl, d3 12 (by decide)]
    exact vk_R.of (T mm_5.2.1) (evS 12 (by decide))
  · rw [show (1000213 : Nat) = 1000200 + 13 from rfl, d3 13 (by decide)]
    exact vk_R.of (T mm_5.2.2) (evS 13 (by decide))
