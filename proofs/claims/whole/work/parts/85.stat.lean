/-! What stands at the start: tables, words, texts. -/
def nFL : List Cond := flatC (Jvm.Cond.and given_1 narrow_1)
def tTb (q : String × String × List Int32) : Term := .static q.1 q.2.1 "[I"
def tEn (i : Nat) : Term := .static "SunPoint$Word" (zWd.getD i "") "LSunPoint$Word;"
def tWs : Term := .static "SunPoint$Reader" "WORDS" "[LSunPoint$Word;"
def strT : List Term := [.string "SunPoint$Word" 70, .string "SunPoint$Word" 76, .string "SunPoint$Word" 81, .string "SunPoint$Word" 84, .string "SunPoint$Word" 87, .string "SunPoint$Word" 90, .string "SunPoint$Word" 93, .string "SunPoint$Word" 96, .string "SunPoint$Word" 99, .string "SunPoint$Word" 102, .string "SunPoint$Word" 105, .string "SunPointModel" 91, .string "SunPoint" 159, .string "SunPoint" 175]
def tSt (i : Nat) : Term := strT.getD i (.arg 0)
def tVl (i : Nat) : Term := .field (tSt i) "java/lang/String" "value" "[B"
theorem n_tab1 : (zTabs.all fun q => decide (Cond.arrayOf (tTb q) .int ∈ nFL) && decide (Cond.eq (.length (tTb q)) (.int (Int32.ofNat q.2.2.length)) ∈ nFL)) = true := by decide +kernel
theorem n_tab2 : (zTabs.all fun q => (List.range q.2.2.length).all fun j => decide (Cond.eq (.elem (tTb q) (.int (Int32.ofNat j))) (.int (q.2.2.getD j 0)) ∈ nFL)) = true := by decide +kernel
theorem n_tab3 : (zTabs.all fun q => decide (Cond.laysStatic q.1 q.2.1 "[I" ∈ tables_1) && decide (Cond.initialized q.1 ∈ tables_1)) = true := by decide +kernel
theorem n_nest : (zNest.all fun q => decide (Cond.methodLinkNest q.1 q.2.1 q.2.2.1 q.2.2.2 ∈ tables_1)) = true := by decide +kernel
theorem n_en1 : ((List.range 11).all fun i => decide (Cond.exactly (tEn i) "SunPoint$Word" ∈ nFL) && decide (Cond.laysStatic "SunPoint$Word" (zWd.getD i "") "LSunPoint$Word;" ∈ tables_1)) = true := by decide +kernel
theorem n_en2 : (zWf.all fun q => (List.range 11).all fun i => decide (Cond.eq (.field (tEn i) q.1 q.2.1 q.2.2.1) (.int (q.2.2.2.getD i 0)) ∈ nFL)) = true := by decide +kernel
theorem n_en3_0 : ((List.range 11).all fun j => decide (0 = j) || (decide (Cond.not (.eq (tEn 0) (tEn j)) ∈ nFL) || decide (Cond.not (.eq (tEn j) (tEn 0)) ∈ nFL))) = true := by decide +kernel
theorem n_en3_1 : ((List.range 11).all fun j => decide (1 = j) || (decide (Cond.not (.eq (tEn 1) (tEn j)) ∈ nFL) || decide (Cond.not (.eq (tEn j) (tEn 1)) ∈ nFL))) = true := by decide +kernel
theorem n_en3_2 : ((List.range 11).all fun j => decide (2 = j) || (decide (Cond.not (.eq (tEn 2) (tEn j)) ∈ nFL) || decide (Cond.not (.eq (tEn j) (tEn 2)) ∈ nFL))) = true := by decide +kernel
theorem n_en3_3 : ((List.range 11).all fun j => decide (3 = j) || (decide (Cond.not (.eq (tEn 3) (tEn j)) ∈ nFL) || decide (Cond.not (.eq (tEn j) (tEn 3)) ∈ nFL))) = true := by decide +kernel
theorem n_en3_4 : ((List.range 11).all fun j => decide (4 = j) || (decide (Cond.not (.eq (tEn 4) (tEn j)) ∈ nFL) || decide (Cond.not (.eq (tEn j) (tEn 4)) ∈ nFL))) = true := by decide +kernel
theorem n_en3_5 : ((List.range 11).all fun j => decide (5 = j) || (decide (Cond.not (.eq (tEn 5) (tEn j)) ∈ nFL) || decide (Cond.not (.eq (tEn j) (tEn 5)) ∈ nFL))) = true := by decide +kernel
theorem n_en3_6 : ((List.range 11).all fun j => decide (6 = j) || (decide (Cond.not (.eq (tEn 6) (tEn j)) ∈ nFL) || decide (Cond.not (.eq (tEn j) (tEn 6)) ∈ nFL))) = true := by decide +kernel
theorem n_en3_7 : ((List.range 11).all fun j => decide (7 = j) || (decide (Cond.not (.eq (tEn 7) (tEn j)) ∈ nFL) || decide (Cond.not (.eq (tEn j) (tEn 7)) ∈ nFL))) = true := by decide +kernel
theorem n_en3_8 : ((List.range 11).all fun j => decide (8 = j) || (decide (Cond.not (.eq (tEn 8) (tEn j)) ∈ nFL) || decide (Cond.not (.eq (tEn j) (tEn 8)) ∈ nFL))) = true := by decide +kernel
theorem n_en3_9 : ((List.range 11).all fun j => decide (9 = j) || (decide (Cond.not (.eq (tEn 9) (tEn j)) ∈ nFL) || decide (Cond.not (.eq (tEn j) (tEn 9)) ∈ nFL))) = true := by decide +kernel
theorem n_en3_10 : ((List.range 11).all fun j => decide (10 = j) || (decide (Cond.not (.eq (tEn 10) (tEn j)) ∈ nFL) || decide (Cond.not (.eq (tEn j) (tEn 10)) ∈ nFL))) = true := by decide +kernel
theorem n_en3 {i : Nat} (h : i < 11) : ((List.range 11).all fun j => decide (i = j) || (decide (Cond.not (.eq (tEn i) (tEn j)) ∈ nFL) || decide (Cond.not (.eq (tEn j) (tEn i)) ∈ nFL))) = true := by
  rcases (show i = 0 ∨ i = 1 ∨ i = 2 ∨ i = 3 ∨ i = 4 ∨ i = 5 ∨ i = 6 ∨ i = 7 ∨ i = 8 ∨ i = 9 ∨ i = 10 by omega) with rfl | rfl | rfl | rfl | rfl | rfl | rfl | rfl | rfl | rfl | rfl
  · exact n_en3_0
  · exact n_en3_1
  · exact n_en3_2
  · exact n_en3_3
  · exact n_en3_4
  · exact n_en3_5
  · exact n_en3_6
  · exact n_en3_7
  · exact n_en3_8
  · exact n_en3_9
  · exact n_en3_10
theorem n_en4 : ((List.range 11).all fun i => decide (Cond.eq (.field (tEn i) "SunPoint$Word" "letters" "Ljava/lang/String;") (tSt i) ∈ nFL)) = true := by decide +kernel
theorem n_ws : ((List.range 11).all fun i => decide (Cond.eq (.elem tWs (.int (Int32.ofNat i))) (tEn i) ∈ nFL)) = true := by decide +kernel
theorem n_st1 : ((List.range 14).all fun i => decide (Cond.exactly (tSt i) "java/lang/String" ∈ nFL) && decide (Cond.eq (.field (tSt i) "java/lang/String" "coder" "B") (.int 0) ∈ nFL) && decide (Cond.arrayOf (tVl i) .byte ∈ nFL) && decide (Cond.eq (.length (tVl i)) (.int (Int32.ofNat ((zStrs.map List.length).getD i 0))) ∈ nFL)) = true := by decide +kernel
theorem n_st2_0 : ((List.range ((zStrs.map List.length).getD 0 0)).all fun j => decide (Cond.eq (.elem (tVl 0) (.int (Int32.ofNat j))) (.int ((zStrs.getD 0 []).getD j 0)) ∈ nFL)) = true := by decide +kernel
theorem n_st2_1 : ((List.range ((zStrs.map List.length).getD 1 0)).all fun j => decide (Cond.eq (.elem (tVl 1) (.int (Int32.ofNat j))) (.int ((zStrs.getD 1 []).getD j 0)) ∈ nFL)) = true := by decide +kernel
theorem n_st2_2 : ((List.range ((zStrs.map List.length).getD 2 0)).all fun j => decide (Cond.eq (.elem (tVl 2) (.int (Int32.ofNat j))) (.int ((zStrs.getD 2 []).getD j 0)) ∈ nFL)) = true := by decide +kernel
theorem n_st2_3 : ((List.range ((zStrs.map List.length).getD 3 0)).all fun j => decide (Cond.eq (.elem (tVl 3) (.int (Int32.ofNat j))) (.int ((zStrs.getD 3 []).getD j 0)) ∈ nFL)) = true := by decide +kernel
theorem n_st2_4 : ((List.range ((zStrs.map List.length).getD 4 0)).all fun j => decide (Cond.eq (.elem (tVl 4) (.int (Int32.ofNat j))) (.int ((zStrs.getD 4 []).getD j 0)) ∈ nFL)) = true := by decide +kernel
theorem n_st2_5 : ((List.range ((zStrs.map List.length).getD 5 0)).all fun j => decide (Cond.eq (.elem (tVl 5) (.int (Int32.ofNat j))) (.int ((zStrs.getD 5 []).getD j 0)) ∈ nFL)) = true := by decide +kernel
theorem n_st2_6 : ((List.range ((zStrs.map List.length).getD 6 0)).all fun j => decide (Cond.eq (.elem (tVl 6) (.int (Int32.ofNat j))) (.int ((zStrs.getD 6 []).getD j 0)) ∈ nFL)) = true := by decide +kernel
theorem n_st2_7 : ((List.range ((zStrs.map List.length).getD 7 0)).all fun j => decide (Cond.eq (.elem (tVl 7) (.int (Int32.ofNat j))) (.int ((zStrs.getD 7 []).getD j 0)) ∈ nFL)) = true := by decide +kernel
theorem n_st2_8 : ((List.range ((zStrs.map List.length).getD 8 0)).all fun j => decide (Cond.eq (.elem (tVl 8) (.int (Int32.ofNat j))) (.int ((zStrs.getD 8 []).getD j 0)) ∈ nFL)) = true := by decide +kernel
theorem n_st2_9 : ((List.range ((zStrs.map List.length).getD 9 0)).all fun j => decide (Cond.eq (.elem (tVl 9) (.int (Int32.ofNat j))) (.int ((zStrs.getD 9 []).getD j 0)) ∈ nFL)) = true := by decide +kernel
theorem n_st2_10 : ((List.range ((zStrs.map List.length).getD 10 0)).all fun j => decide (Cond.eq (.elem (tVl 10) (.int (Int32.ofNat j))) (.int ((zStrs.getD 10 []).getD j 0)) ∈ nFL)) = true := by decide +kernel
theorem n_st2_12 : ((List.range ((zStrs.map List.length).getD 12 0)).all fun j => decide (Cond.eq (.elem (tVl 12) (.int (Int32.ofNat j))) (.int ((zStrs.getD 12 []).getD j 0)) ∈ nFL)) = true := by decide +kernel
theorem n_st2_13 : ((List.range ((zStrs.map List.length).getD 13 0)).all fun j => decide (Cond.eq (.elem (tVl 13) (.int (Int32.ofNat j))) (.int ((zStrs.getD 13 []).getD j 0)) ∈ nFL)) = true := by decide +kernel
theorem n_st2_11_0 : ((List.range 16).all fun j => decide (61 ≤ 0 + j) || decide (Cond.eq (.elem (tVl 11) (.int (Int32.ofNat (0 + j)))) (.int ((zStrs.getD 11 []).getD (0 + j) 0)) ∈ nFL)) = true := by decide +kernel
theorem n_st2_11_1 : ((List.range 16).all fun j => decide (61 ≤ 16 + j) || decide (Cond.eq (.elem (tVl 11) (.int (Int32.ofNat (16 + j)))) (.int ((zStrs.getD 11 []).getD (16 + j) 0)) ∈ nFL)) = true := by decide +kernel
theorem n_st2_11_2 : ((List.range 16).all fun j => decide (61 ≤ 32 + j) || decide (Cond.eq (.elem (tVl 11) (.int (Int32.ofNat (32 + j)))) (.int ((zStrs.getD 11 []).getD (32 + j) 0)) ∈ nFL)) = true := by decide +kernel
theorem n_st2_11_3 : ((List.range 16).all fun j => decide (61 ≤ 48 + j) || decide (Cond.eq (.elem (tVl 11) (.int (Int32.ofNat (48 + j)))) (.int ((zStrs.getD 11 []).getD (48 + j) 0)) ∈ nFL)) = true := by decide +kernel
theorem n_st2 {i j : Nat} (h : i < 14) (hj : j < (zStrs.map List.length).getD i 0) : Cond.eq (.elem (tVl i) (.int (Int32.ofNat j))) (.int ((zStrs.getD i []).getD j 0)) ∈ nFL := by
  have go : ∀ {n : Nat} {f : Nat → Cond}, ((List.range n).all fun j => decide (f j ∈ nFL)) = true → ∀ j, j < n → f j ∈ nFL := fun h j hj => of_decide_eq_true (List.all_eq_true.mp h j (List.mem_range.mpr hj))
  have g2 : ∀ {a : Nat}, ((List.range 16).all fun j => decide (61 ≤ a + j) || decide (Cond.eq (.elem (tVl 11) (.int (Int32.ofNat (a + j)))) (.int ((zStrs.getD 11 []).getD (a + j) 0)) ∈ nFL)) = true → ∀ j, a ≤ j → j < a + 16 → j < 61 → Cond.eq (.elem (tVl 11) (.int (Int32.ofNat j))) (.int ((zStrs.getD 11 []).getD j 0)) ∈ nFL := fun {a} h j h1 h2 h3 => by
    have := List.all_eq_true.mp h (j - a) (List.mem_range.mpr (by omega))
    rw [show a + (j - a) = j by omega, Bool.or_eq_true, decide_eq_true_eq, decide_eq_true_eq] at this
    rcases this with h | h
    · omega
    · exact h
  rcases (show i = 0 ∨ i = 1 ∨ i = 2 ∨ i = 3 ∨ i = 4 ∨ i = 5 ∨ i = 6 ∨ i = 7 ∨ i = 8 ∨ i = 9 ∨ i = 10 ∨ i = 11 ∨ i = 12 ∨ i = 13 by omega) with rfl | rfl | rfl | rfl | rfl | rfl | rfl | rfl | rfl | rfl | rfl | rfl | rfl | rfl
  · exact go n_st2_0 j hj
  · exact go n_st2_1 j hj
  · exact go n_st2_2 j hj
  · exact go n_st2_3 j hj
  · exact go n_st2_4 j hj
  · exact go n_st2_5 j hj
  · exact go n_st2_6 j hj
  · exact go n_st2_7 j hj
  · exact go n_st2_8 j hj
  · exact go n_st2_9 j hj
  · exact go n_st2_10 j hj
  · have h61 : j < 61 := hj
    by_cases c1 : j < 16
    · exact g2 n_st2_11_0 j (by omega) (by omega) h61
    · by_cases c2 : j < 32
      · exact g2 n_st2_11_1 j (by omega) (by omega) h61
      · by_cases c3 : j < 48
        · exact g2 n_st2_11_2 j (by omega) (by omega) h61
        · exact g2 n_st2_11_3 j (by omega) (by omega) h61
  · exact go n_st2_12 j hj
  · exact go n_st2_13 j hj
theorem n_st3_0 : ((List.range 14).all fun j => decide (0 = j) || (decide (Cond.not (.eq (tSt 0) (tSt j)) ∈ nFL) || decide (Cond.not (.eq (tSt j) (tSt 0)) ∈ nFL))) = true := by decide +kernel
theorem n_st3_1 : ((List.range 14).all fun j => decide (1 = j) || (decide (Cond.not (.eq (tSt 1) (tSt j)) ∈ nFL) || decide (Cond.not (.eq (tSt j) (tSt 1)) ∈ nFL))) = true := by decide +kernel
theorem n_st3_2 : ((List.range 14).all fun j => decide (2 = j) || (decide (Cond.not (.eq (tSt 2) (tSt j)) ∈ nFL) || decide (Cond.not (.eq (tSt j) (tSt 2)) ∈ nFL))) = true := by decide +kernel
theorem n_st3_3 : ((List.range 14).all fun j => decide (3 = j) || (decide (Cond.not (.eq (tSt 3) (tSt j)) ∈ nFL) || decide (Cond.not (.eq (tSt j) (tSt 3)) ∈ nFL))) = true := by decide +kernel
theorem n_st3_4 : ((List.range 14).all fun j => decide (4 = j) || (decide (Cond.not (.eq (tSt 4) (tSt j)) ∈ nFL) || decide (Cond.not (.eq (tSt j) (tSt 4)) ∈ nFL))) = true := by decide +kernel
theorem n_st3_5 : ((List.range 14).all fun j => decide (5 = j) || (decide (Cond.not (.eq (tSt 5) (tSt j)) ∈ nFL) || decide (Cond.not (.eq (tSt j) (tSt 5)) ∈ nFL))) = true := by decide +kernel
theorem n_st3_6 : ((List.range 14).all fun j => decide (6 = j) || (decide (Cond.not (.eq (tSt 6) (tSt j)) ∈ nFL) || decide (Cond.not (.eq (tSt j) (tSt 6)) ∈ nFL))) = true := by decide +kernel
theorem n_st3_7 : ((List.range 14).all fun j => decide (7 = j) || (decide (Cond.not (.eq (tSt 7) (tSt j)) ∈ nFL) || decide (Cond.not (.eq (tSt j) (tSt 7)) ∈ nFL))) = true := by decide +kernel
theorem n_st3_8 : ((List.range 14).all fun j => decide (8 = j) || (decide (Cond.not (.eq (tSt 8) (tSt j)) ∈ nFL) || decide (Cond.not (.eq (tSt j) (tSt 8)) ∈ nFL))) = true := by decide +kernel
theorem n_st3_9 : ((List.range 14).all fun j => decide (9 = j) || (decide (Cond.not (.eq (tSt 9) (tSt j)) ∈ nFL) || decide (Cond.not (.eq (tSt j) (tSt 9)) ∈ nFL))) = true := by decide +kernel
theorem n_st3_10 : ((List.range 14).all fun j => decide (10 = j) || (decide (Cond.not (.eq (tSt 10) (tSt j)) ∈ nFL) || decide (Cond.not (.eq (tSt j) (tSt 10)) ∈ nFL))) = true := by decide +kernel
theorem n_st3_11 : ((List.range 14).all fun j => decide (11 = j) || (decide (Cond.not (.eq (tSt 11) (tSt j)) ∈ nFL) || decide (Cond.not (.eq (tSt j) (tSt 11)) ∈ nFL))) = true := by decide +kernel
theorem n_st3_12 : ((List.range 14).all fun j => decide (12 = j) || (decide (Cond.not (.eq (tSt 12) (tSt j)) ∈ nFL) || decide (Cond.not (.eq (tSt j) (tSt 12)) ∈ nFL))) = true := by decide +kernel
theorem n_st3_13 : ((List.range 14).all fun j => decide (13 = j) || (decide (Cond.not (.eq (tSt 13) (tSt j)) ∈ nFL) || decide (Cond.not (.eq (tSt j) (tSt 13)) ∈ nFL))) = true := by decide +kernel
theorem n_st3 {i : Nat} (h : i < 14) : ((List.range 14).all fun j => decide (i = j) || (decide (Cond.not (.eq (tSt i) (tSt j)) ∈ nFL) || decide (Cond.not (.eq (tSt j) (tSt i)) ∈ nFL))) = true := by
  rcases (show i = 0 ∨ i = 1 ∨ i = 2 ∨ i = 3 ∨ i = 4 ∨ i = 5 ∨ i = 6 ∨ i = 7 ∨ i = 8 ∨ i = 9 ∨ i = 10 ∨ i = 11 ∨ i = 12 ∨ i = 13 by omega) with rfl | rfl | rfl | rfl | rfl | rfl | rfl | rfl | rfl | rfl | rfl | rfl | rfl | rfl
  · exact n_st3_0
  · exact n_st3_1
  · exact n_st3_2
  · exact n_st3_3
  · exact n_st3_4
  · exact n_st3_5
  · exact n_st3_6
  · exact n_st3_7
  · exact n_st3_8
  · exact n_st3_9
  · exact n_st3_10
  · exact n_st3_11
  · exact n_st3_12
  · exact n_st3_13
