/-! printed by blocks.py: the blocks of methods [148, 149, 150, 151, 152, 153, 154, 155, 156, 157, 158, 159, 160, 161, 162, 163, 164, 165, 166, 167, 168, 169, 170, 171, 172, 173, 174, 175, 176, 177, 178, 179, 180, 181, 182, 183, 184, 185, 186, 187, 188, 189, 190, 191, 192, 193, 194, 195, 196, 197] -/
/-! 148: TwoWayWallModel.<init>()V -/
theorem e148 {T : zT} {V : zM} {q0 : Int} : zcall 148 [(2, q0)] T V = ev 148 0 [(2, q0), (9, 0)] [] T V := rfl
theorem b148_0 {T : zT} {V : zM} {q0 : Int} (h1 : (0 : Int) ≤ q0) (h2 : zO T q0 12) : ev 148 0 [(2, q0), (9, 0)] [] T V = ev 148 14 [(2, q0), (9, 0)] [(2, (zsz T)), (2, q0)] (zn T 0 7) (zs (zwr V q0 2 (-1)) (zsz T) (fun _ => 0)) := by
  refine Eq.trans (ev_lda (show zcode 148 0 = some (6, 1, 0, 0, []) by decide +kernel) rfl (by decide)) ?_
  refine Eq.trans (ev_obj (show zcode 148 1 = some (78, 4, 0, 0, []) by decide +kernel) ⟨h1, show 0 ≤ 8 by decide⟩) ?_
  refine Eq.trans (ev_lda (show zcode 148 4 = some (6, 5, 0, 0, []) by decide +kernel) rfl (by decide)) ?_
  refine Eq.trans (ev_ci (show zcode 148 5 = some (0, 6, 0, (-1), []) by decide +kernel) (by decide)) ?_
  refine Eq.trans (ev_pi (show zcode 148 6 = some (57, 9, 12, 2, []) by decide +kernel) h2) ?_
  refine Eq.trans (ev_lda (show zcode 148 9 = some (6, 10, 0, 0, []) by decide +kernel) rfl (by decide)) ?_
  refine Eq.trans (ev_ci (show zcode 148 10 = some (0, 12, 0, 7, []) by decide +kernel) (by decide)) ?_
  exact ev_narr (show zcode 148 12 = some (70, 14, 0, 0, []) by decide +kernel) (by decide)
theorem b148_14 {T : zT} {V : zM} {q0 : Int} {p0 : Int} {p1 : Int} (h1 : zO T p0 12) : ev 148 14 [(2, q0), (9, 0)] [(2, p1), (2, p0)] T V = ev 148 17 [(2, q0), (9, 0)] [] (zqw T p0 3 p1) V := by
  exact ev_pr (show zcode 148 14 = some (59, 17, 12, 3, []) by decide +kernel) h1
theorem b148_17 {T : zT} {V : zM} {q0 : Int} : ev 148 17 [(2, q0), (9, 0)] [] T V = ev 148 23 [(2, q0), (9, 0)] [(2, (zsz T)), (2, q0)] (zn T 0 428) (zs V (zsz T) (fun _ => 0)) := by
  refine Eq.trans (ev_lda (show zcode 148 17 = some (6, 18, 0, 0, []) by decide +kernel) rfl (by decide)) ?_
  refine Eq.trans (ev_ci (show zcode 148 18 = some (0, 21, 0, 428, []) by decide +kernel) (by decide)) ?_
  exact ev_narr (show zcode 148 21 = some (70, 23, 0, 0, []) by decide +kernel) (by decide)
theorem b148_23 {T : zT} {V : zM} {q0 : Int} {p0 : Int} {p1 : Int} (h1 : zO T p0 12) : ev 148 23 [(2, q0), (9, 0)] [(2, p1), (2, p0)] T V = ev 148 26 [(2, q0), (9, 0)] [] (zqw T p0 4 p1) V := by
  exact ev_pr (show zcode 148 23 = some (59, 26, 12, 4, []) by decide +kernel) h1
theorem b148_26 {T : zT} {V : zM} {q0 : Int} : ev 148 26 [(2, q0), (9, 0)] [] T V = ev 148 32 [(2, q0), (9, 0)] [(2, (zsz T)), (2, q0)] (zn T 0 856) (zs V (zsz T) (fun _ => 0)) := by
  refine Eq.trans (ev_lda (show zcode 148 26 = some (6, 27, 0, 0, []) by decide +kernel) rfl (by decide)) ?_
  refine Eq.trans (ev_ci (show zcode 148 27 = some (0, 30, 0, 856, []) by decide +kernel) (by decide)) ?_
  exact ev_narr (show zcode 148 30 = some (70, 32, 0, 0, []) by decide +kernel) (by decide)
theorem b148_32 {T : zT} {V : zM} {q0 : Int} {p0 : Int} {p1 : Int} (h1 : zO T p0 12) : ev 148 32 [(2, q0), (9, 0)] [(2, p1), (2, p0)] T V = ev 148 35 [(2, q0), (9, 0)] [] (zqw T p0 5 p1) V := by
  exact ev_pr (show zcode 148 32 = some (59, 35, 12, 5, []) by decide +kernel) h1
theorem b148_35 {T : zT} {V : zM} {q0 : Int} : ev 148 35 [(2, q0), (9, 0)] [] T V = ev 148 39 [(2, q0), (9, 0)] [(2, (zsz T)), (2, q0)] (zn T 3 2) (zs V (zsz T) (fun _ => 0)) := by
  refine Eq.trans (ev_lda (show zcode 148 35 = some (6, 36, 0, 0, []) by decide +kernel) rfl (by decide)) ?_
  refine Eq.trans (ev_ci (show zcode 148 36 = some (0, 37, 0, 2, []) by decide +kernel) (by decide)) ?_
  exact ev_narr (show zcode 148 37 = some (70, 39, 3, 0, []) by decide +kernel) (by decide)
theorem b148_39 {T : zT} {V : zM} {q0 : Int} {p0 : Int} {p1 : Int} (h1 : zO T p0 12) : ev 148 39 [(2, q0), (9, 0)] [(2, p1), (2, p0)] T V = ev 148 42 [(2, q0), (9, 0)] [] (zqw T p0 6 p1) V := by
  exact ev_pr (show zcode 148 39 = some (59, 42, 12, 6, []) by decide +kernel) h1
theorem b148_42 {T : zT} {V : zM} {q0 : Int} : ev 148 42 [(2, q0), (9, 0)] [] T V = ev 148 48 [(2, q0), (9, 0)] [(2, (zsz T)), (2, q0)] (zn T 0 300) (zs V (zsz T) (fun _ => 0)) := by
  refine Eq.trans (ev_lda (show zcode 148 42 = some (6, 43, 0, 0, []) by decide +kernel) rfl (by decide)) ?_
  refine Eq.trans (ev_ci (show zcode 148 43 = some (0, 46, 0, 300, []) by decide +kernel) (by decide)) ?_
  exact ev_narr (show zcode 148 46 = some (70, 48, 0, 0, []) by decide +kernel) (by decide)
theorem b148_48 {T : zT} {V : zM} {q0 : Int} {p0 : Int} {p1 : Int} (h1 : zO T p0 12) : ev 148 48 [(2, q0), (9, 0)] [(2, p1), (2, p0)] T V = ev 148 51 [(2, q0), (9, 0)] [] (zqw T p0 7 p1) V := by
  exact ev_pr (show zcode 148 48 = some (59, 51, 12, 7, []) by decide +kernel) h1
theorem b148_51 {T : zT} {V : zM} {q0 : Int} : ev 148 51 [(2, q0), (9, 0)] [] T V = ev 148 56 [(2, q0), (9, 0)] [(2, (zsz T)), (2, q0)] (zn T 2 36) (zs V (zsz T) (fun _ => 0)) := by
  refine Eq.trans (ev_lda (show zcode 148 51 = some (6, 52, 0, 0, []) by decide +kernel) rfl (by decide)) ?_
  refine Eq.trans (ev_ci (show zcode 148 52 = some (0, 54, 0, 36, []) by decide +kernel) (by decide)) ?_
  exact ev_narr (show zcode 148 54 = some (70, 56, 2, 0, []) by decide +kernel) (by decide)
theorem b148_56 {T : zT} {V : zM} {q0 : Int} {p0 : Int} {p1 : Int} {n1 : Int} (h1 : zAr T p1 2 n1) (h2 : (0 : Int) ≤ 0 ∧ 0 < n1) (h3 : (0 : Int) ≤ 1 ∧ 1 < n1) (h4 : (0 : Int) ≤ 2 ∧ 2 < n1) (h5 : (0 : Int) ≤ 3 ∧ 3 < n1) (h6 : (0 : Int) ≤ 4 ∧ 4 < n1) (h7 : (0 : Int) ≤ 5 ∧ 5 < n1) (h8 : (0 : Int) ≤ 6 ∧ 6 < n1) (h9 : (0 : Int) ≤ 7 ∧ 7 < n1) (h10 : (0 : Int) ≤ 8 ∧ 8 < n1) (h11 : (0 : Int) ≤ 9 ∧ 9 < n1) (h12 : (0 : Int) ≤ 10 ∧ 10 < n1) (h13 : (0 : Int) ≤ 11 ∧ 11 < n1) (h14 : (0 : Int) ≤ 12 ∧ 12 < n1) (h15 : (0 : Int) ≤ 13 ∧ 13 < n1) (h16 : (0 : Int) ≤ 14 ∧ 14 < n1) (h17 : (0 : Int) ≤ 15 ∧ 15 < n1) (h18 : (0 : Int) ≤ 16 ∧ 16 < n1) (h19 : (0 : Int) ≤ 17 ∧ 17 < n1) (h20 : (0 : Int) ≤ 18 ∧ 18 < n1) (h21 : (0 : Int) ≤ 19 ∧ 19 < n1) (h22 : (0 : Int) ≤ 20 ∧ 20 < n1) (h23 : (0 : Int) ≤ 21 ∧ 21 < n1) (h24 : (0 : Int) ≤ 22 ∧ 22 < n1) (h25 : (0 : Int) ≤ 23 ∧ 23 < n1) (h26 : (0 : Int) ≤ 24 ∧ 24 < n1) (h27 : (0 : Int) ≤ 25 ∧ 25 < n1) (h28 : (0 : Int) ≤ 26 ∧ 26 < n1) (h29 : (0 : Int) ≤ 27 ∧ 27 < n1) (h30 : (0 : Int) ≤ 28 ∧ 28 < n1) (h31 : (0 : Int) ≤ 29 ∧ 29 < n1) (h32 : (0 : Int) ≤ 30 ∧ 30 < n1) (h33 : (0 : Int) ≤ 31 ∧ 31 < n1) (h34 : (0 : Int) ≤ 32 ∧ 32 < n1) (h35 : (0 : Int) ≤ 33 ∧ 33 < n1) (h36 : (0 : Int) ≤ 34 ∧ 34 < n1) (h37 : (0 : Int) ≤ 35 ∧ 35 < n1) (h38 : zO T p0 12) : ev 148 56 [(2, q0), (9, 0)] [(2, p1), (2, p0)] T V = ev 148 269 [(2, q0), (9, 0)] [] (zqw T p0 9 p1) (zwr (zwr (zwr (zwr (zwr (zwr (zwr (zwr (zwr (zwr (zwr (zwr (zwr (zwr (zwr (zwr (zwr (zwr (zwr (zwr (zwr (zwr (zwr (zwr (zwr (zwr (zwr (zwr (zwr (zwr (zwr (zwr (zwr (zwr (zwr (zwr V p1 0 101) p1 1 97) p1 2 115) p1 3 116) p1 4 32) p1 5 119) p1 6 101) p1 7 115) p1 8 116) p1 9 32) p1 10 119) p1 11 111) p1 12 114) p1 13 100) p1 14 32) p1 15 109) p1 16 105) p1 17 114) p1 18 114) p1 19 111) p1 20 114) p1 21 32) p1 22 99) p1 23 111) p1 24 115) p1 25 116) p1 26 32) p1 27 100) p1 28 114) p1 29 111) p1 30 112) p1 31 32) p1 32 110) p1 33 111) p1 34 116) p1 35 32) := by
  refine Eq.trans (ev_dup (show zcode 148 56 = some (36, 57, 0, 0, []) by decide +kernel) (by decide)) ?_
  refine Eq.trans (ev_ci (show zcode 148 57 = some (0, 58, 0, 0, []) by decide +kernel) (by decide)) ?_
  refine Eq.trans (ev_ci (show zcode 148 58 = some (0, 60, 0, 101, []) by decide +kernel) (by decide)) ?_
  refine Eq.trans (ev_bs (show zcode 148 60 = some (66, 61, 0, 0, []) by decide +kernel) h1 h2 (by decide)) ?_
  refine Eq.trans (ev_dup (show zcode 148 61 = some (36, 62, 0, 0, []) by decide +kernel) (by decide)) ?_
  refine Eq.trans (ev_ci (show zcode 148 62 = some (0, 63, 0, 1, []) by decide +kernel) (by decide)) ?_
  refine Eq.trans (ev_ci (show zcode 148 63 = some (0, 65, 0, 97, []) by decide +kernel) (by decide)) ?_
  refine Eq.trans (ev_bs (show zcode 148 65 = some (66, 66, 0, 0, []) by decide +kernel) h1 h3 (by decide)) ?_
  refine Eq.trans (ev_dup (show zcode 148 66 = some (36, 67, 0, 0, []) by decide +kernel) (by decide)) ?_
  refine Eq.trans (ev_ci (show zcode 148 67 = some (0, 68, 0, 2, []) by decide +kernel) (by decide)) ?_
  refine Eq.trans (ev_ci (show zcode 148 68 = some (0, 70, 0, 115, []) by decide +kernel) (by decide)) ?_
  refine Eq.trans (ev_bs (show zcode 148 70 = some (66, 71, 0, 0, []) by decide +kernel) h1 h4 (by decide)) ?_
  refine Eq.trans (ev_dup (show zcode 148 71 = some (36, 72, 0, 0, []) by decide +kernel) (by decide)) ?_
  refine Eq.trans (ev_ci (show zcode 148 72 = some (0, 73, 0, 3, []) by decide +kernel) (by decide)) ?_
  refine Eq.trans (ev_ci (show zcode 148 73 = some (0, 75, 0, 116, []) by decide +kernel) (by decide)) ?_
  refine Eq.trans (ev_bs (show zcode 148 75 = some (66, 76, 0, 0, []) by decide +kernel) h1 h5 (by decide)) ?_
  refine Eq.trans (ev_dup (show zcode 148 76 = some (36, 77, 0, 0, []) by decide +kernel) (by decide)) ?_
  refine Eq.trans (ev_ci (show zcode 148 77 = some (0, 78, 0, 4, []) by decide +kernel) (by decide)) ?_
  refine Eq.trans (ev_ci (show zcode 148 78 = some (0, 80, 0, 32, []) by decide +kernel) (by decide)) ?_
  refine Eq.trans (ev_bs (show zcode 148 80 = some (66, 81, 0, 0, []) by decide +kernel) h1 h6 (by decide)) ?_
  refine Eq.trans (ev_dup (show zcode 148 81 = some (36, 82, 0, 0, []) by decide +kernel) (by decide)) ?_
  refine Eq.trans (ev_ci (show zcode 148 82 = some (0, 83, 0, 5, []) by decide +kernel) (by decide)) ?_
  refine Eq.trans (ev_ci (show zcode 148 83 = some (0, 85, 0, 119, []) by decide +kernel) (by decide)) ?_
  refine Eq.trans (ev_bs (show zcode 148 85 = some (66, 86, 0, 0, []) by decide +kernel) h1 h7 (by decide)) ?_
  refine Eq.trans (ev_dup (show zcode 148 86 = some (36, 87, 0, 0, []) by decide +kernel) (by decide)) ?_
  refine Eq.trans (ev_ci (show zcode 148 87 = some (0, 89, 0, 6, []) by decide +kernel) (by decide)) ?_
  refine Eq.trans (ev_ci (show zcode 148 89 = some (0, 91, 0, 101, []) by decide +kernel) (by decide)) ?_
  refine Eq.trans (ev_bs (show zcode 148 91 = some (66, 92, 0, 0, []) by decide +kernel) h1 h8 (by decide)) ?_
  refine Eq.trans (ev_dup (show zcode 148 92 = some (36, 93, 0, 0, []) by decide +kernel) (by decide)) ?_
  refine Eq.trans (ev_ci (show zcode 148 93 = some (0, 95, 0, 7, []) by decide +kernel) (by decide)) ?_
  refine Eq.trans (ev_ci (show zcode 148 95 = some (0, 97, 0, 115, []) by decide +kernel) (by decide)) ?_
  refine Eq.trans (ev_bs (show zcode 148 97 = some (66, 98, 0, 0, []) by decide +kernel) h1 h9 (by decide)) ?_
  refine Eq.trans (ev_dup (show zcode 148 98 = some (36, 99, 0, 0, []) by decide +kernel) (by decide)) ?_
  refine Eq.trans (ev_ci (show zcode 148 99 = some (0, 101, 0, 8, []) by decide +kernel) (by decide)) ?_
  refine Eq.trans (ev_ci (show zcode 148 101 = some (0, 103, 0, 116, []) by decide +kernel) (by decide)) ?_
  refine Eq.trans (ev_bs (show zcode 148 103 = some (66, 104, 0, 0, []) by decide +kernel) h1 h10 (by decide)) ?_
  refine Eq.trans (ev_dup (show zcode 148 104 = some (36, 105, 0, 0, []) by decide +kernel) (by decide)) ?_
  refine Eq.trans (ev_ci (show zcode 148 105 = some (0, 107, 0, 9, []) by decide +kernel) (by decide)) ?_
  refine Eq.trans (ev_ci (show zcode 148 107 = some (0, 109, 0, 32, []) by decide +kernel) (by decide)) ?_
  refine Eq.trans (ev_bs (show zcode 148 109 = some (66, 110, 0, 0, []) by decide +kernel) h1 h11 (by decide)) ?_
  refine Eq.trans (ev_dup (show zcode 148 110 = some (36, 111, 0, 0, []) by decide +kernel) (by decide)) ?_
  refine Eq.trans (ev_ci (show zcode 148 111 = some (0, 113, 0, 10, []) by decide +kernel) (by decide)) ?_
  refine Eq.trans (ev_ci (show zcode 148 113 = some (0, 115, 0, 119, []) by decide +kernel) (by decide)) ?_
  refine Eq.trans (ev_bs (show zcode 148 115 = some (66, 116, 0, 0, []) by decide +kernel) h1 h12 (by decide)) ?_
  refine Eq.trans (ev_dup (show zcode 148 116 = some (36, 117, 0, 0, []) by decide +kernel) (by decide)) ?_
  refine Eq.trans (ev_ci (show zcode 148 117 = some (0, 119, 0, 11, []) by decide +kernel) (by decide)) ?_
  refine Eq.trans (ev_ci (show zcode 148 119 = some (0, 121, 0, 111, []) by decide +kernel) (by decide)) ?_
  refine Eq.trans (ev_bs (show zcode 148 121 = some (66, 122, 0, 0, []) by decide +kernel) h1 h13 (by decide)) ?_
  refine Eq.trans (ev_dup (show zcode 148 122 = some (36, 123, 0, 0, []) by decide +kernel) (by decide)) ?_
  refine Eq.trans (ev_ci (show zcode 148 123 = some (0, 125, 0, 12, []) by decide +kernel) (by decide)) ?_
  refine Eq.trans (ev_ci (show zcode 148 125 = some (0, 127, 0, 114, []) by decide +kernel) (by decide)) ?_
  refine Eq.trans (ev_bs (show zcode 148 127 = some (66, 128, 0, 0, []) by decide +kernel) h1 h14 (by decide)) ?_
  refine Eq.trans (ev_dup (show zcode 148 128 = some (36, 129, 0, 0, []) by decide +kernel) (by decide)) ?_
  refine Eq.trans (ev_ci (show zcode 148 129 = some (0, 131, 0, 13, []) by decide +kernel) (by decide)) ?_
  refine Eq.trans (ev_ci (show zcode 148 131 = some (0, 133, 0, 100, []) by decide +kernel) (by decide)) ?_
  refine Eq.trans (ev_bs (show zcode 148 133 = some (66, 134, 0, 0, []) by decide +kernel) h1 h15 (by decide)) ?_
  refine Eq.trans (ev_dup (show zcode 148 134 = some (36, 135, 0, 0, []) by decide +kernel) (by decide)) ?_
  refine Eq.trans (ev_ci (show zcode 148 135 = some (0, 137, 0, 14, []) by decide +kernel) (by decide)) ?_
  refine Eq.trans (ev_ci (show zcode 148 137 = some (0, 139, 0, 32, []) by decide +kernel) (by decide)) ?_
  refine Eq.trans (ev_bs (show zcode 148 139 = some (66, 140, 0, 0, []) by decide +kernel) h1 h16 (by decide)) ?_
  refine Eq.trans (ev_dup (show zcode 148 140 = some (36, 141, 0, 0, []) by decide +kernel) (by decide)) ?_
  refine Eq.trans (ev_ci (show zcode 148 141 = some (0, 143, 0, 15, []) by decide +kernel) (by decide)) ?_
  refine Eq.trans (ev_ci (show zcode 148 143 = some (0, 145, 0, 109, []) by decide +kernel) (by decide)) ?_
  refine Eq.trans (ev_bs (show zcode 148 145 = some (66, 146, 0, 0, []) by decide +kernel) h1 h17 (by decide)) ?_
  refine Eq.trans (ev_dup (show zcode 148 146 = some (36, 147, 0, 0, []) by decide +kernel) (by decide)) ?_
  refine Eq.trans (ev_ci (show zcode 148 147 = some (0, 149, 0, 16, []) by decide +kernel) (by decide)) ?_
  refine Eq.trans (ev_ci (show zcode 148 149 = some (0, 151, 0, 105, []) by decide +kernel) (by decide)) ?_
  refine Eq.trans (ev_bs (show zcode 148 151 = some (66, 152, 0, 0, []) by decide +kernel) h1 h18 (by decide)) ?_
  refine Eq.trans (ev_dup (show zcode 148 152 = some (36, 153, 0, 0, []) by decide +kernel) (by decide)) ?_
  refine Eq.trans (ev_ci (show zcode 148 153 = some (0, 155, 0, 17, []) by decide +kernel) (by decide)) ?_
  refine Eq.trans (ev_ci (show zcode 148 155 = some (0, 157, 0, 114, []) by decide +kernel) (by decide)) ?_
  refine Eq.trans (ev_bs (show zcode 148 157 = some (66, 158, 0, 0, []) by decide +kernel) h1 h19 (by decide)) ?_
  refine Eq.trans (ev_dup (show zcode 148 158 = some (36, 159, 0, 0, []) by decide +kernel) (by decide)) ?_
  refine Eq.trans (ev_ci (show zcode 148 159 = some (0, 161, 0, 18, []) by decide +kernel) (by decide)) ?_
  refine Eq.trans (ev_ci (show zcode 148 161 = some (0, 163, 0, 114, []) by decide +kernel) (by decide)) ?_
  refine Eq.trans (ev_bs (show zcode 148 163 = some (66, 164, 0, 0, []) by decide +kernel) h1 h20 (by decide)) ?_
  refine Eq.trans (ev_dup (show zcode 148 164 = some (36, 165, 0, 0, []) by decide +kernel) (by decide)) ?_
  refine Eq.trans (ev_ci (show zcode 148 165 = some (0, 167, 0, 19, []) by decide +kernel) (by decide)) ?_
  refine Eq.trans (ev_ci (show zcode 148 167 = some (0, 169, 0, 111, []) by decide +kernel) (by decide)) ?_
  refine Eq.trans (ev_bs (show zcode 148 169 = some (66, 170, 0, 0, []) by decide +kernel) h1 h21 (by decide)) ?_
  refine Eq.trans (ev_dup (show zcode 148 170 = some (36, 171, 0, 0, []) by decide +kernel) (by decide)) ?_
  refine Eq.trans (ev_ci (show zcode 148 171 = some (0, 173, 0, 20, []) by decide +kernel) (by decide)) ?_
  refine Eq.trans (ev_ci (show zcode 148 173 = some (0, 175, 0, 114, []) by decide +kernel) (by decide)) ?_
  refine Eq.trans (ev_bs (show zcode 148 175 = some (66, 176, 0, 0, []) by decide +kernel) h1 h22 (by decide)) ?_
  refine Eq.trans (ev_dup (show zcode 148 176 = some (36, 177, 0, 0, []) by decide +kernel) (by decide)) ?_
  refine Eq.trans (ev_ci (show zcode 148 177 = some (0, 179, 0, 21, []) by decide +kernel) (by decide)) ?_
  refine Eq.trans (ev_ci (show zcode 148 179 = some (0, 181, 0, 32, []) by decide +kernel) (by decide)) ?_
  refine Eq.trans (ev_bs (show zcode 148 181 = some (66, 182, 0, 0, []) by decide +kernel) h1 h23 (by decide)) ?_
  refine Eq.trans (ev_dup (show zcode 148 182 = some (36, 183, 0, 0, []) by decide +kernel) (by decide)) ?_
  refine Eq.trans (ev_ci (show zcode 148 183 = some (0, 185, 0, 22, []) by decide +kernel) (by decide)) ?_
  refine Eq.trans (ev_ci (show zcode 148 185 = some (0, 187, 0, 99, []) by decide +kernel) (by decide)) ?_
  refine Eq.trans (ev_bs (show zcode 148 187 = some (66, 188, 0, 0, []) by decide +kernel) h1 h24 (by decide)) ?_
  refine Eq.trans (ev_dup (show zcode 148 188 = some (36, 189, 0, 0, []) by decide +kernel) (by decide)) ?_
  refine Eq.trans (ev_ci (show zcode 148 189 = some (0, 191, 0, 23, []) by decide +kernel) (by decide)) ?_
  refine Eq.trans (ev_ci (show zcode 148 191 = some (0, 193, 0, 111, []) by decide +kernel) (by decide)) ?_
  refine Eq.trans (ev_bs (show zcode 148 193 = some (66, 194, 0, 0, []) by decide +kernel) h1 h25 (by decide)) ?_
  refine Eq.trans (ev_dup (show zcode 148 194 = some (36, 195, 0, 0, []) by decide +kernel) (by decide)) ?_
  refine Eq.trans (ev_ci (show zcode 148 195 = some (0, 197, 0, 24, []) by decide +kernel) (by decide)) ?_
  refine Eq.trans (ev_ci (show zcode 148 197 = some (0, 199, 0, 115, []) by decide +kernel) (by decide)) ?_
  refine Eq.trans (ev_bs (show zcode 148 199 = some (66, 200, 0, 0, []) by decide +kernel) h1 h26 (by decide)) ?_
  refine Eq.trans (ev_dup (show zcode 148 200 = some (36, 201, 0, 0, []) by decide +kernel) (by decide)) ?_
  refine Eq.trans (ev_ci (show zcode 148 201 = some (0, 203, 0, 25, []) by decide +kernel) (by decide)) ?_
  refine Eq.trans (ev_ci (show zcode 148 203 = some (0, 205, 0, 116, []) by decide +kernel) (by decide)) ?_
  refine Eq.trans (ev_bs (show zcode 148 205 = some (66, 206, 0, 0, []) by decide +kernel) h1 h27 (by decide)) ?_
  refine Eq.trans (ev_dup (show zcode 148 206 = some (36, 207, 0, 0, []) by decide +kernel) (by decide)) ?_
  refine Eq.trans (ev_ci (show zcode 148 207 = some (0, 209, 0, 26, []) by decide +kernel) (by decide)) ?_
  refine Eq.trans (ev_ci (show zcode 148 209 = some (0, 211, 0, 32, []) by decide +kernel) (by decide)) ?_
  refine Eq.trans (ev_bs (show zcode 148 211 = some (66, 212, 0, 0, []) by decide +kernel) h1 h28 (by decide)) ?_
  refine Eq.trans (ev_dup (show zcode 148 212 = some (36, 213, 0, 0, []) by decide +kernel) (by decide)) ?_
  refine Eq.trans (ev_ci (show zcode 148 213 = some (0, 215, 0, 27, []) by decide +kernel) (by decide)) ?_
  refine Eq.trans (ev_ci (show zcode 148 215 = some (0, 217, 0, 100, []) by decide +kernel) (by decide)) ?_
  refine Eq.trans (ev_bs (show zcode 148 217 = some (66, 218, 0, 0, []) by decide +kernel) h1 h29 (by decide)) ?_
  refine Eq.trans (ev_dup (show zcode 148 218 = some (36, 219, 0, 0, []) by decide +kernel) (by decide)) ?_
  refine Eq.trans (ev_ci (show zcode 148 219 = some (0, 221, 0, 28, []) by decide +kernel) (by decide)) ?_
  refine Eq.trans (ev_ci (show zcode 148 221 = some (0, 223, 0, 114, []) by decide +kernel) (by decide)) ?_
  refine Eq.trans (ev_bs (show zcode 148 223 = some (66, 224, 0, 0, []) by decide +kernel) h1 h30 (by decide)) ?_
  refine Eq.trans (ev_dup (show zcode 148 224 = some (36, 225, 0, 0, []) by decide +kernel) (by decide)) ?_
  refine Eq.trans (ev_ci (show zcode 148 225 = some (0, 227, 0, 29, []) by decide +kernel) (by decide)) ?_
  refine Eq.trans (ev_ci (show zcode 148 227 = some (0, 229, 0, 111, []) by decide +kernel) (by decide)) ?_
  refine Eq.trans (ev_bs (show zcode 148 229 = some (66, 230, 0, 0, []) by decide +kernel) h1 h31 (by decide)) ?_
  refine Eq.trans (ev_dup (show zcode 148 230 = some (36, 231, 0, 0, []) by decide +kernel) (by decide)) ?_
  refine Eq.trans (ev_ci (show zcode 148 231 = some (0, 233, 0, 30, []) by decide +kernel) (by decide)) ?_
  refine Eq.trans (ev_ci (show zcode 148 233 = some (0, 235, 0, 112, []) by decide +kernel) (by decide)) ?_
  refine Eq.trans (ev_bs (show zcode 148 235 = some (66, 236, 0, 0, []) by decide +kernel) h1 h32 (by decide)) ?_
  refine Eq.trans (ev_dup (show zcode 148 236 = some (36, 237, 0, 0, []) by decide +kernel) (by decide)) ?_
  refine Eq.trans (ev_ci (show zcode 148 237 = some (0, 239, 0, 31, []) by decide +kernel) (by decide)) ?_
  refine Eq.trans (ev_ci (show zcode 148 239 = some (0, 241, 0, 32, []) by decide +kernel) (by decide)) ?_
  refine Eq.trans (ev_bs (show zcode 148 241 = some (66, 242, 0, 0, []) by decide +kernel) h1 h33 (by decide)) ?_
  refine Eq.trans (ev_dup (show zcode 148 242 = some (36, 243, 0, 0, []) by decide +kernel) (by decide)) ?_
  refine Eq.trans (ev_ci (show zcode 148 243 = some (0, 245, 0, 32, []) by decide +kernel) (by decide)) ?_
  refine Eq.trans (ev_ci (show zcode 148 245 = some (0, 247, 0, 110, []) by decide +kernel) (by decide)) ?_
  refine Eq.trans (ev_bs (show zcode 148 247 = some (66, 248, 0, 0, []) by decide +kernel) h1 h34 (by decide)) ?_
  refine Eq.trans (ev_dup (show zcode 148 248 = some (36, 249, 0, 0, []) by decide +kernel) (by decide)) ?_
  refine Eq.trans (ev_ci (show zcode 148 249 = some (0, 251, 0, 33, []) by decide +kernel) (by decide)) ?_
  refine Eq.trans (ev_ci (show zcode 148 251 = some (0, 253, 0, 111, []) by decide +kernel) (by decide)) ?_
  refine Eq.trans (ev_bs (show zcode 148 253 = some (66, 254, 0, 0, []) by decide +kernel) h1 h35 (by decide)) ?_
  refine Eq.trans (ev_dup (show zcode 148 254 = some (36, 255, 0, 0, []) by decide +kernel) (by decide)) ?_
  refine Eq.trans (ev_ci (show zcode 148 255 = some (0, 257, 0, 34, []) by decide +kernel) (by decide)) ?_
  refine Eq.trans (ev_ci (show zcode 148 257 = some (0, 259, 0, 116, []) by decide +kernel) (by decide)) ?_
  refine Eq.trans (ev_bs (show zcode 148 259 = some (66, 260, 0, 0, []) by decide +kernel) h1 h36 (by decide)) ?_
  refine Eq.trans (ev_dup (show zcode 148 260 = some (36, 261, 0, 0, []) by decide +kernel) (by decide)) ?_
  refine Eq.trans (ev_ci (show zcode 148 261 = some (0, 263, 0, 35, []) by decide +kernel) (by decide)) ?_
  refine Eq.trans (ev_ci (show zcode 148 263 = some (0, 265, 0, 32, []) by decide +kernel) (by decide)) ?_
  refine Eq.trans (ev_bs (show zcode 148 265 = some (66, 266, 0, 0, []) by decide +kernel) h1 h37 (by decide)) ?_
  exact ev_pr (show zcode 148 266 = some (59, 269, 12, 9, []) by decide +kernel) h38
theorem b148_269 {T : zT} {V : zM} {q0 : Int} : ev 148 269 [(2, q0), (9, 0)] [] T V = ev 148 275 [(2, q0), (9, 0)] [(2, (zsz T)), (2, q0)] (zn T 2 400) (zs V (zsz T) (fun _ => 0)) := by
  refine Eq.trans (ev_lda (show zcode 148 269 = some (6, 270, 0, 0, []) by decide +kernel) rfl (by decide)) ?_
  refine Eq.trans (ev_ci (show zcode 148 270 = some (0, 273, 0, 400, []) by decide +kernel) (by decide)) ?_
  exact ev_narr (show zcode 148 273 = some (70, 275, 2, 0, []) by decide +kernel) (by decide)
theorem b148_275 {T : zT} {V : zM} {q0 : Int} {p0 : Int} {p1 : Int} (h1 : zO T p0 12) : ev 148 275 [(2, q0), (9, 0)] [(2, p1), (2, p0)] T V = ev 148 278 [(2, q0), (9, 0)] [] (zqw T p0 10 p1) V := by
  exact ev_pr (show zcode 148 275 = some (59, 278, 12, 10, []) by decide +kernel) h1
theorem b148_278 {T : zT} {V : zM} {q0 : Int} : ev 148 278 [(2, q0), (9, 0)] [] T V = ev 148 282 [(2, q0), (9, 0)] [(2, (zsz T)), (2, q0)] (zn T 0 5) (zs V (zsz T) (fun _ => 0)) := by
  refine Eq.trans (ev_lda (show zcode 148 278 = some (6, 279, 0, 0, []) by decide +kernel) rfl (by decide)) ?_
  refine Eq.trans (ev_ci (show zcode 148 279 = some (0, 280, 0, 5, []) by decide +kernel) (by decide)) ?_
  exact ev_narr (show zcode 148 280 = some (70, 282, 0, 0, []) by decide +kernel) (by decide)
theorem b148_282 {T : zT} {V : zM} {q0 : Int} {p0 : Int} {p1 : Int} (h1 : zO T p0 12) : ev 148 282 [(2, q0), (9, 0)] [(2, p1), (2, p0)] T V = ev 148 285 [(2, q0), (9, 0)] [] (zqw T p0 11 p1) V := by
  exact ev_pr (show zcode 148 282 = some (59, 285, 12, 11, []) by decide +kernel) h1
theorem b148_285 {T : zT} {V : zM} {q0 : Int} (h1 : zO T q0 12) : ev 148 285 [(2, q0), (9, 0)] [] T V = ev 148 296 [(2, q0), (9, 0)] [(2, (zsz T)), (2, q0)] (zn T 0 401) (zs (zwr V q0 13 (-1)) (zsz T) (fun _ => 0)) := by
  refine Eq.trans (ev_lda (show zcode 148 285 = some (6, 286, 0, 0, []) by decide +kernel) rfl (by decide)) ?_
  refine Eq.trans (ev_ci (show zcode 148 286 = some (0, 287, 0, (-1), []) by decide +kernel) (by decide)) ?_
  refine Eq.trans (ev_pi (show zcode 148 287 = some (57, 290, 12, 13, []) by decide +kernel) h1) ?_
  refine Eq.trans (ev_lda (show zcode 148 290 = some (6, 291, 0, 0, []) by decide +kernel) rfl (by decide)) ?_
  refine Eq.trans (ev_ci (show zcode 148 291 = some (0, 294, 0, 401, []) by decide +kernel) (by decide)) ?_
  exact ev_narr (show zcode 148 294 = some (70, 296, 0, 0, []) by decide +kernel) (by decide)
theorem b148_296 {T : zT} {V : zM} {q0 : Int} {p0 : Int} {p1 : Int} (h1 : zO T p0 12) : ev 148 296 [(2, q0), (9, 0)] [(2, p1), (2, p0)] T V = ev 148 299 [(2, q0), (9, 0)] [] (zqw T p0 14 p1) V := by
  exact ev_pr (show zcode 148 296 = some (59, 299, 12, 14, []) by decide +kernel) h1
theorem b148_299 {T : zT} {V : zM} {q0 : Int} : ev 148 299 [(2, q0), (9, 0)] [] T V = ev 148 305 [(2, q0), (9, 0)] [(2, (zsz T)), (2, q0)] (zn T 0 401) (zs V (zsz T) (fun _ => 0)) := by
  refine Eq.trans (ev_lda (show zcode 148 299 = some (6, 300, 0, 0, []) by decide +kernel) rfl (by decide)) ?_
  refine Eq.trans (ev_ci (show zcode 148 300 = some (0, 303, 0, 401, []) by decide +kernel) (by decide)) ?_
  exact ev_narr (show zcode 148 303 = some (70, 305, 0, 0, []) by decide +kernel) (by decide)
theorem b148_305 {T : zT} {V : zM} {q0 : Int} {p0 : Int} {p1 : Int} (h1 : zO T p0 12) : ev 148 305 [(2, q0), (9, 0)] [(2, p1), (2, p0)] T V = ev 148 308 [(2, q0), (9, 0)] [] (zqw T p0 15 p1) V := by
  exact ev_pr (show zcode 148 305 = some (59, 308, 12, 15, []) by decide +kernel) h1
theorem b148_308 {T : zT} {V : zM} {q0 : Int} : ev 148 308 [(2, q0), (9, 0)] [] T V = ev 148 314 [(2, q0), (9, 0)] [(2, (zsz T)), (2, q0)] (zn T 0 401) (zs V (zsz T) (fun _ => 0)) := by
  refine Eq.trans (ev_lda (show zcode 148 308 = some (6, 309, 0, 0, []) by decide +kernel) rfl (by decide)) ?_
  refine Eq.trans (ev_ci (show zcode 148 309 = some (0, 312, 0, 401, []) by decide +kernel) (by decide)) ?_
  exact ev_narr (show zcode 148 312 = some (70, 314, 0, 0, []) by decide +kernel) (by decide)
theorem b148_314 {T : zT} {V : zM} {q0 : Int} {p0 : Int} {p1 : Int} (h1 : zO T p0 12) : ev 148 314 [(2, q0), (9, 0)] [(2, p1), (2, p0)] T V = ev 148 317 [(2, q0), (9, 0)] [] (zqw T p0 16 p1) V := by
  exact ev_pr (show zcode 148 314 = some (59, 317, 12, 16, []) by decide +kernel) h1
theorem b148_317 {T : zT} {V : zM} {q0 : Int} : ev 148 317 [(2, q0), (9, 0)] [] T V = ev 148 323 [(2, q0), (9, 0)] [(2, (zsz T)), (2, q0)] (zn T 0 128) (zs V (zsz T) (fun _ => 0)) := by
  refine Eq.trans (ev_lda (show zcode 148 317 = some (6, 318, 0, 0, []) by decide +kernel) rfl (by decide)) ?_
  refine Eq.trans (ev_ci (show zcode 148 318 = some (0, 321, 0, 128, []) by decide +kernel) (by decide)) ?_
  exact ev_narr (show zcode 148 321 = some (70, 323, 0, 0, []) by decide +kernel) (by decide)
theorem b148_323 {T : zT} {V : zM} {q0 : Int} {p0 : Int} {p1 : Int} (h1 : zO T p0 12) : ev 148 323 [(2, q0), (9, 0)] [(2, p1), (2, p0)] T V = ev 148 326 [(2, q0), (9, 0)] [] (zqw T p0 22 p1) V := by
  exact ev_pr (show zcode 148 323 = some (59, 326, 12, 22, []) by decide +kernel) h1
theorem b148_326 {T : zT} {V : zM} {q0 : Int} : ev 148 326 [(2, q0), (9, 0)] [] T V = ev 148 332 [(2, q0), (9, 0)] [(2, (zsz T)), (2, q0)] (zn T 0 128) (zs V (zsz T) (fun _ => 0)) := by
  refine Eq.trans (ev_lda (show zcode 148 326 = some (6, 327, 0, 0, []) by decide +kernel) rfl (by decide)) ?_
  refine Eq.trans (ev_ci (show zcode 148 327 = some (0, 330, 0, 128, []) by decide +kernel) (by decide)) ?_
  exact ev_narr (show zcode 148 330 = some (70, 332, 0, 0, []) by decide +kernel) (by decide)
theorem b148_332 {T : zT} {V : zM} {q0 : Int} {p0 : Int} {p1 : Int} (h1 : zO T p0 12) : ev 148 332 [(2, q0), (9, 0)] [(2, p1), (2, p0)] T V = ev 148 335 [(2, q0), (9, 0)] [] (zqw T p0 23 p1) V := by
  exact ev_pr (show zcode 148 332 = some (59, 335, 12, 23, []) by decide +kernel) h1
theorem b148_335 {T : zT} {V : zM} {q0 : Int} : ev 148 335 [(2, q0), (9, 0)] [] T V = ev 148 341 [(2, q0), (9, 0)] [(2, (zsz T)), (2, q0)] (zn T 3 729) (zs V (zsz T) (fun _ => 0)) := by
  refine Eq.trans (ev_lda (show zcode 148 335 = some (6, 336, 0, 0, []) by decide +kernel) rfl (by decide)) ?_
  refine Eq.trans (ev_ci (show zcode 148 336 = some (0, 339, 0, 729, []) by decide +kernel) (by decide)) ?_
  exact ev_narr (show zcode 148 339 = some (70, 341, 3, 0, []) by decide +kernel) (by decide)
theorem b148_341 {T : zT} {V : zM} {q0 : Int} {p0 : Int} {p1 : Int} (h1 : zO T p0 12) : ev 148 341 [(2, q0), (9, 0)] [(2, p1), (2, p0)] T V = ev 148 344 [(2, q0), (9, 0)] [] (zqw T p0 24 p1) V := by
  exact ev_pr (show zcode 148 341 = some (59, 344, 12, 24, []) by decide +kernel) h1
theorem b148_344 {T : zT} {V : zM} {q0 : Int} : ev 148 344 [(2, q0), (9, 0)] [] T V = ev 148 350 [(2, q0), (9, 0)] [(2, (zsz T)), (2, q0)] (zn T 0 12096) (zs V (zsz T) (fun _ => 0)) := by
  refine Eq.trans (ev_lda (show zcode 148 344 = some (6, 345, 0, 0, []) by decide +kernel) rfl (by decide)) ?_
  refine Eq.trans (ev_ci (show zcode 148 345 = some (0, 348, 0, 12096, []) by decide +kernel) (by decide)) ?_
  exact ev_narr (show zcode 148 348 = some (70, 350, 0, 0, []) by decide +kernel) (by decide)
theorem b148_350 {T : zT} {V : zM} {q0 : Int} {p0 : Int} {p1 : Int} (h1 : zO T p0 12) : ev 148 350 [(2, q0), (9, 0)] [(2, p1), (2, p0)] T V = ev 148 353 [(2, q0), (9, 0)] [] (zqw T p0 28 p1) V := by
  exact ev_pr (show zcode 148 350 = some (59, 353, 12, 28, []) by decide +kernel) h1
theorem b148_353 {T : zT} {V : zM} {q0 : Int} : ev 148 353 [(2, q0), (9, 0)] [] T V = ev 148 359 [(2, q0), (9, 0)] [(2, (zsz T)), (2, q0)] (zn T 3 448) (zs V (zsz T) (fun _ => 0)) := by
  refine Eq.trans (ev_lda (show zcode 148 353 = some (6, 354, 0, 0, []) by decide +kernel) rfl (by decide)) ?_
  refine Eq.trans (ev_ci (show zcode 148 354 = some (0, 357, 0, 448, []) by decide +kernel) (by decide)) ?_
  exact ev_narr (show zcode 148 357 = some (70, 359, 3, 0, []) by decide +kernel) (by decide)
theorem b148_359 {T : zT} {V : zM} {q0 : Int} {p0 : Int} {p1 : Int} (h1 : zO T p0 12) : ev 148 359 [(2, q0), (9, 0)] [(2, p1), (2, p0)] T V = ev 148 362 [(2, q0), (9, 0)] [] (zqw T p0 29 p1) V := by
  exact ev_pr (show zcode 148 359 = some (59, 362, 12, 29, []) by decide +kernel) h1
theorem b148_362 {T : zT} {V : zM} {q0 : Int} : ev 148 362 [(2, q0), (9, 0)] [] T V = ev 148 366 [(2, q0), (9, 0)] [(2, (zsz T)), (2, q0)] (zn T 0 2) (zs V (zsz T) (fun _ => 0)) := by
  refine Eq.trans (ev_lda (show zcode 148 362 = some (6, 363, 0, 0, []) by decide +kernel) rfl (by decide)) ?_
  refine Eq.trans (ev_ci (show zcode 148 363 = some (0, 364, 0, 2, []) by decide +kernel) (by decide)) ?_
  exact ev_narr (show zcode 148 364 = some (70, 366, 0, 0, []) by decide +kernel) (by decide)
theorem b148_366 {T : zT} {V : zM} {q0 : Int} {p0 : Int} {p1 : Int} (h1 : zO T p0 12) : ev 148 366 [(2, q0), (9, 0)] [(2, p1), (2, p0)] T V = ev 148 369 [(2, q0), (9, 0)] [] (zqw T p0 30 p1) V := by
  exact ev_pr (show zcode 148 366 = some (59, 369, 12, 30, []) by decide +kernel) h1
theorem b148_369 {T : zT} {V : zM} {q0 : Int} : ev 148 369 [(2, q0), (9, 0)] [] T V = ev 148 374 [(2, q0), (9, 0)] [(2, (zsz T)), (2, q0)] (zn T 1 50176) (zs V (zsz T) (fun _ => 0)) := by
  refine Eq.trans (ev_lda (show zcode 148 369 = some (6, 370, 0, 0, []) by decide +kernel) rfl (by decide)) ?_
  refine Eq.trans (ev_ci (show zcode 148 370 = some (0, 372, 0, 50176, []) by decide +kernel) (by decide)) ?_
  exact ev_narr (show zcode 148 372 = some (70, 374, 1, 0, []) by decide +kernel) (by decide)
theorem b148_374 {T : zT} {V : zM} {q0 : Int} {p0 : Int} {p1 : Int} (h1 : zO T p0 12) : ev 148 374 [(2, q0), (9, 0)] [(2, p1), (2, p0)] T V = ev 148 377 [(2, q0), (9, 0)] [] (zqw T p0 32 p1) V := by
  exact ev_pr (show zcode 148 374 = some (59, 377, 12, 32, []) by decide +kernel) h1
theorem b148_377 {T : zT} {V : zM} {q0 : Int} : ev 148 377 [(2, q0), (9, 0)] [] T V = ev 148 382 [(2, q0), (9, 0)] [(2, (zsz T)), (2, q0)] (zn T 1 50176) (zs V (zsz T) (fun _ => 0)) := by
  refine Eq.trans (ev_lda (show zcode 148 377 = some (6, 378, 0, 0, []) by decide +kernel) rfl (by decide)) ?_
  refine Eq.trans (ev_ci (show zcode 148 378 = some (0, 380, 0, 50176, []) by decide +kernel) (by decide)) ?_
  exact ev_narr (show zcode 148 380 = some (70, 382, 1, 0, []) by decide +kernel) (by decide)
theorem b148_382 {T : zT} {V : zM} {q0 : Int} {p0 : Int} {p1 : Int} (h1 : zO T p0 12) : ev 148 382 [(2, q0), (9, 0)] [(2, p1), (2, p0)] T V = ev 148 385 [(2, q0), (9, 0)] [] (zqw T p0 33 p1) V := by
  exact ev_pr (show zcode 148 382 = some (59, 385, 12, 33, []) by decide +kernel) h1
theorem b148_385 {T : zT} {V : zM} {q0 : Int} : ev 148 385 [(2, q0), (9, 0)] [] T V = ev 148 391 [(2, q0), (9, 0)] [(2, (zsz T)), (2, q0)] (zn T 0 729) (zs V (zsz T) (fun _ => 0)) := by
  refine Eq.trans (ev_lda (show zcode 148 385 = some (6, 386, 0, 0, []) by decide +kernel) rfl (by decide)) ?_
  refine Eq.trans (ev_ci (show zcode 148 386 = some (0, 389, 0, 729, []) by decide +kernel) (by decide)) ?_
  exact ev_narr (show zcode 148 389 = some (70, 391, 0, 0, []) by decide +kernel) (by decide)
theorem b148_391 {T : zT} {V : zM} {q0 : Int} {p0 : Int} {p1 : Int} (h1 : zO T p0 12) : ev 148 391 [(2, q0), (9, 0)] [(2, p1), (2, p0)] T V = ev 148 394 [(2, q0), (9, 0)] [] (zqw T p0 34 p1) V := by
  exact ev_pr (show zcode 148 391 = some (59, 394, 12, 34, []) by decide +kernel) h1
theorem b148_394 {T : zT} {V : zM} {q0 : Int} : ev 148 394 [(2, q0), (9, 0)] [] T V = ev 148 399 [(2, q0), (9, 0)] [(2, (zsz T)), (2, q0)] (zn T 0 852992) (zs V (zsz T) (fun _ => 0)) := by
  refine Eq.trans (ev_lda (show zcode 148 394 = some (6, 395, 0, 0, []) by decide +kernel) rfl (by decide)) ?_
  refine Eq.trans (ev_ci (show zcode 148 395 = some (0, 397, 0, 852992, []) by decide +kernel) (by decide)) ?_
  exact ev_narr (show zcode 148 397 = some (70, 399, 0, 0, []) by decide +kernel) (by decide)
theorem b148_399 {T : zT} {V : zM} {q0 : Int} {p0 : Int} {p1 : Int} (h1 : zO T p0 12) : ev 148 399 [(2, q0), (9, 0)] [(2, p1), (2, p0)] T V = ev 148 402 [(2, q0), (9, 0)] [] (zqw T p0 35 p1) V := by
  exact ev_pr (show zcode 148 399 = some (59, 402, 12, 35, []) by decide +kernel) h1
theorem b148_402 {T : zT} {V : zM} {q0 : Int} : ev 148 402 [(2, q0), (9, 0)] [] T V = ev 148 408 [(2, q0), (9, 0)] [(2, (zsz T)), (2, q0)] (zn T 0 729) (zs V (zsz T) (fun _ => 0)) := by
  refine Eq.trans (ev_lda (show zcode 148 402 = some (6, 403, 0, 0, []) by decide +kernel) rfl (by decide)) ?_
  refine Eq.trans (ev_ci (show zcode 148 403 = some (0, 406, 0, 729, []) by decide +kernel) (by decide)) ?_
  exact ev_narr (show zcode 148 406 = some (70, 408, 0, 0, []) by decide +kernel) (by decide)
theorem b148_408 {T : zT} {V : zM} {q0 : Int} {p0 : Int} {p1 : Int} (h1 : zO T p0 12) : ev 148 408 [(2, q0), (9, 0)] [(2, p1), (2, p0)] T V = ev 148 411 [(2, q0), (9, 0)] [] (zqw T p0 36 p1) V := by
  exact ev_pr (show zcode 148 408 = some (59, 411, 12, 36, []) by decide +kernel) h1
theorem b148_411 {T : zT} {V : zM} {q0 : Int} {n1 : Int} (h1 : zO T q0 12) (h2 : zAr T (zp T q0 4) 0 n1) (h3 : (0 : Int) ≤ 427 ∧ 427 < n1) : ev 148 411 [(2, q0), (9, 0)] [] T V = ev 148 423 [(2, q0), (0, 0)] [] T (zwr V (zp T q0 4) 427 8) := by
  refine Eq.trans (ev_lda (show zcode 148 411 = some (6, 412, 0, 0, []) by decide +kernel) rfl (by decide)) ?_
  refine Eq.trans (ev_gr (show zcode 148 412 = some (56, 415, 12, 4, []) by decide +kernel) h1) ?_
  refine Eq.trans (ev_ci (show zcode 148 415 = some (0, 418, 0, 427, []) by decide +kernel) (by decide)) ?_
  refine Eq.trans (ev_ci (show zcode 148 418 = some (0, 420, 0, 8, []) by decide +kernel) (by decide)) ?_
  refine Eq.trans (ev_is (show zcode 148 420 = some (64, 421, 0, 0, []) by decide +kernel) h2 h3) ?_
  refine Eq.trans (ev_ci (show zcode 148 421 = some (0, 422, 0, 0, []) by decide +kernel) (by decide)) ?_
  exact ev_sti (show zcode 148 422 = some (7, 423, 1, 0, []) by decide +kernel) ⟨show 1 < 2 by decide, Or.inr (show ¬ (2 : Nat) = 1 by decide)⟩
theorem b148_423 {T : zT} {V : zM} {q0 : Int} {x1 : Int} : ev 148 423 [(2, q0), (0, x1)] [] T V = if 7 ≤ x1 then ev 148 457 [(2, q0), (0, x1)] [] T V else ev 148 429 [(2, q0), (0, x1)] [] T V := by
  refine Eq.trans (ev_ldi (show zcode 148 423 = some (4, 424, 1, 0, []) by decide +kernel) rfl) ?_
  refine Eq.trans (ev_ci (show zcode 148 424 = some (0, 426, 0, 7, []) by decide +kernel) (by decide)) ?_
  exact ev_cge (show zcode 148 426 = some (49, 429, 457, 0, []) by decide +kernel)
theorem b148_429 {T : zT} {V : zM} {q0 : Int} {x1 : Int} {n1 : Int} (h1 : zO T q0 12) (h2 : -2147483648 ≤ (286 + x1) ∧ (286 + x1) ≤ 2147483647) (h3 : zAr T (zp T q0 4) 0 n1) (h4 : (0 : Int) ≤ (286 + x1) ∧ (286 + x1) < n1) (h5 : -2147483648 ≤ (293 + x1) ∧ (293 + x1) ≤ 2147483647) (h6 : (0 : Int) ≤ (293 + x1) ∧ (293 + x1) < n1) (h7 : -2147483648 ≤ (x1 + 1) ∧ (x1 + 1) ≤ 2147483647) : ev 148 429 [(2, q0), (0, x1)] [] T V = ev 148 423 [(2, q0), (0, (x1 + 1))] [] T (zwr (zwr V (zp T q0 4) (286 + x1) x1) (zp T q0 4) (293 + x1) 1) := by
  refine Eq.trans (ev_lda (show zcode 148 429 = some (6, 430, 0, 0, []) by decide +kernel) rfl (by decide)) ?_
  refine Eq.trans (ev_gr (show zcode 148 430 = some (56, 433, 12, 4, []) by decide +kernel) h1) ?_
  refine Eq.trans (ev_ci (show zcode 148 433 = some (0, 436, 0, 286, []) by decide +kernel) (by decide)) ?_
  refine Eq.trans (ev_ldi (show zcode 148 436 = some (4, 437, 1, 0, []) by decide +kernel) rfl) ?_
  refine Eq.trans (ev_add (show zcode 148 437 = some (11, 438, 0, 0, []) by decide +kernel) h2) ?_
  refine Eq.trans (ev_ldi (show zcode 148 438 = some (4, 439, 1, 0, []) by decide +kernel) rfl) ?_
  refine Eq.trans (ev_is (show zcode 148 439 = some (64, 440, 0, 0, []) by decide +kernel) h3 h4) ?_
  refine Eq.trans (ev_lda (show zcode 148 440 = some (6, 441, 0, 0, []) by decide +kernel) rfl (by decide)) ?_
  refine Eq.trans (ev_gr (show zcode 148 441 = some (56, 444, 12, 4, []) by decide +kernel) h1) ?_
  refine Eq.trans (ev_ci (show zcode 148 444 = some (0, 447, 0, 293, []) by decide +kernel) (by decide)) ?_
  refine Eq.trans (ev_ldi (show zcode 148 447 = some (4, 448, 1, 0, []) by decide +kernel) rfl) ?_
  refine Eq.trans (ev_add (show zcode 148 448 = some (11, 449, 0, 0, []) by decide +kernel) h5) ?_
  refine Eq.trans (ev_ci (show zcode 148 449 = some (0, 450, 0, 1, []) by decide +kernel) (by decide)) ?_
  refine Eq.trans (ev_is (show zcode 148 450 = some (64, 451, 0, 0, []) by decide +kernel) h3 h6) ?_
  refine Eq.trans (ev_inc (show zcode 148 451 = some (10, 454, 1, 1, []) by decide +kernel) rfl h7 (Or.inr (show ¬ (2 : Nat) = 1 by decide))) ?_
  exact ev_goto (show zcode 148 454 = some (53, 457, 423, 0, []) by decide +kernel)
theorem b148_457 {T : zT} {V : zM} {q0 : Int} {x1 : Int} : ev 148 457 [(2, q0), (0, x1)] [] T V = some ((9, 0), T, V) := by
  exact ev_rn (show zcode 148 457 = some (73, 458, 0, 0, []) by decide +kernel)
/-! 149: TwoWayWallModel.image(I)I -/
theorem e149 {T : zT} {V : zM} {x1 : Int} : zcall 149 [(2, 130), (0, x1)] T V = ev 149 0 [(2, 130), (0, x1), (9, 0)] [] T V := rfl
theorem b149_0 {T : zT} {V : zM} {x1 : Int} : ev 149 0 [(2, 130), (0, x1), (9, 0)] [] T V = (zcall 150 [(0, x1), (0, 0), (0, 1)] T V).bind fun x => ev 149 6 [(2, 130), (0, x1), (9, 0)] (z_push x.1 []) x.2.1 x.2.2 := by
  refine Eq.trans (ev_ldi (show zcode 149 0 = some (4, 1, 1, 0, []) by decide +kernel) rfl) ?_
  refine Eq.trans (ev_ci (show zcode 149 1 = some (0, 2, 0, 0, []) by decide +kernel) (by decide)) ?_
  refine Eq.trans (ev_ci (show zcode 149 2 = some (0, 3, 0, 1, []) by decide +kernel) (by decide)) ?_
  exact ev_cstat (show zcode 149 3 = some (74, 6, 150, 3, []) by decide +kernel) (args := [(0, x1), (0, 0), (0, 1)]) (rest := []) rfl rfl (show 0 ≤ 8 by decide) ⟨by decide, show 3 ≤ 3 by decide⟩
theorem b149_6 {T : zT} {V : zM} {x1 : Int} {y0 : Int} : ev 149 6 [(2, 130), (0, x1), (9, 0)] [(0, y0)] T V = if y0 = 0 then ev 149 9 [(2, 130), (0, x1), (9, 0)] [] T V else ev 149 15 [(2, 130), (0, x1), (9, 0)] [] T V := by
  exact ev_ne (show zcode 149 6 = some (41, 9, 15, 0, []) by decide +kernel)
theorem b149_9 {T : zT} {V : zM} {x1 : Int} (hS : zStr T)  : ev 149 9 [(2, 130), (0, x1), (9, 0)] [] T V = (zcall 151 [(2, 130), (0, (-1))] T V).bind fun x => ev 149 14 [(2, 130), (0, x1), (9, 0)] (z_push x.1 []) x.2.1 x.2.2 := by
  refine Eq.trans (ev_lda (show zcode 149 9 = some (6, 10, 0, 0, []) by decide +kernel) rfl (by decide)) ?_
  refine Eq.trans (ev_ci (show zcode 149 10 = some (0, 11, 0, (-1), []) by decide +kernel) (by decide)) ?_
  exact ev_cvirt (show zcode 149 11 = some (76, 14, 151, 2, [12]) by decide +kernel) (args := [(0, (-1))]) (rest := []) rfl (so130 hS) rfl (show 0 ≤ 8 by decide) ⟨by decide, show 2 ≤ 2 by decide⟩
theorem b149_14 {T : zT} {V : zM} {x1 : Int} {y0 : Int} : ev 149 14 [(2, 130), (0, x1), (9, 0)] [(0, y0)] T V = some ((0, y0), T, V) := by
  exact ev_ri (show zcode 149 14 = some (72, 15, 0, 0, []) by decide +kernel)
theorem b149_15 {T : zT} {V : zM} {x1 : Int} : ev 149 15 [(2, 130), (0, x1), (9, 0)] [] T V = ev 149 17 [(2, 130), (0, x1), (0, 0)] [] T V := by
  refine Eq.trans (ev_ci (show zcode 149 15 = some (0, 16, 0, 0, []) by decide +kernel) (by decide)) ?_
  exact ev_sti (show zcode 149 16 = some (7, 17, 2, 0, []) by decide +kernel) ⟨show 2 < 3 by decide, Or.inr (show ¬ (0 : Nat) = 1 by decide)⟩
theorem b149_17 {T : zT} {V : zM} {x1 : Int} {x2 : Int} : ev 149 17 [(2, 130), (0, x1), (0, x2)] [] T V = if 428 ≤ x2 then ev 149 48 [(2, 130), (0, x1), (0, x2)] [] T V else ev 149 24 [(2, 130), (0, x1), (0, x2)] [] T V := by
  refine Eq.trans (ev_ldi (show zcode 149 17 = some (4, 18, 2, 0, []) by decide +kernel) rfl) ?_
  refine Eq.trans (ev_ci (show zcode 149 18 = some (0, 21, 0, 428, []) by decide +kernel) (by decide)) ?_
  exact ev_cge (show zcode 149 21 = some (49, 24, 48, 0, []) by decide +kernel)
theorem b149_24 {T : zT} {V : zM} {x1 : Int} {x2 : Int} (hS : zStr T) (h1 : -2147483648 ≤ (428 * x1) ∧ (428 * x1) ≤ 2147483647) (h2 : -2147483648 ≤ ((428 * x1) + x2) ∧ ((428 * x1) + x2) ≤ 2147483647) (h3 : (0 : Int) ≤ x2 ∧ x2 < 428) (h4 : (0 : Int) ≤ ((428 * x1) + x2) ∧ ((428 * x1) + x2) < 856) (h5 : -2147483648 ≤ (x2 + 1) ∧ (x2 + 1) ≤ 2147483647) : ev 149 24 [(2, 130), (0, x1), (0, x2)] [] T V = ev 149 17 [(2, 130), (0, x1), (0, (x2 + 1))] [] T (zwr V 133 ((428 * x1) + x2) (V 132 x2)) := by
  refine Eq.trans (ev_lda (show zcode 149 24 = some (6, 25, 0, 0, []) by decide +kernel) rfl (by decide)) ?_
  refine Eq.trans (ev_gq (show zcode 149 25 = some (56, 28, 12, 5, []) by decide +kernel) (so130 hS) (sp130_5 hS)) ?_
  refine Eq.trans (ev_ci (show zcode 149 28 = some (0, 31, 0, 428, []) by decide +kernel) (by decide)) ?_
  refine Eq.trans (ev_ldi (show zcode 149 31 = some (4, 32, 1, 0, []) by decide +kernel) rfl) ?_
  refine Eq.trans (ev_mul (show zcode 149 32 = some (13, 33, 0, 0, []) by decide +kernel) h1) ?_
  refine Eq.trans (ev_ldi (show zcode 149 33 = some (4, 34, 2, 0, []) by decide +kernel) rfl) ?_
  refine Eq.trans (ev_add (show zcode 149 34 = some (11, 35, 0, 0, []) by decide +kernel) h2) ?_
  refine Eq.trans (ev_lda (show zcode 149 35 = some (6, 36, 0, 0, []) by decide +kernel) rfl (by decide)) ?_
  refine Eq.trans (ev_gq (show zcode 149 36 = some (56, 39, 12, 4, []) by decide +kernel) (so130 hS) (sp130_4 hS)) ?_
  refine Eq.trans (ev_ldi (show zcode 149 39 = some (4, 40, 2, 0, []) by decide +kernel) rfl) ?_
  refine Eq.trans (ev_ia (show zcode 149 40 = some (60, 41, 0, 0, []) by decide +kernel) (sa132 hS) h3) ?_
  refine Eq.trans (ev_is (show zcode 149 41 = some (64, 42, 0, 0, []) by decide +kernel) (sa133 hS) h4) ?_
  refine Eq.trans (ev_inc (show zcode 149 42 = some (10, 45, 2, 1, []) by decide +kernel) rfl h5 (Or.inr (show ¬ (0 : Nat) = 1 by decide))) ?_
  exact ev_goto (show zcode 149 45 = some (53, 48, 17, 0, []) by decide +kernel)
theorem b149_48 {T : zT} {V : zM} {x1 : Int} {x2 : Int} (hS : zStr T) (h1 : (0 : Int) ≤ x1 ∧ x1 < 2) : ev 149 48 [(2, 130), (0, x1), (0, x2)] [] T V = (zcall 152 [(2, 130), (0, 0)] T (zwr V 134 x1 1)).bind fun x => ev 149 60 [(2, 130), (0, x1), (0, x2)] (z_push x.1 []) x.2.1 x.2.2 := by
  refine Eq.trans (ev_lda (show zcode 149 48 = some (6, 49, 0, 0, []) by decide +kernel) rfl (by decide)) ?_
  refine Eq.trans (ev_gq (show zcode 149 49 = some (56, 52, 12, 6, []) by decide +kernel) (so130 hS) (sp130_6 hS)) ?_
  refine Eq.trans (ev_ldi (show zcode 149 52 = some (4, 53, 1, 0, []) by decide +kernel) rfl) ?_
  refine Eq.trans (ev_ci (show zcode 149 53 = some (0, 54, 0, 1, []) by decide +kernel) (by decide)) ?_
  refine Eq.trans (ev_zs (show zcode 149 54 = some (66, 55, 0, 0, []) by decide +kernel) (sa134 hS) h1 (by decide)) ?_
  refine Eq.trans (ev_lda (show zcode 149 55 = some (6, 56, 0, 0, []) by decide +kernel) rfl (by decide)) ?_
  refine Eq.trans (ev_ci (show zcode 149 56 = some (0, 57, 0, 0, []) by decide +kernel) (by decide)) ?_
  exact ev_cvirt (show zcode 149 57 = some (76, 60, 152, 2, [12]) by decide +kernel) (args := [(0, 0)]) (rest := []) rfl (so130 hS) rfl (show 0 ≤ 8 by decide) ⟨by decide, show 2 ≤ 2 by decide⟩
theorem b149_60 {T : zT} {V : zM} {x1 : Int} {x2 : Int} {y0 : Int} : ev 149 60 [(2, 130), (0, x1), (0, x2)] [(0, y0)] T V = some ((0, y0), T, V) := by
  exact ev_ri (show zcode 149 60 = some (72, 61, 0, 0, []) by decide +kernel)
/-! 150: TwoWayWallModel.lies(III)Z -/
theorem e150 {T : zT} {V : zM} {x0 : Int} {x1 : Int} {x2 : Int} : zcall 150 [(0, x0), (0, x1), (0, x2)] T V = ev 150 0 [(0, x0), (0, x1), (0, x2)] [] T V := rfl
theorem b150_0 {T : zT} {V : zM} {x0 : Int} {x1 : Int} {x2 : Int} : ev 150 0 [(0, x0), (0, x1), (0, x2)] [] T V = if x0 < x1 then ev 150 14 [(0, x0), (0, x1), (0, x2)] [] T V else ev 150 5 [(0, x0), (0, x1), (0, x2)] [] T V := by
  refine Eq.trans (ev_ldi (show zcode 150 0 = some (4, 1, 0, 0, []) by decide +kernel) rfl) ?_
  refine Eq.trans (ev_ldi (show zcode 150 1 = some (4, 2, 1, 0, []) by decide +kernel) rfl) ?_
  exact ev_clt (show zcode 150 2 = some (48, 5, 14, 0, []) by decide +kernel)
theorem b150_5 {T : zT} {V : zM} {x0 : Int} {x1 : Int} {x2 : Int} : ev 150 5 [(0, x0), (0, x1), (0, x2)] [] T V = if x2 < x0 then ev 150 14 [(0, x0), (0, x1), (0, x2)] [] T V else ev 150 10 [(0, x0), (0, x1), (0, x2)] [] T V := by
  refine Eq.trans (ev_ldi (show zcode 150 5 = some (4, 6, 0, 0, []) by decide +kernel) rfl) ?_
  refine Eq.trans (ev_ldi (show zcode 150 6 = some (4, 7, 2, 0, []) by decide +kernel) rfl) ?_
  exact ev_cgt (show zcode 150 7 = some (50, 10, 14, 0, []) by decide +kernel)
theorem b150_10 {T : zT} {V : zM} {x0 : Int} {x1 : Int} {x2 : Int} : ev 150 10 [(0, x0), (0, x1), (0, x2)] [] T V = ev 150 15 [(0, x0), (0, x1), (0, x2)] [(0, 1)] T V := by
  refine Eq.trans (ev_ci (show zcode 150 10 = some (0, 11, 0, 1, []) by decide +kernel) (by decide)) ?_
  exact ev_goto (show zcode 150 11 = some (53, 14, 15, 0, []) by decide +kernel)
theorem b150_14 {T : zT} {V : zM} {x0 : Int} {x1 : Int} {x2 : Int} : ev 150 14 [(0, x0), (0, x1), (0, x2)] [] T V = ev 150 15 [(0, x0), (0, x1), (0, x2)] [(0, 0)] T V := by
  exact ev_ci (show zcode 150 14 = some (0, 15, 0, 0, []) by decide +kernel) (by decide)
theorem b150_15 {T : zT} {V : zM} {x0 : Int} {x1 : Int} {x2 : Int} {y0 : Int} (h1 : (0 : Int) ≤ y0 ∧ y0 ≤ 1) : ev 150 15 [(0, x0), (0, x1), (0, x2)] [(0, y0)] T V = some ((0, y0), T, V) := by
  exact ev_rz (show zcode 150 15 = some (72, 16, 3, 0, []) by decide +kernel) h1
/-! 151: TwoWayWallModel.refuses(I)I -/
theorem e151 {T : zT} {V : zM} {x1 : Int} : zcall 151 [(2, 130), (0, x1)] T V = ev 151 0 [(2, 130), (0, x1)] [] T V := rfl
theorem b151_0 {T : zT} {V : zM} {x1 : Int} (hS : zStr T) (h1 : -2147483648 ≤ (-x1) ∧ (-x1) ≤ 2147483647) (h2 : (0 : Int) ≤ (-x1) ∧ (-x1) < 7) (h3 : -2147483648 ≤ (((zwr V 130 0 x1) 131 (-x1)) + 1) ∧ (((zwr V 130 0 x1) 131 (-x1)) + 1) ≤ 2147483647) : ev 151 0 [(2, 130), (0, x1)] [] T V = some ((0, x1), T, (zwr (zwr V 130 0 x1) 131 (-x1) (((zwr V 130 0 x1) 131 (-x1)) + 1))) := by
  refine Eq.trans (ev_lda (show zcode 151 0 = some (6, 1, 0, 0, []) by decide +kernel) rfl (by decide)) ?_
  refine Eq.trans (ev_ldi (show zcode 151 1 = some (4, 2, 1, 0, []) by decide +kernel) rfl) ?_
  refine Eq.trans (ev_pi (show zcode 151 2 = some (57, 5, 12, 0, []) by decide +kernel) (so130 hS)) ?_
  refine Eq.trans (ev_lda (show zcode 151 5 = some (6, 6, 0, 0, []) by decide +kernel) rfl (by decide)) ?_
  refine Eq.trans (ev_gq (show zcode 151 6 = some (56, 9, 12, 3, []) by decide +kernel) (so130 hS) (sp130_3 hS)) ?_
  refine Eq.trans (ev_ldi (show zcode 151 9 = some (4, 10, 1, 0, []) by decide +kernel) rfl) ?_
  refine Eq.trans (ev_neg (show zcode 151 10 = some (19, 11, 0, 0, []) by decide +kernel) h1) ?_
  refine Eq.trans (ev_dup2 (show zcode 151 11 = some (38, 12, 0, 0, []) by decide +kernel) (by decide)) ?_
  refine Eq.trans (ev_ia (show zcode 151 12 = some (60, 13, 0, 0, []) by decide +kernel) (sa131 hS) h2) ?_
  refine Eq.trans (ev_ci (show zcode 151 13 = some (0, 14, 0, 1, []) by decide +kernel) (by decide)) ?_
  refine Eq.trans (ev_add (show zcode 151 14 = some (11, 15, 0, 0, []) by decide +kernel) h3) ?_
  refine Eq.trans (ev_is (show zcode 151 15 = some (64, 16, 0, 0, []) by decide +kernel) (sa131 hS) h2) ?_
  refine Eq.trans (ev_ldi (show zcode 151 16 = some (4, 17, 1, 0, []) by decide +kernel) rfl) ?_
  exact ev_ri (show zcode 151 17 = some (72, 18, 0, 0, []) by decide +kernel)
/-! 152: TwoWayWallModel.good(I)I -/
theorem e152 {T : zT} {V : zM} {x1 : Int} : zcall 152 [(2, 130), (0, x1)] T V = ev 152 0 [(2, 130), (0, x1)] [] T V := rfl
theorem b152_0 {T : zT} {V : zM} {x1 : Int} (hS : zStr T)  : ev 152 0 [(2, 130), (0, x1)] [] T V = some ((0, x1), T, (zwr V 130 0 0)) := by
  refine Eq.trans (ev_lda (show zcode 152 0 = some (6, 1, 0, 0, []) by decide +kernel) rfl (by decide)) ?_
  refine Eq.trans (ev_ci (show zcode 152 1 = some (0, 2, 0, 0, []) by decide +kernel) (by decide)) ?_
  refine Eq.trans (ev_pi (show zcode 152 2 = some (57, 5, 12, 0, []) by decide +kernel) (so130 hS)) ?_
  refine Eq.trans (ev_ldi (show zcode 152 5 = some (4, 6, 1, 0, []) by decide +kernel) rfl) ?_
  exact ev_ri (show zcode 152 6 = some (72, 7, 0, 0, []) by decide +kernel)
/-! 153: TwoWayWallModel.back(I)I -/
theorem e153 {T : zT} {V : zM} {x1 : Int} : zcall 153 [(2, 130), (0, x1)] T V = ev 153 0 [(2, 130), (0, x1), (9, 0)] [] T V := rfl
theorem b153_0 {T : zT} {V : zM} {x1 : Int} : ev 153 0 [(2, 130), (0, x1), (9, 0)] [] T V = (zcall 150 [(0, x1), (0, 0), (0, 1)] T V).bind fun x => ev 153 6 [(2, 130), (0, x1), (9, 0)] (z_push x.1 []) x.2.1 x.2.2 := by
  refine Eq.trans (ev_ldi (show zcode 153 0 = some (4, 1, 1, 0, []) by decide +kernel) rfl) ?_
  refine Eq.trans (ev_ci (show zcode 153 1 = some (0, 2, 0, 0, []) by decide +kernel) (by decide)) ?_
  refine Eq.trans (ev_ci (show zcode 153 2 = some (0, 3, 0, 1, []) by decide +kernel) (by decide)) ?_
  exact ev_cstat (show zcode 153 3 = some (74, 6, 150, 3, []) by decide +kernel) (args := [(0, x1), (0, 0), (0, 1)]) (rest := []) rfl rfl (show 0 ≤ 8 by decide) ⟨by decide, show 3 ≤ 3 by decide⟩
theorem b153_6 {T : zT} {V : zM} {x1 : Int} {y0 : Int} : ev 153 6 [(2, 130), (0, x1), (9, 0)] [(0, y0)] T V = if y0 = 0 then ev 153 9 [(2, 130), (0, x1), (9, 0)] [] T V else ev 153 15 [(2, 130), (0, x1), (9, 0)] [] T V := by
  exact ev_ne (show zcode 153 6 = some (41, 9, 15, 0, []) by decide +kernel)
theorem b153_9 {T : zT} {V : zM} {x1 : Int} (hS : zStr T)  : ev 153 9 [(2, 130), (0, x1), (9, 0)] [] T V = (zcall 151 [(2, 130), (0, (-1))] T V).bind fun x => ev 153 14 [(2, 130), (0, x1), (9, 0)] (z_push x.1 []) x.2.1 x.2.2 := by
  refine Eq.trans (ev_lda (show zcode 153 9 = some (6, 10, 0, 0, []) by decide +kernel) rfl (by decide)) ?_
  refine Eq.trans (ev_ci (show zcode 153 10 = some (0, 11, 0, (-1), []) by decide +kernel) (by decide)) ?_
  exact ev_cvirt (show zcode 153 11 = some (76, 14, 151, 2, [12]) by decide +kernel) (args := [(0, (-1))]) (rest := []) rfl (so130 hS) rfl (show 0 ≤ 8 by decide) ⟨by decide, show 2 ≤ 2 by decide⟩
theorem b153_14 {T : zT} {V : zM} {x1 : Int} {y0 : Int} : ev 153 14 [(2, 130), (0, x1), (9, 0)] [(0, y0)] T V = some ((0, y0), T, V) := by
  exact ev_ri (show zcode 153 14 = some (72, 15, 0, 0, []) by decide +kernel)
theorem b153_15 {T : zT} {V : zM} {x1 : Int} (hS : zStr T) (h1 : (0 : Int) ≤ x1 ∧ x1 < 2) : ev 153 15 [(2, 130), (0, x1), (9, 0)] [] T V = if (V 134 x1) = 0 then ev 153 24 [(2, 130), (0, x1), (9, 0)] [] T V else ev 153 31 [(2, 130), (0, x1), (9, 0)] [] T V := by
  refine Eq.trans (ev_lda (show zcode 153 15 = some (6, 16, 0, 0, []) by decide +kernel) rfl (by decide)) ?_
  refine Eq.trans (ev_gq (show zcode 153 16 = some (56, 19, 12, 6, []) by decide +kernel) (so130 hS) (sp130_6 hS)) ?_
  refine Eq.trans (ev_ldi (show zcode 153 19 = some (4, 20, 1, 0, []) by decide +kernel) rfl) ?_
  refine Eq.trans (ev_za (show zcode 153 20 = some (62, 21, 0, 0, []) by decide +kernel) (sa134 hS) h1) ?_
  exact ev_ne (show zcode 153 21 = some (41, 24, 31, 0, []) by decide +kernel)
theorem b153_24 {T : zT} {V : zM} {x1 : Int} (hS : zStr T)  : ev 153 24 [(2, 130), (0, x1), (9, 0)] [] T V = (zcall 151 [(2, 130), (0, (-2))] T V).bind fun x => ev 153 30 [(2, 130), (0, x1), (9, 0)] (z_push x.1 []) x.2.1 x.2.2 := by
  refine Eq.trans (ev_lda (show zcode 153 24 = some (6, 25, 0, 0, []) by decide +kernel) rfl (by decide)) ?_
  refine Eq.trans (ev_ci (show zcode 153 25 = some (0, 27, 0, (-2), []) by decide +kernel) (by decide)) ?_
  exact ev_cvirt (show zcode 153 27 = some (76, 30, 151, 2, [12]) by decide +kernel) (args := [(0, (-2))]) (rest := []) rfl (so130 hS) rfl (show 0 ≤ 8 by decide) ⟨by decide, show 2 ≤ 2 by decide⟩
theorem b153_30 {T : zT} {V : zM} {x1 : Int} {y0 : Int} : ev 153 30 [(2, 130), (0, x1), (9, 0)] [(0, y0)] T V = some ((0, y0), T, V) := by
  exact ev_ri (show zcode 153 30 = some (72, 31, 0, 0, []) by decide +kernel)
theorem b153_31 {T : zT} {V : zM} {x1 : Int} : ev 153 31 [(2, 130), (0, x1), (9, 0)] [] T V = ev 153 33 [(2, 130), (0, x1), (0, 0)] [] T V := by
  refine Eq.trans (ev_ci (show zcode 153 31 = some (0, 32, 0, 0, []) by decide +kernel) (by decide)) ?_
  exact ev_sti (show zcode 153 32 = some (7, 33, 2, 0, []) by decide +kernel) ⟨show 2 < 3 by decide, Or.inr (show ¬ (0 : Nat) = 1 by decide)⟩
theorem b153_33 {T : zT} {V : zM} {x1 : Int} {x2 : Int} : ev 153 33 [(2, 130), (0, x1), (0, x2)] [] T V = if 428 ≤ x2 then ev 153 64 [(2, 130), (0, x1), (0, x2)] [] T V else ev 153 40 [(2, 130), (0, x1), (0, x2)] [] T V := by
  refine Eq.trans (ev_ldi (show zcode 153 33 = some (4, 34, 2, 0, []) by decide +kernel) rfl) ?_
  refine Eq.trans (ev_ci (show zcode 153 34 = some (0, 37, 0, 428, []) by decide +kernel) (by decide)) ?_
  exact ev_cge (show zcode 153 37 = some (49, 40, 64, 0, []) by decide +kernel)
theorem b153_40 {T : zT} {V : zM} {x1 : Int} {x2 : Int} (hS : zStr T) (h1 : -2147483648 ≤ (428 * x1) ∧ (428 * x1) ≤ 2147483647) (h2 : -2147483648 ≤ ((428 * x1) + x2) ∧ ((428 * x1) + x2) ≤ 2147483647) (h3 : (0 : Int) ≤ ((428 * x1) + x2) ∧ ((428 * x1) + x2) < 856) (h4 : (0 : Int) ≤ x2 ∧ x2 < 428) (h5 : -2147483648 ≤ (x2 + 1) ∧ (x2 + 1) ≤ 2147483647) : ev 153 40 [(2, 130), (0, x1), (0, x2)] [] T V = ev 153 33 [(2, 130), (0, x1), (0, (x2 + 1))] [] T (zwr V 132 x2 (V 133 ((428 * x1) + x2))) := by
  refine Eq.trans (ev_lda (show zcode 153 40 = some (6, 41, 0, 0, []) by decide +kernel) rfl (by decide)) ?_
  refine Eq.trans (ev_gq (show zcode 153 41 = some (56, 44, 12, 4, []) by decide +kernel) (so130 hS) (sp130_4 hS)) ?_
  refine Eq.trans (ev_ldi (show zcode 153 44 = some (4, 45, 2, 0, []) by decide +kernel) rfl) ?_
  refine Eq.trans (ev_lda (show zcode 153 45 = some (6, 46, 0, 0, []) by decide +kernel) rfl (by decide)) ?_
  refine Eq.trans (ev_gq (show zcode 153 46 = some (56, 49, 12, 5, []) by decide +kernel) (so130 hS) (sp130_5 hS)) ?_
  refine Eq.trans (ev_ci (show zcode 153 49 = some (0, 52, 0, 428, []) by decide +kernel) (by decide)) ?_
  refine Eq.trans (ev_ldi (show zcode 153 52 = some (4, 53, 1, 0, []) by decide +kernel) rfl) ?_
  refine Eq.trans (ev_mul (show zcode 153 53 = some (13, 54, 0, 0, []) by decide +kernel) h1) ?_
  refine Eq.trans (ev_ldi (show zcode 153 54 = some (4, 55, 2, 0, []) by decide +kernel) rfl) ?_
  refine Eq.trans (ev_add (show zcode 153 55 = some (11, 56, 0, 0, []) by decide +kernel) h2) ?_
  refine Eq.trans (ev_ia (show zcode 153 56 = some (60, 57, 0, 0, []) by decide +kernel) (sa133 hS) h3) ?_
  refine Eq.trans (ev_is (show zcode 153 57 = some (64, 58, 0, 0, []) by decide +kernel) (sa132 hS) h4) ?_
  refine Eq.trans (ev_inc (show zcode 153 58 = some (10, 61, 2, 1, []) by decide +kernel) rfl h5 (Or.inr (show ¬ (0 : Nat) = 1 by decide))) ?_
  exact ev_goto (show zcode 153 61 = some (53, 64, 33, 0, []) by decide +kernel)
theorem b153_64 {T : zT} {V : zM} {x1 : Int} {x2 : Int} (hS : zStr T) (h1 : -2147483648 ≤ ((V 130 1) + 1) ∧ ((V 130 1) + 1) ≤ 2147483647) : ev 153 64 [(2, 130), (0, x1), (0, x2)] [] T V = (zcall 152 [(2, 130), (0, 0)] T (zwr V 130 1 ((V 130 1) + 1))).bind fun x => ev 153 79 [(2, 130), (0, x1), (0, x2)] (z_push x.1 []) x.2.1 x.2.2 := by
  refine Eq.trans (ev_lda (show zcode 153 64 = some (6, 65, 0, 0, []) by decide +kernel) rfl (by decide)) ?_
  refine Eq.trans (ev_dup (show zcode 153 65 = some (36, 66, 0, 0, []) by decide +kernel) (by decide)) ?_
  refine Eq.trans (ev_gi (show zcode 153 66 = some (55, 69, 12, 1, []) by decide +kernel) (so130 hS)) ?_
  refine Eq.trans (ev_ci (show zcode 153 69 = some (0, 70, 0, 1, []) by decide +kernel) (by decide)) ?_
  refine Eq.trans (ev_add (show zcode 153 70 = some (11, 71, 0, 0, []) by decide +kernel) h1) ?_
  refine Eq.trans (ev_pi (show zcode 153 71 = some (57, 74, 12, 1, []) by decide +kernel) (so130 hS)) ?_
  refine Eq.trans (ev_lda (show zcode 153 74 = some (6, 75, 0, 0, []) by decide +kernel) rfl (by decide)) ?_
  refine Eq.trans (ev_ci (show zcode 153 75 = some (0, 76, 0, 0, []) by decide +kernel) (by decide)) ?_
  exact ev_cvirt (show zcode 153 76 = some (76, 79, 152, 2, [12]) by decide +kernel) (args := [(0, 0)]) (rest := []) rfl (so130 hS) rfl (show 0 ≤ 8 by decide) ⟨by decide, show 2 ≤ 2 by decide⟩
theorem b153_79 {T : zT} {V : zM} {x1 : Int} {x2 : Int} {y0 : Int} : ev 153 79 [(2, 130), (0, x1), (0, x2)] [(0, y0)] T V = some ((0, y0), T, V) := by
  exact ev_ri (show zcode 153 79 = some (72, 80, 0, 0, []) by decide +kernel)
/-! 154: TwoWayWallModel.size(I)I -/
theorem e154 {T : zT} {V : zM} {x1 : Int} : zcall 154 [(2, 130), (0, x1)] T V = ev 154 0 [(2, 130), (0, x1), (9, 0)] [] T V := rfl
theorem b154_0 {T : zT} {V : zM} {x1 : Int} : ev 154 0 [(2, 130), (0, x1), (9, 0)] [] T V = (zcall 150 [(0, x1), (0, 1), (0, 16)] T V).bind fun x => ev 154 7 [(2, 130), (0, x1), (9, 0)] (z_push x.1 []) x.2.1 x.2.2 := by
  refine Eq.trans (ev_ldi (show zcode 154 0 = some (4, 1, 1, 0, []) by decide +kernel) rfl) ?_
  refine Eq.trans (ev_ci (show zcode 154 1 = some (0, 2, 0, 1, []) by decide +kernel) (by decide)) ?_
  refine Eq.trans (ev_ci (show zcode 154 2 = some (0, 4, 0, 16, []) by decide +kernel) (by decide)) ?_
  exact ev_cstat (show zcode 154 4 = some (74, 7, 150, 3, []) by decide +kernel) (args := [(0, x1), (0, 1), (0, 16)]) (rest := []) rfl rfl (show 0 ≤ 8 by decide) ⟨by decide, show 3 ≤ 3 by decide⟩
theorem b154_7 {T : zT} {V : zM} {x1 : Int} {y0 : Int} : ev 154 7 [(2, 130), (0, x1), (9, 0)] [(0, y0)] T V = if y0 = 0 then ev 154 10 [(2, 130), (0, x1), (9, 0)] [] T V else ev 154 16 [(2, 130), (0, x1), (9, 0)] [] T V := by
  exact ev_ne (show zcode 154 7 = some (41, 10, 16, 0, []) by decide +kernel)
theorem b154_10 {T : zT} {V : zM} {x1 : Int} (hS : zStr T)  : ev 154 10 [(2, 130), (0, x1), (9, 0)] [] T V = (zcall 151 [(2, 130), (0, (-1))] T V).bind fun x => ev 154 15 [(2, 130), (0, x1), (9, 0)] (z_push x.1 []) x.2.1 x.2.2 := by
  refine Eq.trans (ev_lda (show zcode 154 10 = some (6, 11, 0, 0, []) by decide +kernel) rfl (by decide)) ?_
  refine Eq.trans (ev_ci (show zcode 154 11 = some (0, 12, 0, (-1), []) by decide +kernel) (by decide)) ?_
  exact ev_cvirt (show zcode 154 12 = some (76, 15, 151, 2, [12]) by decide +kernel) (args := [(0, (-1))]) (rest := []) rfl (so130 hS) rfl (show 0 ≤ 8 by decide) ⟨by decide, show 2 ≤ 2 by decide⟩
theorem b154_15 {T : zT} {V : zM} {x1 : Int} {y0 : Int} : ev 154 15 [(2, 130), (0, x1), (9, 0)] [(0, y0)] T V = some ((0, y0), T, V) := by
  exact ev_ri (show zcode 154 15 = some (72, 16, 0, 0, []) by decide +kernel)
theorem b154_16 {T : zT} {V : zM} {x1 : Int} (hS : zStr T)  : ev 154 16 [(2, 130), (0, x1), (9, 0)] [] T V = (zcall 155 [(2, 130), (0, x1)] T V).bind fun x => ev 154 30 [(2, 130), (0, x1), (0, (V 132 427))] (z_push x.1 []) x.2.1 x.2.2 := by
  refine Eq.trans (ev_lda (show zcode 154 16 = some (6, 17, 0, 0, []) by decide +kernel) rfl (by decide)) ?_
  refine Eq.trans (ev_gq (show zcode 154 17 = some (56, 20, 12, 4, []) by decide +kernel) (so130 hS) (sp130_4 hS)) ?_
  refine Eq.trans (ev_ci (show zcode 154 20 = some (0, 23, 0, 427, []) by decide +kernel) (by decide)) ?_
  refine Eq.trans (ev_ia (show zcode 154 23 = some (60, 24, 0, 0, []) by decide +kernel) (sa132 hS) (by decide)) ?_
  refine Eq.trans (ev_sti (show zcode 154 24 = some (7, 25, 2, 0, []) by decide +kernel) ⟨show 2 < 3 by decide, Or.inr (show ¬ (0 : Nat) = 1 by decide)⟩) ?_
  refine Eq.trans (ev_lda (show zcode 154 25 = some (6, 26, 0, 0, []) by decide +kernel) rfl (by decide)) ?_
  refine Eq.trans (ev_ldi (show zcode 154 26 = some (4, 27, 1, 0, []) by decide +kernel) rfl) ?_
  exact ev_cvirt (show zcode 154 27 = some (76, 30, 155, 2, [12]) by decide +kernel) (args := [(0, x1)]) (rest := []) rfl (so130 hS) rfl (show 0 ≤ 8 by decide) ⟨by decide, show 2 ≤ 3 by decide⟩
theorem b154_30 {T : zT} {V : zM} {x1 : Int} {x2 : Int} (hS : zStr T)  : ev 154 30 [(2, 130), (0, x1), (0, x2)] [] T V = (zcall 152 [(2, 130), (0, x2)] T V).bind fun x => ev 154 35 [(2, 130), (0, x1), (0, x2)] (z_push x.1 []) x.2.1 x.2.2 := by
  refine Eq.trans (ev_lda (show zcode 154 30 = some (6, 31, 0, 0, []) by decide +kernel) rfl (by decide)) ?_
  refine Eq.trans (ev_ldi (show zcode 154 31 = some (4, 32, 2, 0, []) by decide +kernel) rfl) ?_
  exact ev_cvirt (show zcode 154 32 = some (76, 35, 152, 2, [12]) by decide +kernel) (args := [(0, x2)]) (rest := []) rfl (so130 hS) rfl (show 0 ≤ 8 by decide) ⟨by decide, show 2 ≤ 2 by decide⟩
theorem b154_35 {T : zT} {V : zM} {x1 : Int} {x2 : Int} {y0 : Int} : ev 154 35 [(2, 130), (0, x1), (0, x2)] [(0, y0)] T V = some ((0, y0), T, V) := by
  exact ev_ri (show zcode 154 35 = some (72, 36, 0, 0, []) by decide +kernel)
/-! 155: TwoWayWallModel.sizes(I)V -/
theorem e155 {T : zT} {V : zM} {x1 : Int} : zcall 155 [(2, 130), (0, x1)] T V = ev 155 0 [(2, 130), (0, x1), (9, 0)] [] T V := rfl
theorem b155_0 {T : zT} {V : zM} {x1 : Int} : ev 155 0 [(2, 130), (0, x1), (9, 0)] [] T V = ev 155 2 [(2, 130), (0, x1), (0, x1)] [] T V := by
  refine Eq.trans (ev_ldi (show zcode 155 0 = some (4, 1, 1, 0, []) by decide +kernel) rfl) ?_
  exact ev_sti (show zcode 155 1 = some (7, 2, 2, 0, []) by decide +kernel) ⟨show 2 < 3 by decide, Or.inr (show ¬ (0 : Nat) = 1 by decide)⟩
theorem b155_2 {T : zT} {V : zM} {x1 : Int} {x2 : Int} : ev 155 2 [(2, 130), (0, x1), (0, x2)] [] T V = if 16 ≤ x2 then ev 155 36 [(2, 130), (0, x1), (0, x2)] [] T V else ev 155 8 [(2, 130), (0, x1), (0, x2)] [] T V := by
  refine Eq.trans (ev_ldi (show zcode 155 2 = some (4, 3, 2, 0, []) by decide +kernel) rfl) ?_
  refine Eq.trans (ev_ci (show zcode 155 3 = some (0, 5, 0, 16, []) by decide +kernel) (by decide)) ?_
  exact ev_cge (show zcode 155 5 = some (49, 8, 36, 0, []) by decide +kernel)
theorem b155_8 {T : zT} {V : zM} {x1 : Int} {x2 : Int} (hS : zStr T) (h1 : -2147483648 ≤ (300 + x2) ∧ (300 + x2) ≤ 2147483647) (h2 : (0 : Int) ≤ (300 + x2) ∧ (300 + x2) < 428) (h3 : -2147483648 ≤ (316 + x2) ∧ (316 + x2) ≤ 2147483647) (h4 : (0 : Int) ≤ (316 + x2) ∧ (316 + x2) < 428) (h5 : -2147483648 ≤ (x2 + 1) ∧ (x2 + 1) ≤ 2147483647) : ev 155 8 [(2, 130), (0, x1), (0, x2)] [] T V = ev 155 2 [(2, 130), (0, x1), (0, (x2 + 1))] [] T (zwr (zwr V 132 (300 + x2) 0) 132 (316 + x2) 0) := by
  refine Eq.trans (ev_lda (show zcode 155 8 = some (6, 9, 0, 0, []) by decide +kernel) rfl (by decide)) ?_
  refine Eq.trans (ev_gq (show zcode 155 9 = some (56, 12, 12, 4, []) by decide +kernel) (so130 hS) (sp130_4 hS)) ?_
  refine Eq.trans (ev_ci (show zcode 155 12 = some (0, 15, 0, 300, []) by decide +kernel) (by decide)) ?_
  refine Eq.trans (ev_ldi (show zcode 155 15 = some (4, 16, 2, 0, []) by decide +kernel) rfl) ?_
  refine Eq.trans (ev_add (show zcode 155 16 = some (11, 17, 0, 0, []) by decide +kernel) h1) ?_
  refine Eq.trans (ev_ci (show zcode 155 17 = some (0, 18, 0, 0, []) by decide +kernel) (by decide)) ?_
  refine Eq.trans (ev_is (show zcode 155 18 = some (64, 19, 0, 0, []) by decide +kernel) (sa132 hS) h2) ?_
  refine Eq.trans (ev_lda (show zcode 155 19 = some (6, 20, 0, 0, []) by decide +kernel) rfl (by decide)) ?_
  refine Eq.trans (ev_gq (show zcode 155 20 = some (56, 23, 12, 4, []) by decide +kernel) (so130 hS) (sp130_4 hS)) ?_
  refine Eq.trans (ev_ci (show zcode 155 23 = some (0, 26, 0, 316, []) by decide +kernel) (by decide)) ?_
  refine Eq.trans (ev_ldi (show zcode 155 26 = some (4, 27, 2, 0, []) by decide +kernel) rfl) ?_
  refine Eq.trans (ev_add (show zcode 155 27 = some (11, 28, 0, 0, []) by decide +kernel) h3) ?_
  refine Eq.trans (ev_ci (show zcode 155 28 = some (0, 29, 0, 0, []) by decide +kernel) (by decide)) ?_
  refine Eq.trans (ev_is (show zcode 155 29 = some (64, 30, 0, 0, []) by decide +kernel) (sa132 hS) h4) ?_
  refine Eq.trans (ev_inc (show zcode 155 30 = some (10, 33, 2, 1, []) by decide +kernel) rfl h5 (Or.inr (show ¬ (0 : Nat) = 1 by decide))) ?_
  exact ev_goto (show zcode 155 33 = some (53, 36, 2, 0, []) by decide +kernel)
theorem b155_36 {T : zT} {V : zM} {x1 : Int} {x2 : Int} (hS : zStr T) (h1 : -2147483648 ≤ (((zwr V 132 427 x1) 130 1) + 1) ∧ (((zwr V 132 427 x1) 130 1) + 1) ≤ 2147483647) : ev 155 36 [(2, 130), (0, x1), (0, x2)] [] T V = some ((9, 0), T, (zwr (zwr V 132 427 x1) 130 1 (((zwr V 132 427 x1) 130 1) + 1))) := by
  refine Eq.trans (ev_lda (show zcode 155 36 = some (6, 37, 0, 0, []) by decide +kernel) rfl (by decide)) ?_
  refine Eq.trans (ev_gq (show zcode 155 37 = some (56, 40, 12, 4, []) by decide +kernel) (so130 hS) (sp130_4 hS)) ?_
  refine Eq.trans (ev_ci (show zcode 155 40 = some (0, 43, 0, 427, []) by decide +kernel) (by decide)) ?_
  refine Eq.trans (ev_ldi (show zcode 155 43 = some (4, 44, 1, 0, []) by decide +kernel) rfl) ?_
  refine Eq.trans (ev_is (show zcode 155 44 = some (64, 45, 0, 0, []) by decide +kernel) (sa132 hS) (by decide)) ?_
  refine Eq.trans (ev_lda (show zcode 155 45 = some (6, 46, 0, 0, []) by decide +kernel) rfl (by decide)) ?_
  refine Eq.trans (ev_dup (show zcode 155 46 = some (36, 47, 0, 0, []) by decide +kernel) (by decide)) ?_
  refine Eq.trans (ev_gi (show zcode 155 47 = some (55, 50, 12, 1, []) by decide +kernel) (so130 hS)) ?_
  refine Eq.trans (ev_ci (show zcode 155 50 = some (0, 51, 0, 1, []) by decide +kernel) (by decide)) ?_
  refine Eq.trans (ev_add (show zcode 155 51 = some (11, 52, 0, 0, []) by decide +kernel) h1) ?_
  refine Eq.trans (ev_pi (show zcode 155 52 = some (57, 55, 12, 1, []) by decide +kernel) (so130 hS)) ?_
  exact ev_rn (show zcode 155 55 = some (73, 56, 0, 0, []) by decide +kernel)
/-! 156: TwoWayWallModel.paint(II)I -/
theorem e156 {T : zT} {V : zM} {x1 : Int} {x2 : Int} : zcall 156 [(2, 130), (0, x1), (0, x2)] T V = ev 156 0 [(2, 130), (0, x1), (0, x2), (9, 0)] [] T V := rfl
theorem b156_0 {T : zT} {V : zM} {x1 : Int} {x2 : Int} (hS : zStr T)  : ev 156 0 [(2, 130), (0, x1), (0, x2), (9, 0)] [] T V = (zcall 157 [(2, 130), (0, x1)] T V).bind fun x => ev 156 5 [(2, 130), (0, x1), (0, x2), (9, 0)] (z_push x.1 []) x.2.1 x.2.2 := by
  refine Eq.trans (ev_lda (show zcode 156 0 = some (6, 1, 0, 0, []) by decide +kernel) rfl (by decide)) ?_
  refine Eq.trans (ev_ldi (show zcode 156 1 = some (4, 2, 1, 0, []) by decide +kernel) rfl) ?_
  exact ev_cvirt (show zcode 156 2 = some (76, 5, 157, 2, [12]) by decide +kernel) (args := [(0, x1)]) (rest := []) rfl (so130 hS) rfl (show 0 ≤ 8 by decide) ⟨by decide, show 2 ≤ 2 by decide⟩
theorem b156_5 {T : zT} {V : zM} {x1 : Int} {x2 : Int} {y0 : Int} : ev 156 5 [(2, 130), (0, x1), (0, x2), (9, 0)] [(0, y0)] T V = if y0 = 0 then ev 156 18 [(2, 130), (0, x1), (0, x2), (9, 0)] [] T V else ev 156 8 [(2, 130), (0, x1), (0, x2), (9, 0)] [] T V := by
  exact ev_eq (show zcode 156 5 = some (40, 8, 18, 0, []) by decide +kernel)
theorem b156_8 {T : zT} {V : zM} {x1 : Int} {x2 : Int} : ev 156 8 [(2, 130), (0, x1), (0, x2), (9, 0)] [] T V = (zcall 150 [(0, x2), (0, 0), (0, 127)] T V).bind fun x => ev 156 15 [(2, 130), (0, x1), (0, x2), (9, 0)] (z_push x.1 []) x.2.1 x.2.2 := by
  refine Eq.trans (ev_ldi (show zcode 156 8 = some (4, 9, 2, 0, []) by decide +kernel) rfl) ?_
  refine Eq.trans (ev_ci (show zcode 156 9 = some (0, 10, 0, 0, []) by decide +kernel) (by decide)) ?_
  refine Eq.trans (ev_ci (show zcode 156 10 = some (0, 12, 0, 127, []) by decide +kernel) (by decide)) ?_
  exact ev_cstat (show zcode 156 12 = some (74, 15, 150, 3, []) by decide +kernel) (args := [(0, x2), (0, 0), (0, 127)]) (rest := []) rfl rfl (show 0 ≤ 8 by decide) ⟨by decide, show 3 ≤ 3 by decide⟩
theorem b156_15 {T : zT} {V : zM} {x1 : Int} {x2 : Int} {y0 : Int} : ev 156 15 [(2, 130), (0, x1), (0, x2), (9, 0)] [(0, y0)] T V = if y0 = 0 then ev 156 18 [(2, 130), (0, x1), (0, x2), (9, 0)] [] T V else ev 156 24 [(2, 130), (0, x1), (0, x2), (9, 0)] [] T V := by
  exact ev_ne (show zcode 156 15 = some (41, 18, 24, 0, []) by decide +kernel)
theorem b156_18 {T : zT} {V : zM} {x1 : Int} {x2 : Int} (hS : zStr T)  : ev 156 18 [(2, 130), (0, x1), (0, x2), (9, 0)] [] T V = (zcall 151 [(2, 130), (0, (-1))] T V).bind fun x => ev 156 23 [(2, 130), (0, x1), (0, x2), (9, 0)] (z_push x.1 []) x.2.1 x.2.2 := by
  refine Eq.trans (ev_lda (show zcode 156 18 = some (6, 19, 0, 0, []) by decide +kernel) rfl (by decide)) ?_
  refine Eq.trans (ev_ci (show zcode 156 19 = some (0, 20, 0, (-1), []) by decide +kernel) (by decide)) ?_
  exact ev_cvirt (show zcode 156 20 = some (76, 23, 151, 2, [12]) by decide +kernel) (args := [(0, (-1))]) (rest := []) rfl (so130 hS) rfl (show 0 ≤ 8 by decide) ⟨by decide, show 2 ≤ 2 by decide⟩
theorem b156_23 {T : zT} {V : zM} {x1 : Int} {x2 : Int} {y0 : Int} : ev 156 23 [(2, 130), (0, x1), (0, x2), (9, 0)] [(0, y0)] T V = some ((0, y0), T, V) := by
  exact ev_ri (show zcode 156 23 = some (72, 24, 0, 0, []) by decide +kernel)
theorem b156_24 {T : zT} {V : zM} {x1 : Int} {x2 : Int} (hS : zStr T) (h1 : -2147483648 ≤ (300 + x1) ∧ (300 + x1) ≤ 2147483647) (h2 : (0 : Int) ≤ (300 + x1) ∧ (300 + x1) < 428) : ev 156 24 [(2, 130), (0, x1), (0, x2), (9, 0)] [] T V = (zcall 152 [(2, 130), (0, (V 132 (300 + x1)))] T (zwr V 132 (300 + x1) x2)).bind fun x => ev 156 51 [(2, 130), (0, x1), (0, x2), (0, (V 132 (300 + x1)))] (z_push x.1 []) x.2.1 x.2.2 := by
  refine Eq.trans (ev_lda (show zcode 156 24 = some (6, 25, 0, 0, []) by decide +kernel) rfl (by decide)) ?_
  refine Eq.trans (ev_gq (show zcode 156 25 = some (56, 28, 12, 4, []) by decide +kernel) (so130 hS) (sp130_4 hS)) ?_
  refine Eq.trans (ev_ci (show zcode 156 28 = some (0, 31, 0, 300, []) by decide +kernel) (by decide)) ?_
  refine Eq.trans (ev_ldi (show zcode 156 31 = some (4, 32, 1, 0, []) by decide +kernel) rfl) ?_
  refine Eq.trans (ev_add (show zcode 156 32 = some (11, 33, 0, 0, []) by decide +kernel) h1) ?_
  refine Eq.trans (ev_ia (show zcode 156 33 = some (60, 34, 0, 0, []) by decide +kernel) (sa132 hS) h2) ?_
  refine Eq.trans (ev_sti (show zcode 156 34 = some (7, 35, 3, 0, []) by decide +kernel) ⟨show 3 < 4 by decide, Or.inr (show ¬ (0 : Nat) = 1 by decide)⟩) ?_
  refine Eq.trans (ev_lda (show zcode 156 35 = some (6, 36, 0, 0, []) by decide +kernel) rfl (by decide)) ?_
  refine Eq.trans (ev_gq (show zcode 156 36 = some (56, 39, 12, 4, []) by decide +kernel) (so130 hS) (sp130_4 hS)) ?_
  refine Eq.trans (ev_ci (show zcode 156 39 = some (0, 42, 0, 300, []) by decide +kernel) (by decide)) ?_
  refine Eq.trans (ev_ldi (show zcode 156 42 = some (4, 43, 1, 0, []) by decide +kernel) rfl) ?_
  refine Eq.trans (ev_add (show zcode 156 43 = some (11, 44, 0, 0, []) by decide +kernel) h1) ?_
  refine Eq.trans (ev_ldi (show zcode 156 44 = some (4, 45, 2, 0, []) by decide +kernel) rfl) ?_
  refine Eq.trans (ev_is (show zcode 156 45 = some (64, 46, 0, 0, []) by decide +kernel) (sa132 hS) h2) ?_
  refine Eq.trans (ev_lda (show zcode 156 46 = some (6, 47, 0, 0, []) by decide +kernel) rfl (by decide)) ?_
  refine Eq.trans (ev_ldi (show zcode 156 47 = some (4, 48, 3, 0, []) by decide +kernel) rfl) ?_
  exact ev_cvirt (show zcode 156 48 = some (76, 51, 152, 2, [12]) by decide +kernel) (args := [(0, (V 132 (300 + x1)))]) (rest := []) rfl (so130 hS) rfl (show 0 ≤ 8 by decide) ⟨by decide, show 2 ≤ 2 by decide⟩
theorem b156_51 {T : zT} {V : zM} {x1 : Int} {x2 : Int} {x3 : Int} {y0 : Int} : ev 156 51 [(2, 130), (0, x1), (0, x2), (0, x3)] [(0, y0)] T V = some ((0, y0), T, V) := by
  exact ev_ri (show zcode 156 51 = some (72, 52, 0, 0, []) by decide +kernel)
/-! 157: TwoWayWallModel.isCell(I)Z -/
theorem e157 {T : zT} {V : zM} {x1 : Int} : zcall 157 [(2, 130), (0, x1)] T V = ev 157 0 [(2, 130), (0, x1)] [] T V := rfl
theorem b157_0 {T : zT} {V : zM} {x1 : Int} (hS : zStr T) (h1 : -2147483648 ≤ ((V 132 427) - 1) ∧ ((V 132 427) - 1) ≤ 2147483647) : ev 157 0 [(2, 130), (0, x1)] [] T V = (zcall 150 [(0, x1), (0, 0), (0, ((V 132 427) - 1))] T V).bind fun x => ev 157 15 [(2, 130), (0, x1)] (z_push x.1 []) x.2.1 x.2.2 := by
  refine Eq.trans (ev_ldi (show zcode 157 0 = some (4, 1, 1, 0, []) by decide +kernel) rfl) ?_
  refine Eq.trans (ev_ci (show zcode 157 1 = some (0, 2, 0, 0, []) by decide +kernel) (by decide)) ?_
  refine Eq.trans (ev_lda (show zcode 157 2 = some (6, 3, 0, 0, []) by decide +kernel) rfl (by decide)) ?_
  refine Eq.trans (ev_gq (show zcode 157 3 = some (56, 6, 12, 4, []) by decide +kernel) (so130 hS) (sp130_4 hS)) ?_
  refine Eq.trans (ev_ci (show zcode 157 6 = some (0, 9, 0, 427, []) by decide +kernel) (by decide)) ?_
  refine Eq.trans (ev_ia (show zcode 157 9 = some (60, 10, 0, 0, []) by decide +kernel) (sa132 hS) (by decide)) ?_
  refine Eq.trans (ev_ci (show zcode 157 10 = some (0, 11, 0, 1, []) by decide +kernel) (by decide)) ?_
  refine Eq.trans (ev_sub (show zcode 157 11 = some (12, 12, 0, 0, []) by decide +kernel) h1) ?_
  exact ev_cstat (show zcode 157 12 = some (74, 15, 150, 3, []) by decide +kernel) (args := [(0, x1), (0, 0), (0, ((V 132 427) - 1))]) (rest := []) rfl rfl (show 0 ≤ 8 by decide) ⟨by decide, show 3 ≤ 3 by decide⟩
theorem b157_15 {T : zT} {V : zM} {x1 : Int} {y0 : Int} (h1 : (0 : Int) ≤ y0 ∧ y0 ≤ 1) : ev 157 15 [(2, 130), (0, x1)] [(0, y0)] T V = some ((0, y0), T, V) := by
  exact ev_rz (show zcode 157 15 = some (72, 16, 3, 0, []) by decide +kernel) h1
/-! 158: TwoWayWallModel.of(I)I -/
theorem e158 {T : zT} {V : zM} {x1 : Int} : zcall 158 [(2, 130), (0, x1)] T V = ev 158 0 [(2, 130), (0, x1)] [] T V := rfl
theorem b158_0 {T : zT} {V : zM} {x1 : Int} (hS : zStr T)  : ev 158 0 [(2, 130), (0, x1)] [] T V = (zcall 157 [(2, 130), (0, x1)] T V).bind fun x => ev 158 5 [(2, 130), (0, x1)] (z_push x.1 []) x.2.1 x.2.2 := by
  refine Eq.trans (ev_lda (show zcode 158 0 = some (6, 1, 0, 0, []) by decide +kernel) rfl (by decide)) ?_
  refine Eq.trans (ev_ldi (show zcode 158 1 = some (4, 2, 1, 0, []) by decide +kernel) rfl) ?_
  exact ev_cvirt (show zcode 158 2 = some (76, 5, 157, 2, [12]) by decide +kernel) (args := [(0, x1)]) (rest := []) rfl (so130 hS) rfl (show 0 ≤ 8 by decide) ⟨by decide, show 2 ≤ 2 by decide⟩
theorem b158_5 {T : zT} {V : zM} {x1 : Int} {y0 : Int} : ev 158 5 [(2, 130), (0, x1)] [(0, y0)] T V = if y0 = 0 then ev 158 21 [(2, 130), (0, x1)] [] T V else ev 158 8 [(2, 130), (0, x1)] [] T V := by
  exact ev_eq (show zcode 158 5 = some (40, 8, 21, 0, []) by decide +kernel)
theorem b158_8 {T : zT} {V : zM} {x1 : Int} (hS : zStr T) (h1 : -2147483648 ≤ (300 + x1) ∧ (300 + x1) ≤ 2147483647) (h2 : (0 : Int) ≤ (300 + x1) ∧ (300 + x1) < 428) : ev 158 8 [(2, 130), (0, x1)] [] T V = ev 158 22 [(2, 130), (0, x1)] [(0, (V 132 (300 + x1)))] T V := by
  refine Eq.trans (ev_lda (show zcode 158 8 = some (6, 9, 0, 0, []) by decide +kernel) rfl (by decide)) ?_
  refine Eq.trans (ev_gq (show zcode 158 9 = some (56, 12, 12, 4, []) by decide +kernel) (so130 hS) (sp130_4 hS)) ?_
  refine Eq.trans (ev_ci (show zcode 158 12 = some (0, 15, 0, 300, []) by decide +kernel) (by decide)) ?_
  refine Eq.trans (ev_ldi (show zcode 158 15 = some (4, 16, 1, 0, []) by decide +kernel) rfl) ?_
  refine Eq.trans (ev_add (show zcode 158 16 = some (11, 17, 0, 0, []) by decide +kernel) h1) ?_
  refine Eq.trans (ev_ia (show zcode 158 17 = some (60, 18, 0, 0, []) by decide +kernel) (sa132 hS) h2) ?_
  exact ev_goto (show zcode 158 18 = some (53, 21, 22, 0, []) by decide +kernel)
theorem b158_21 {T : zT} {V : zM} {x1 : Int} : ev 158 21 [(2, 130), (0, x1)] [] T V = ev 158 22 [(2, 130), (0, x1)] [(0, (-1))] T V := by
  exact ev_ci (show zcode 158 21 = some (0, 22, 0, (-1), []) by decide +kernel) (by decide)
theorem b158_22 {T : zT} {V : zM} {x1 : Int} {y0 : Int} : ev 158 22 [(2, 130), (0, x1)] [(0, y0)] T V = some ((0, y0), T, V) := by
  exact ev_ri (show zcode 158 22 = some (72, 23, 0, 0, []) by decide +kernel)
/-! 159: TwoWayWallModel.lost(II)I -/
theorem e159 {T : zT} {V : zM} {x1 : Int} {x2 : Int} : zcall 159 [(2, 130), (0, x1), (0, x2)] T V = ev 159 0 [(2, 130), (0, x1), (0, x2), (9, 0)] [] T V := rfl
theorem b159_0 {T : zT} {V : zM} {x1 : Int} {x2 : Int} (hS : zStr T)  : ev 159 0 [(2, 130), (0, x1), (0, x2), (9, 0)] [] T V = (zcall 157 [(2, 130), (0, x1)] T V).bind fun x => ev 159 5 [(2, 130), (0, x1), (0, x2), (9, 0)] (z_push x.1 []) x.2.1 x.2.2 := by
  refine Eq.trans (ev_lda (show zcode 159 0 = some (6, 1, 0, 0, []) by decide +kernel) rfl (by decide)) ?_
  refine Eq.trans (ev_ldi (show zcode 159 1 = some (4, 2, 1, 0, []) by decide +kernel) rfl) ?_
  exact ev_cvirt (show zcode 159 2 = some (76, 5, 157, 2, [12]) by decide +kernel) (args := [(0, x1)]) (rest := []) rfl (so130 hS) rfl (show 0 ≤ 8 by decide) ⟨by decide, show 2 ≤ 2 by decide⟩
theorem b159_5 {T : zT} {V : zM} {x1 : Int} {x2 : Int} {y0 : Int} : ev 159 5 [(2, 130), (0, x1), (0, x2), (9, 0)] [(0, y0)] T V = if y0 = 0 then ev 159 18 [(2, 130), (0, x1), (0, x2), (9, 0)] [] T V else ev 159 8 [(2, 130), (0, x1), (0, x2), (9, 0)] [] T V := by
  exact ev_eq (show zcode 159 5 = some (40, 8, 18, 0, []) by decide +kernel)
theorem b159_8 {T : zT} {V : zM} {x1 : Int} {x2 : Int} : ev 159 8 [(2, 130), (0, x1), (0, x2), (9, 0)] [] T V = (zcall 150 [(0, x2), (0, 0), (0, 127)] T V).bind fun x => ev 159 15 [(2, 130), (0, x1), (0, x2), (9, 0)] (z_push x.1 []) x.2.1 x.2.2 := by
  refine Eq.trans (ev_ldi (show zcode 159 8 = some (4, 9, 2, 0, []) by decide +kernel) rfl) ?_
  refine Eq.trans (ev_ci (show zcode 159 9 = some (0, 10, 0, 0, []) by decide +kernel) (by decide)) ?_
  refine Eq.trans (ev_ci (show zcode 159 10 = some (0, 12, 0, 127, []) by decide +kernel) (by decide)) ?_
  exact ev_cstat (show zcode 159 12 = some (74, 15, 150, 3, []) by decide +kernel) (args := [(0, x2), (0, 0), (0, 127)]) (rest := []) rfl rfl (show 0 ≤ 8 by decide) ⟨by decide, show 3 ≤ 3 by decide⟩
theorem b159_15 {T : zT} {V : zM} {x1 : Int} {x2 : Int} {y0 : Int} : ev 159 15 [(2, 130), (0, x1), (0, x2), (9, 0)] [(0, y0)] T V = if y0 = 0 then ev 159 18 [(2, 130), (0, x1), (0, x2), (9, 0)] [] T V else ev 159 24 [(2, 130), (0, x1), (0, x2), (9, 0)] [] T V := by
  exact ev_ne (show zcode 159 15 = some (41, 18, 24, 0, []) by decide +kernel)
theorem b159_18 {T : zT} {V : zM} {x1 : Int} {x2 : Int} (hS : zStr T)  : ev 159 18 [(2, 130), (0, x1), (0, x2), (9, 0)] [] T V = (zcall 151 [(2, 130), (0, (-1))] T V).bind fun x => ev 159 23 [(2, 130), (0, x1), (0, x2), (9, 0)] (z_push x.1 []) x.2.1 x.2.2 := by
  refine Eq.trans (ev_lda (show zcode 159 18 = some (6, 19, 0, 0, []) by decide +kernel) rfl (by decide)) ?_
  refine Eq.trans (ev_ci (show zcode 159 19 = some (0, 20, 0, (-1), []) by decide +kernel) (by decide)) ?_
  exact ev_cvirt (show zcode 159 20 = some (76, 23, 151, 2, [12]) by decide +kernel) (args := [(0, (-1))]) (rest := []) rfl (so130 hS) rfl (show 0 ≤ 8 by decide) ⟨by decide, show 2 ≤ 2 by decide⟩
theorem b159_23 {T : zT} {V : zM} {x1 : Int} {x2 : Int} {y0 : Int} : ev 159 23 [(2, 130), (0, x1), (0, x2), (9, 0)] [(0, y0)] T V = some ((0, y0), T, V) := by
  exact ev_ri (show zcode 159 23 = some (72, 24, 0, 0, []) by decide +kernel)
theorem b159_24 {T : zT} {V : zM} {x1 : Int} {x2 : Int} (hS : zStr T) (h1 : -2147483648 ≤ (316 + x1) ∧ (316 + x1) ≤ 2147483647) (h2 : (0 : Int) ≤ (316 + x1) ∧ (316 + x1) < 428) : ev 159 24 [(2, 130), (0, x1), (0, x2), (9, 0)] [] T V = (zcall 152 [(2, 130), (0, (V 132 (316 + x1)))] T (zwr V 132 (316 + x1) x2)).bind fun x => ev 159 51 [(2, 130), (0, x1), (0, x2), (0, (V 132 (316 + x1)))] (z_push x.1 []) x.2.1 x.2.2 := by
  refine Eq.trans (ev_lda (show zcode 159 24 = some (6, 25, 0, 0, []) by decide +kernel) rfl (by decide)) ?_
  refine Eq.trans (ev_gq (show zcode 159 25 = some (56, 28, 12, 4, []) by decide +kernel) (so130 hS) (sp130_4 hS)) ?_
  refine Eq.trans (ev_ci (show zcode 159 28 = some (0, 31, 0, 316, []) by decide +kernel) (by decide)) ?_
  refine Eq.trans (ev_ldi (show zcode 159 31 = some (4, 32, 1, 0, []) by decide +kernel) rfl) ?_
  refine Eq.trans (ev_add (show zcode 159 32 = some (11, 33, 0, 0, []) by decide +kernel) h1) ?_
  refine Eq.trans (ev_ia (show zcode 159 33 = some (60, 34, 0, 0, []) by decide +kernel) (sa132 hS) h2) ?_
  refine Eq.trans (ev_sti (show zcode 159 34 = some (7, 35, 3, 0, []) by decide +kernel) ⟨show 3 < 4 by decide, Or.inr (show ¬ (0 : Nat) = 1 by decide)⟩) ?_
  refine Eq.trans (ev_lda (show zcode 159 35 = some (6, 36, 0, 0, []) by decide +kernel) rfl (by decide)) ?_
  refine Eq.trans (ev_gq (show zcode 159 36 = some (56, 39, 12, 4, []) by decide +kernel) (so130 hS) (sp130_4 hS)) ?_
  refine Eq.trans (ev_ci (show zcode 159 39 = some (0, 42, 0, 316, []) by decide +kernel) (by decide)) ?_
  refine Eq.trans (ev_ldi (show zcode 159 42 = some (4, 43, 1, 0, []) by decide +kernel) rfl) ?_
  refine Eq.trans (ev_add (show zcode 159 43 = some (11, 44, 0, 0, []) by decide +kernel) h1) ?_
  refine Eq.trans (ev_ldi (show zcode 159 44 = some (4, 45, 2, 0, []) by decide +kernel) rfl) ?_
  refine Eq.trans (ev_is (show zcode 159 45 = some (64, 46, 0, 0, []) by decide +kernel) (sa132 hS) h2) ?_
  refine Eq.trans (ev_lda (show zcode 159 46 = some (6, 47, 0, 0, []) by decide +kernel) rfl (by decide)) ?_
  refine Eq.trans (ev_ldi (show zcode 159 47 = some (4, 48, 3, 0, []) by decide +kernel) rfl) ?_
  exact ev_cvirt (show zcode 159 48 = some (76, 51, 152, 2, [12]) by decide +kernel) (args := [(0, (V 132 (316 + x1)))]) (rest := []) rfl (so130 hS) rfl (show 0 ≤ 8 by decide) ⟨by decide, show 2 ≤ 2 by decide⟩
theorem b159_51 {T : zT} {V : zM} {x1 : Int} {x2 : Int} {x3 : Int} {y0 : Int} : ev 159 51 [(2, 130), (0, x1), (0, x2), (0, x3)] [(0, y0)] T V = some ((0, y0), T, V) := by
  exact ev_ri (show zcode 159 51 = some (72, 52, 0, 0, []) by decide +kernel)
/-! 160: TwoWayWallModel.row()I -/
theorem e160 {T : zT} {V : zM}  : zcall 160 [(2, 130)] T V = ev 160 0 [(2, 130), (9, 0), (9, 0), (9, 0)] [] T V := rfl
theorem b160_0 {T : zT} {V : zM}  (hS : zStr T)  : ev 160 0 [(2, 130), (9, 0), (9, 0), (9, 0)] [] T V = if (V 130 12) = 0 then ev 160 14 [(2, 130), (0, (V 130 12)), (9, 0), (9, 0)] [] T (zwr V 130 12 0) else ev 160 21 [(2, 130), (0, (V 130 12)), (9, 0), (9, 0)] [] T (zwr V 130 12 0) := by
  refine Eq.trans (ev_lda (show zcode 160 0 = some (6, 1, 0, 0, []) by decide +kernel) rfl (by decide)) ?_
  refine Eq.trans (ev_gi (show zcode 160 1 = some (55, 4, 12, 12, []) by decide +kernel) (so130 hS)) ?_
  refine Eq.trans (ev_sti (show zcode 160 4 = some (7, 5, 1, 0, []) by decide +kernel) ⟨show 1 < 4 by decide, Or.inr (show ¬ (2 : Nat) = 1 by decide)⟩) ?_
  refine Eq.trans (ev_lda (show zcode 160 5 = some (6, 6, 0, 0, []) by decide +kernel) rfl (by decide)) ?_
  refine Eq.trans (ev_ci (show zcode 160 6 = some (0, 7, 0, 0, []) by decide +kernel) (by decide)) ?_
  refine Eq.trans (ev_pi (show zcode 160 7 = some (57, 10, 12, 12, []) by decide +kernel) (so130 hS)) ?_
  refine Eq.trans (ev_ldi (show zcode 160 10 = some (4, 11, 1, 0, []) by decide +kernel) rfl) ?_
  exact ev_ne (show zcode 160 11 = some (41, 14, 21, 0, []) by decide +kernel)
theorem b160_14 {T : zT} {V : zM} {x1 : Int} (hS : zStr T)  : ev 160 14 [(2, 130), (0, x1), (9, 0), (9, 0)] [] T V = (zcall 151 [(2, 130), (0, (-6))] T V).bind fun x => ev 160 20 [(2, 130), (0, x1), (9, 0), (9, 0)] (z_push x.1 []) x.2.1 x.2.2 := by
  refine Eq.trans (ev_lda (show zcode 160 14 = some (6, 15, 0, 0, []) by decide +kernel) rfl (by decide)) ?_
  refine Eq.trans (ev_ci (show zcode 160 15 = some (0, 17, 0, (-6), []) by decide +kernel) (by decide)) ?_
  exact ev_cvirt (show zcode 160 17 = some (76, 20, 151, 2, [12]) by decide +kernel) (args := [(0, (-6))]) (rest := []) rfl (so130 hS) rfl (show 0 ≤ 8 by decide) ⟨by decide, show 2 ≤ 2 by decide⟩
theorem b160_20 {T : zT} {V : zM} {x1 : Int} {y0 : Int} : ev 160 20 [(2, 130), (0, x1), (9, 0), (9, 0)] [(0, y0)] T V = some ((0, y0), T, V) := by
  exact ev_ri (show zcode 160 20 = some (72, 21, 0, 0, []) by decide +kernel)
theorem b160_21 {T : zT} {V : zM} {x1 : Int} : ev 160 21 [(2, 130), (0, x1), (9, 0), (9, 0)] [] T V = if 16 ≤ x1 then ev 160 31 [(2, 130), (0, x1), (9, 0), (9, 0)] [] T V else ev 160 27 [(2, 130), (0, x1), (9, 0), (9, 0)] [] T V := by
  refine Eq.trans (ev_ldi (show zcode 160 21 = some (4, 22, 1, 0, []) by decide +kernel) rfl) ?_
  refine Eq.trans (ev_ci (show zcode 160 22 = some (0, 24, 0, 16, []) by decide +kernel) (by decide)) ?_
  exact ev_cge (show zcode 160 24 = some (49, 27, 31, 0, []) by decide +kernel)
theorem b160_27 {T : zT} {V : zM} {x1 : Int} : ev 160 27 [(2, 130), (0, x1), (9, 0), (9, 0)] [] T V = ev 160 33 [(2, 130), (0, x1), (9, 0), (9, 0)] [(0, x1)] T V := by
  refine Eq.trans (ev_ldi (show zcode 160 27 = some (4, 28, 1, 0, []) by decide +kernel) rfl) ?_
  exact ev_goto (show zcode 160 28 = some (53, 31, 33, 0, []) by decide +kernel)
theorem b160_31 {T : zT} {V : zM} {x1 : Int} : ev 160 31 [(2, 130), (0, x1), (9, 0), (9, 0)] [] T V = ev 160 33 [(2, 130), (0, x1), (9, 0), (9, 0)] [(0, 16)] T V := by
  exact ev_ci (show zcode 160 31 = some (0, 33, 0, 16, []) by decide +kernel) (by decide)
theorem b160_33 {T : zT} {V : zM} {x1 : Int} {y0 : Int} (hS : zStr T)  : ev 160 33 [(2, 130), (0, x1), (9, 0), (9, 0)] [(0, y0)] T V = (zcall 155 [(2, 130), (0, y0)] T V).bind fun x => ev 160 39 [(2, 130), (0, x1), (0, y0), (9, 0)] (z_push x.1 []) x.2.1 x.2.2 := by
  refine Eq.trans (ev_sti (show zcode 160 33 = some (7, 34, 2, 0, []) by decide +kernel) ⟨show 2 < 4 by decide, Or.inr (show ¬ (0 : Nat) = 1 by decide)⟩) ?_
  refine Eq.trans (ev_lda (show zcode 160 34 = some (6, 35, 0, 0, []) by decide +kernel) rfl (by decide)) ?_
  refine Eq.trans (ev_ldi (show zcode 160 35 = some (4, 36, 2, 0, []) by decide +kernel) rfl) ?_
  exact ev_cvirt (show zcode 160 36 = some (76, 39, 155, 2, [12]) by decide +kernel) (args := [(0, y0)]) (rest := []) rfl (so130 hS) rfl (show 0 ≤ 8 by decide) ⟨by decide, show 2 ≤ 3 by decide⟩
theorem b160_39 {T : zT} {V : zM} {x1 : Int} {x2 : Int} : ev 160 39 [(2, 130), (0, x1), (0, x2), (9, 0)] [] T V = ev 160 41 [(2, 130), (0, x1), (0, x2), (0, 0)] [] T V := by
  refine Eq.trans (ev_ci (show zcode 160 39 = some (0, 40, 0, 0, []) by decide +kernel) (by decide)) ?_
  exact ev_sti (show zcode 160 40 = some (7, 41, 3, 0, []) by decide +kernel) ⟨show 3 < 4 by decide, Or.inr (show ¬ (0 : Nat) = 1 by decide)⟩
theorem b160_41 {T : zT} {V : zM} {x1 : Int} {x2 : Int} {x3 : Int} : ev 160 41 [(2, 130), (0, x1), (0, x2), (0, x3)] [] T V = if x2 ≤ x3 then ev 160 77 [(2, 130), (0, x1), (0, x2), (0, x3)] [] T V else ev 160 46 [(2, 130), (0, x1), (0, x2), (0, x3)] [] T V := by
  refine Eq.trans (ev_ldi (show zcode 160 41 = some (4, 42, 3, 0, []) by decide +kernel) rfl) ?_
  refine Eq.trans (ev_ldi (show zcode 160 42 = some (4, 43, 2, 0, []) by decide +kernel) rfl) ?_
  exact ev_cge (show zcode 160 43 = some (49, 46, 77, 0, []) by decide +kernel)
theorem b160_46 {T : zT} {V : zM} {x1 : Int} {x2 : Int} {x3 : Int} (hS : zStr T) (h1 : (0 : Int) ≤ x3 ∧ x3 < 400) : ev 160 46 [(2, 130), (0, x1), (0, x2), (0, x3)] [] T V = if (V 137 x3) < 0 then ev 160 71 [(2, 130), (0, x1), (0, x2), (0, x3)] [] T V else ev 160 55 [(2, 130), (0, x1), (0, x2), (0, x3)] [] T V := by
  refine Eq.trans (ev_lda (show zcode 160 46 = some (6, 47, 0, 0, []) by decide +kernel) rfl (by decide)) ?_
  refine Eq.trans (ev_gq (show zcode 160 47 = some (56, 50, 12, 10, []) by decide +kernel) (so130 hS) (sp130_10 hS)) ?_
  refine Eq.trans (ev_ldi (show zcode 160 50 = some (4, 51, 3, 0, []) by decide +kernel) rfl) ?_
  refine Eq.trans (ev_ba (show zcode 160 51 = some (62, 52, 0, 0, []) by decide +kernel) (sa137 hS) h1) ?_
  exact ev_lt (show zcode 160 52 = some (42, 55, 71, 0, []) by decide +kernel)
theorem b160_55 {T : zT} {V : zM} {x1 : Int} {x2 : Int} {x3 : Int} (hS : zStr T) (h1 : -2147483648 ≤ (300 + x3) ∧ (300 + x3) ≤ 2147483647) (h2 : (0 : Int) ≤ x3 ∧ x3 < 400) (h3 : (0 : Int) ≤ (300 + x3) ∧ (300 + x3) < 428) : ev 160 55 [(2, 130), (0, x1), (0, x2), (0, x3)] [] T V = ev 160 71 [(2, 130), (0, x1), (0, x2), (0, x3)] [] T (zwr V 132 (300 + x3) (V 137 x3)) := by
  refine Eq.trans (ev_lda (show zcode 160 55 = some (6, 56, 0, 0, []) by decide +kernel) rfl (by decide)) ?_
  refine Eq.trans (ev_gq (show zcode 160 56 = some (56, 59, 12, 4, []) by decide +kernel) (so130 hS) (sp130_4 hS)) ?_
  refine Eq.trans (ev_ci (show zcode 160 59 = some (0, 62, 0, 300, []) by decide +kernel) (by decide)) ?_
  refine Eq.trans (ev_ldi (show zcode 160 62 = some (4, 63, 3, 0, []) by decide +kernel) rfl) ?_
  refine Eq.trans (ev_add (show zcode 160 63 = some (11, 64, 0, 0, []) by decide +kernel) h1) ?_
  refine Eq.trans (ev_lda (show zcode 160 64 = some (6, 65, 0, 0, []) by decide +kernel) rfl (by decide)) ?_
  refine Eq.trans (ev_gq (show zcode 160 65 = some (56, 68, 12, 10, []) by decide +kernel) (so130 hS) (sp130_10 hS)) ?_
  refine Eq.trans (ev_ldi (show zcode 160 68 = some (4, 69, 3, 0, []) by decide +kernel) rfl) ?_
  refine Eq.trans (ev_ba (show zcode 160 69 = some (62, 70, 0, 0, []) by decide +kernel) (sa137 hS) h2) ?_
  exact ev_is (show zcode 160 70 = some (64, 71, 0, 0, []) by decide +kernel) (sa132 hS) h3
theorem b160_71 {T : zT} {V : zM} {x1 : Int} {x2 : Int} {x3 : Int} (h1 : -2147483648 ≤ (x3 + 1) ∧ (x3 + 1) ≤ 2147483647) : ev 160 71 [(2, 130), (0, x1), (0, x2), (0, x3)] [] T V = ev 160 41 [(2, 130), (0, x1), (0, x2), (0, (x3 + 1))] [] T V := by
  refine Eq.trans (ev_inc (show zcode 160 71 = some (10, 74, 3, 1, []) by decide +kernel) rfl h1 (Or.inr (show ¬ (0 : Nat) = 1 by decide))) ?_
  exact ev_goto (show zcode 160 74 = some (53, 77, 41, 0, []) by decide +kernel)
theorem b160_77 {T : zT} {V : zM} {x1 : Int} {x2 : Int} {x3 : Int} (hS : zStr T) (h1 : -2147483648 ≤ (x1 - x2) ∧ (x1 - x2) ≤ 2147483647) : ev 160 77 [(2, 130), (0, x1), (0, x2), (0, x3)] [] T V = (zcall 152 [(2, 130), (0, x2)] T (zwr V 130 8 (x1 - x2))).bind fun x => ev 160 89 [(2, 130), (0, x1), (0, x2), (0, x3)] (z_push x.1 []) x.2.1 x.2.2 := by
  refine Eq.trans (ev_lda (show zcode 160 77 = some (6, 78, 0, 0, []) by decide +kernel) rfl (by decide)) ?_
  refine Eq.trans (ev_ldi (show zcode 160 78 = some (4, 79, 1, 0, []) by decide +kernel) rfl) ?_
  refine Eq.trans (ev_ldi (show zcode 160 79 = some (4, 80, 2, 0, []) by decide +kernel) rfl) ?_
  refine Eq.trans (ev_sub (show zcode 160 80 = some (12, 81, 0, 0, []) by decide +kernel) h1) ?_
  refine Eq.trans (ev_pi (show zcode 160 81 = some (57, 84, 12, 8, []) by decide +kernel) (so130 hS)) ?_
  refine Eq.trans (ev_lda (show zcode 160 84 = some (6, 85, 0, 0, []) by decide +kernel) rfl (by decide)) ?_
  refine Eq.trans (ev_ldi (show zcode 160 85 = some (4, 86, 2, 0, []) by decide +kernel) rfl) ?_
  exact ev_cvirt (show zcode 160 86 = some (76, 89, 152, 2, [12]) by decide +kernel) (args := [(0, x2)]) (rest := []) rfl (so130 hS) rfl (show 0 ≤ 8 by decide) ⟨by decide, show 2 ≤ 2 by decide⟩
theorem b160_89 {T : zT} {V : zM} {x1 : Int} {x2 : Int} {x3 : Int} {y0 : Int} : ev 160 89 [(2, 130), (0, x1), (0, x2), (0, x3)] [(0, y0)] T V = some ((0, y0), T, V) := by
  exact ev_ri (show zcode 160 89 = some (72, 90, 0, 0, []) by decide +kernel)
/-! 161: TwoWayWallModel.spilt()I -/
theorem e161 {T : zT} {V : zM}  : zcall 161 [(2, 130)] T V = ev 161 0 [(2, 130)] [] T V := rfl
theorem b161_0 {T : zT} {V : zM}  (hS : zStr T)  : ev 161 0 [(2, 130)] [] T V = some ((0, (V 130 8)), T, V) := by
  refine Eq.trans (ev_lda (show zcode 161 0 = some (6, 1, 0, 0, []) by decide +kernel) rfl (by decide)) ?_
  refine Eq.trans (ev_gi (show zcode 161 1 = some (55, 4, 12, 8, []) by decide +kernel) (so130 hS)) ?_
  exact ev_ri (show zcode 161 4 = some (72, 5, 0, 0, []) by decide +kernel)
/-! 162: TwoWayWallModel.feed(IIIII)I -/
theorem e162 {T : zT} {V : zM} {x1 : Int} {x2 : Int} {x3 : Int} {x4 : Int} {x5 : Int} : zcall 162 [(2, 130), (0, x1), (0, x2), (0, x3), (0, x4), (0, x5)] T V = ev 162 0 [(2, 130), (0, x1), (0, x2), (0, x3), (0, x4), (0, x5), (9, 0)] [] T V := rfl
theorem b162_0 {T : zT} {V : zM} {x1 : Int} {x2 : Int} {x3 : Int} {x4 : Int} {x5 : Int} (hS : zStr T) (h1 : -2147483648 ≤ ((V 130 12) + 20) ∧ ((V 130 12) + 20) ≤ 2147483647) : ev 162 0 [(2, 130), (0, x1), (0, x2), (0, x3), (0, x4), (0, x5), (9, 0)] [] T V = if ((V 130 12) + 20) ≤ 400 then ev 162 15 [(2, 130), (0, x1), (0, x2), (0, x3), (0, x4), (0, x5), (9, 0)] [] T V else ev 162 13 [(2, 130), (0, x1), (0, x2), (0, x3), (0, x4), (0, x5), (9, 0)] [] T V := by
  refine Eq.trans (ev_lda (show zcode 162 0 = some (6, 1, 0, 0, []) by decide +kernel) rfl (by decide)) ?_
  refine Eq.trans (ev_gi (show zcode 162 1 = some (55, 4, 12, 12, []) by decide +kernel) (so130 hS)) ?_
  refine Eq.trans (ev_ci (show zcode 162 4 = some (0, 6, 0, 20, []) by decide +kernel) (by decide)) ?_
  refine Eq.trans (ev_add (show zcode 162 6 = some (11, 7, 0, 0, []) by decide +kernel) h1) ?_
  refine Eq.trans (ev_ci (show zcode 162 7 = some (0, 10, 0, 400, []) by decide +kernel) (by decide)) ?_
  exact ev_cle (show zcode 162 10 = some (51, 13, 15, 0, []) by decide +kernel)
theorem b162_13 {T : zT} {V : zM} {x1 : Int} {x2 : Int} {x3 : Int} {x4 : Int} {x5 : Int} : ev 162 13 [(2, 130), (0, x1), (0, x2), (0, x3), (0, x4), (0, x5), (9, 0)] [] T V = some ((0, (-1)), T, V) := by
  refine Eq.trans (ev_ci (show zcode 162 13 = some (0, 14, 0, (-1), []) by decide +kernel) (by decide)) ?_
  exact ev_ri (show zcode 162 14 = some (72, 15, 0, 0, []) by decide +kernel)
theorem b162_15 {T : zT} {V : zM} {x1 : Int} {x2 : Int} {x3 : Int} {x4 : Int} {x5 : Int} (hS : zStr T)  : ev 162 15 [(2, 130), (0, x1), (0, x2), (0, x3), (0, x4), (0, x5), (9, 0)] [] T V = ev 162 55 [(2, 130), (0, x1), (0, x2), (0, x3), (0, x4), (0, x5), (0, 0)] [] T (zwr (zwr (zwr (zwr (zwr V 138 0 x1) 138 1 x2) 138 2 x3) 138 3 x4) 138 4 x5) := by
  refine Eq.trans (ev_lda (show zcode 162 15 = some (6, 16, 0, 0, []) by decide +kernel) rfl (by decide)) ?_
  refine Eq.trans (ev_gq (show zcode 162 16 = some (56, 19, 12, 11, []) by decide +kernel) (so130 hS) (sp130_11 hS)) ?_
  refine Eq.trans (ev_ci (show zcode 162 19 = some (0, 20, 0, 0, []) by decide +kernel) (by decide)) ?_
  refine Eq.trans (ev_ldi (show zcode 162 20 = some (4, 21, 1, 0, []) by decide +kernel) rfl) ?_
  refine Eq.trans (ev_is (show zcode 162 21 = some (64, 22, 0, 0, []) by decide +kernel) (sa138 hS) (by decide)) ?_
  refine Eq.trans (ev_lda (show zcode 162 22 = some (6, 23, 0, 0, []) by decide +kernel) rfl (by decide)) ?_
  refine Eq.trans (ev_gq (show zcode 162 23 = some (56, 26, 12, 11, []) by decide +kernel) (so130 hS) (sp130_11 hS)) ?_
  refine Eq.trans (ev_ci (show zcode 162 26 = some (0, 27, 0, 1, []) by decide +kernel) (by decide)) ?_
  refine Eq.trans (ev_ldi (show zcode 162 27 = some (4, 28, 2, 0, []) by decide +kernel) rfl) ?_
  refine Eq.trans (ev_is (show zcode 162 28 = some (64, 29, 0, 0, []) by decide +kernel) (sa138 hS) (by decide)) ?_
  refine Eq.trans (ev_lda (show zcode 162 29 = some (6, 30, 0, 0, []) by decide +kernel) rfl (by decide)) ?_
  refine Eq.trans (ev_gq (show zcode 162 30 = some (56, 33, 12, 11, []) by decide +kernel) (so130 hS) (sp130_11 hS)) ?_
  refine Eq.trans (ev_ci (show zcode 162 33 = some (0, 34, 0, 2, []) by decide +kernel) (by decide)) ?_
  refine Eq.trans (ev_ldi (show zcode 162 34 = some (4, 35, 3, 0, []) by decide +kernel) rfl) ?_
  refine Eq.trans (ev_is (show zcode 162 35 = some (64, 36, 0, 0, []) by decide +kernel) (sa138 hS) (by decide)) ?_
  refine Eq.trans (ev_lda (show zcode 162 36 = some (6, 37, 0, 0, []) by decide +kernel) rfl (by decide)) ?_
  refine Eq.trans (ev_gq (show zcode 162 37 = some (56, 40, 12, 11, []) by decide +kernel) (so130 hS) (sp130_11 hS)) ?_
  refine Eq.trans (ev_ci (show zcode 162 40 = some (0, 41, 0, 3, []) by decide +kernel) (by decide)) ?_
  refine Eq.trans (ev_ldi (show zcode 162 41 = some (4, 43, 4, 0, []) by decide +kernel) rfl) ?_
  refine Eq.trans (ev_is (show zcode 162 43 = some (64, 44, 0, 0, []) by decide +kernel) (sa138 hS) (by decide)) ?_
  refine Eq.trans (ev_lda (show zcode 162 44 = some (6, 45, 0, 0, []) by decide +kernel) rfl (by decide)) ?_
  refine Eq.trans (ev_gq (show zcode 162 45 = some (56, 48, 12, 11, []) by decide +kernel) (so130 hS) (sp130_11 hS)) ?_
  refine Eq.trans (ev_ci (show zcode 162 48 = some (0, 49, 0, 4, []) by decide +kernel) (by decide)) ?_
  refine Eq.trans (ev_ldi (show zcode 162 49 = some (4, 51, 5, 0, []) by decide +kernel) rfl) ?_
  refine Eq.trans (ev_is (show zcode 162 51 = some (64, 52, 0, 0, []) by decide +kernel) (sa138 hS) (by decide)) ?_
  refine Eq.trans (ev_ci (show zcode 162 52 = some (0, 53, 0, 0, []) by decide +kernel) (by decide)) ?_
  exact ev_sti (show zcode 162 53 = some (7, 55, 6, 0, []) by decide +kernel) ⟨show 6 < 7 by decide, Or.inr (show ¬ (0 : Nat) = 1 by decide)⟩
theorem b162_55 {T : zT} {V : zM} {x1 : Int} {x2 : Int} {x3 : Int} {x4 : Int} {x5 : Int} {x6 : Int} : ev 162 55 [(2, 130), (0, x1), (0, x2), (0, x3), (0, x4), (0, x5), (0, x6)] [] T V = if 20 ≤ x6 then ev 162 101 [(2, 130), (0, x1), (0, x2), (0, x3), (0, x4), (0, x5), (0, x6)] [] T V else ev 162 62 [(2, 130), (0, x1), (0, x2), (0, x3), (0, x4), (0, x5), (0, x6)] [] T V := by
  refine Eq.trans (ev_ldi (show zcode 162 55 = some (4, 57, 6, 0, []) by decide +kernel) rfl) ?_
  refine Eq.trans (ev_ci (show zcode 162 57 = some (0, 59, 0, 20, []) by decide +kernel) (by decide)) ?_
  exact ev_cge (show zcode 162 59 = some (49, 62, 101, 0, []) by decide +kernel)
theorem b162_62 {T : zT} {V : zM} {x1 : Int} {x2 : Int} {x3 : Int} {x4 : Int} {x5 : Int} {x6 : Int} (hS : zStr T) (h1 : -2147483648 ≤ ((V 130 12) + x6) ∧ ((V 130 12) + x6) ≤ 2147483647) (h2 : (0 : Int) ≤ x6) (h3 : (0 : Int) ≤ (x6 / 4) ∧ (x6 / 4) < 5) (h4 : -2147483648 ≤ (8 * (x6 % 4)) ∧ (8 * (x6 % 4)) ≤ 2147483647) (h5 : -2147483648 ≤ (24 - (8 * (x6 % 4))) ∧ (24 - (8 * (x6 % 4))) ≤ 2147483647) (h6 : (0 : Int) ≤ (24 - (8 * (x6 % 4))) ∧ (24 - (8 * (x6 % 4))) < 32) (h7 : (0 : Int) ≤ ((V 130 12) + x6) ∧ ((V 130 12) + x6) < 400) (h8 : -128 ≤ ((((V 138 (x6 / 4)) / 2 ^ ((24 - (8 * (x6 % 4)))).toNat) + 128) % 256 - 128) ∧ ((((V 138 (x6 / 4)) / 2 ^ ((24 - (8 * (x6 % 4)))).toNat) + 128) % 256 - 128) ≤ 127) (h9 : -2147483648 ≤ (x6 + 1) ∧ (x6 + 1) ≤ 2147483647) : ev 162 62 [(2, 130), (0, x1), (0, x2), (0, x3), (0, x4), (0, x5), (0, x6)] [] T V = ev 162 55 [(2, 130), (0, x1), (0, x2), (0, x3), (0, x4), (0, x5), (0, (x6 + 1))] [] T (zwr V 137 ((V 130 12) + x6) ((((V 138 (x6 / 4)) / 2 ^ ((24 - (8 * (x6 % 4)))).toNat) + 128) % 256 - 128)) := by
  refine Eq.trans (ev_lda (show zcode 162 62 = some (6, 63, 0, 0, []) by decide +kernel) rfl (by decide)) ?_
  refine Eq.trans (ev_gq (show zcode 162 63 = some (56, 66, 12, 10, []) by decide +kernel) (so130 hS) (sp130_10 hS)) ?_
  refine Eq.trans (ev_lda (show zcode 162 66 = some (6, 67, 0, 0, []) by decide +kernel) rfl (by decide)) ?_
  refine Eq.trans (ev_gi (show zcode 162 67 = some (55, 70, 12, 12, []) by decide +kernel) (so130 hS)) ?_
  refine Eq.trans (ev_ldi (show zcode 162 70 = some (4, 72, 6, 0, []) by decide +kernel) rfl) ?_
  refine Eq.trans (ev_add (show zcode 162 72 = some (11, 73, 0, 0, []) by decide +kernel) h1) ?_
  refine Eq.trans (ev_lda (show zcode 162 73 = some (6, 74, 0, 0, []) by decide +kernel) rfl (by decide)) ?_
  refine Eq.trans (ev_gq (show zcode 162 74 = some (56, 77, 12, 11, []) by decide +kernel) (so130 hS) (sp130_11 hS)) ?_
  refine Eq.trans (ev_ldi (show zcode 162 77 = some (4, 79, 6, 0, []) by decide +kernel) rfl) ?_
  refine Eq.trans (ev_ci (show zcode 162 79 = some (0, 80, 0, 4, []) by decide +kernel) (by decide)) ?_
  refine Eq.trans (ev_div (show zcode 162 80 = some (17, 81, 0, 0, []) by decide +kernel) ⟨h2, by decide⟩) ?_
  refine Eq.trans (ev_ia (show zcode 162 81 = some (60, 82, 0, 0, []) by decide +kernel) (sa138 hS) h3) ?_
  refine Eq.trans (ev_ci (show zcode 162 82 = some (0, 84, 0, 24, []) by decide +kernel) (by decide)) ?_
  refine Eq.trans (ev_ci (show zcode 162 84 = some (0, 86, 0, 8, []) by decide +kernel) (by decide)) ?_
  refine Eq.trans (ev_ldi (show zcode 162 86 = some (4, 88, 6, 0, []) by decide +kernel) rfl) ?_
  refine Eq.trans (ev_ci (show zcode 162 88 = some (0, 89, 0, 4, []) by decide +kernel) (by decide)) ?_
  refine Eq.trans (ev_rem (show zcode 162 89 = some (18, 90, 0, 0, []) by decide +kernel) ⟨h2, by decide⟩) ?_
  refine Eq.trans (ev_mul (show zcode 162 90 = some (13, 91, 0, 0, []) by decide +kernel) h4) ?_
  refine Eq.trans (ev_sub (show zcode 162 91 = some (12, 92, 0, 0, []) by decide +kernel) h5) ?_
  refine Eq.trans (ev_shr (show zcode 162 92 = some (21, 93, 0, 0, []) by decide +kernel) h6) ?_
  refine Eq.trans (ev_i2b (show zcode 162 93 = some (34, 94, 0, 0, []) by decide +kernel)) ?_
  refine Eq.trans (ev_bs (show zcode 162 94 = some (66, 95, 0, 0, []) by decide +kernel) (sa137 hS) h7 h8) ?_
  refine Eq.trans (ev_inc (show zcode 162 95 = some (10, 98, 6, 1, []) by decide +kernel) rfl h9 (Or.inr (show ¬ (0 : Nat) = 1 by decide))) ?_
  exact ev_goto (show zcode 162 98 = some (53, 101, 55, 0, []) by decide +kernel)
theorem b162_101 {T : zT} {V : zM} {x1 : Int} {x2 : Int} {x3 : Int} {x4 : Int} {x5 : Int} {x6 : Int} (hS : zStr T) (h1 : -2147483648 ≤ ((V 130 12) + 20) ∧ ((V 130 12) + 20) ≤ 2147483647) : ev 162 101 [(2, 130), (0, x1), (0, x2), (0, x3), (0, x4), (0, x5), (0, x6)] [] T V = some ((0, ((zwr V 130 12 ((V 130 12) + 20)) 130 12)), T, (zwr V 130 12 ((V 130 12) + 20))) := by
  refine Eq.trans (ev_lda (show zcode 162 101 = some (6, 102, 0, 0, []) by decide +kernel) rfl (by decide)) ?_
  refine Eq.trans (ev_dup (show zcode 162 102 = some (36, 103, 0, 0, []) by decide +kernel) (by decide)) ?_
  refine Eq.trans (ev_gi (show zcode 162 103 = some (55, 106, 12, 12, []) by decide +kernel) (so130 hS)) ?_
  refine Eq.trans (ev_ci (show zcode 162 106 = some (0, 108, 0, 20, []) by decide +kernel) (by decide)) ?_
  refine Eq.trans (ev_add (show zcode 162 108 = some (11, 109, 0, 0, []) by decide +kernel) h1) ?_
  refine Eq.trans (ev_pi (show zcode 162 109 = some (57, 112, 12, 12, []) by decide +kernel) (so130 hS)) ?_
  refine Eq.trans (ev_lda (show zcode 162 112 = some (6, 113, 0, 0, []) by decide +kernel) rfl (by decide)) ?_
  refine Eq.trans (ev_gi (show zcode 162 113 = some (55, 116, 12, 12, []) by decide +kernel) (so130 hS)) ?_
  exact ev_ri (show zcode 162 116 = some (72, 117, 0, 0, []) by decide +kernel)
/-! 163: TwoWayWallModel.end(I)I -/
theorem e163 {T : zT} {V : zM} {x1 : Int} : zcall 163 [(2, 130), (0, x1)] T V = ev 163 0 [(2, 130), (0, x1)] [] T V := rfl
theorem b163_0 {T : zT} {V : zM} {x1 : Int} (hS : zStr T)  : ev 163 0 [(2, 130), (0, x1)] [] T V = (zcall 150 [(0, x1), (0, 0), (0, (V 130 12))] T V).bind fun x => ev 163 9 [(2, 130), (0, x1)] (z_push x.1 []) x.2.1 x.2.2 := by
  refine Eq.trans (ev_ldi (show zcode 163 0 = some (4, 1, 1, 0, []) by decide +kernel) rfl) ?_
  refine Eq.trans (ev_ci (show zcode 163 1 = some (0, 2, 0, 0, []) by decide +kernel) (by decide)) ?_
  refine Eq.trans (ev_lda (show zcode 163 2 = some (6, 3, 0, 0, []) by decide +kernel) rfl (by decide)) ?_
  refine Eq.trans (ev_gi (show zcode 163 3 = some (55, 6, 12, 12, []) by decide +kernel) (so130 hS)) ?_
  exact ev_cstat (show zcode 163 6 = some (74, 9, 150, 3, []) by decide +kernel) (args := [(0, x1), (0, 0), (0, (V 130 12))]) (rest := []) rfl rfl (show 0 ≤ 8 by decide) ⟨by decide, show 3 ≤ 3 by decide⟩
theorem b163_9 {T : zT} {V : zM} {x1 : Int} {y0 : Int} : ev 163 9 [(2, 130), (0, x1)] [(0, y0)] T V = if y0 = 0 then ev 163 12 [(2, 130), (0, x1)] [] T V else ev 163 14 [(2, 130), (0, x1)] [] T V := by
  exact ev_ne (show zcode 163 9 = some (41, 12, 14, 0, []) by decide +kernel)
theorem b163_12 {T : zT} {V : zM} {x1 : Int} : ev 163 12 [(2, 130), (0, x1)] [] T V = some ((0, (-1)), T, V) := by
  refine Eq.trans (ev_ci (show zcode 163 12 = some (0, 13, 0, (-1), []) by decide +kernel) (by decide)) ?_
  exact ev_ri (show zcode 163 13 = some (72, 14, 0, 0, []) by decide +kernel)
theorem b163_14 {T : zT} {V : zM} {x1 : Int} (hS : zStr T)  : ev 163 14 [(2, 130), (0, x1)] [] T V = some ((0, x1), T, (zwr V 130 12 x1)) := by
  refine Eq.trans (ev_lda (show zcode 163 14 = some (6, 15, 0, 0, []) by decide +kernel) rfl (by decide)) ?_
  refine Eq.trans (ev_ldi (show zcode 163 15 = some (4, 16, 1, 0, []) by decide +kernel) rfl) ?_
  refine Eq.trans (ev_pi (show zcode 163 16 = some (57, 19, 12, 12, []) by decide +kernel) (so130 hS)) ?_
  refine Eq.trans (ev_ldi (show zcode 163 19 = some (4, 20, 1, 0, []) by decide +kernel) rfl) ?_
  exact ev_ri (show zcode 163 20 = some (72, 21, 0, 0, []) by decide +kernel)
/-! 164: TwoWayWallModel.tables()I -/
theorem e164 {T : zT} {V : zM}  : zcall 164 [(2, 130)] T V = ev 164 0 [(2, 130), (9, 0), (9, 0)] [] T V := rfl
theorem b164_0 {T : zT} {V : zM}  (hS : zStr T)  : ev 164 0 [(2, 130), (9, 0), (9, 0)] [] T V = (zcall 165 [(2, 130), (0, ((zwr V 130 20 (V 130 12)) 130 12))] T (zwr V 130 20 (V 130 12))).bind fun x => ev 164 16 [(2, 130), (9, 0), (9, 0)] (z_push x.1 []) x.2.1 x.2.2 := by
  refine Eq.trans (ev_lda (show zcode 164 0 = some (6, 1, 0, 0, []) by decide +kernel) rfl (by decide)) ?_
  refine Eq.trans (ev_lda (show zcode 164 1 = some (6, 2, 0, 0, []) by decide +kernel) rfl (by decide)) ?_
  refine Eq.trans (ev_gi (show zcode 164 2 = some (55, 5, 12, 12, []) by decide +kernel) (so130 hS)) ?_
  refine Eq.trans (ev_pi (show zcode 164 5 = some (57, 8, 12, 20, []) by decide +kernel) (so130 hS)) ?_
  refine Eq.trans (ev_lda (show zcode 164 8 = some (6, 9, 0, 0, []) by decide +kernel) rfl (by decide)) ?_
  refine Eq.trans (ev_lda (show zcode 164 9 = some (6, 10, 0, 0, []) by decide +kernel) rfl (by decide)) ?_
  refine Eq.trans (ev_gi (show zcode 164 10 = some (55, 13, 12, 12, []) by decide +kernel) (so130 hS)) ?_
  exact ev_cvirt (show zcode 164 13 = some (76, 16, 165, 2, [12]) by decide +kernel) (args := [(0, ((zwr V 130 20 (V 130 12)) 130 12))]) (rest := []) rfl (so130 hS) rfl (show 0 ≤ 8 by decide) ⟨by decide, show 2 ≤ 6 by decide⟩
theorem b164_16 {T : zT} {V : zM}  (hS : zStr T)  : ev 164 16 [(2, 130), (9, 0), (9, 0)] [] T V = ev 164 33 [(2, 130), (0, 0), (9, 0)] [] T (zwr (zwr (zwr V 130 12 0) 130 18 0) 130 19 (-1)) := by
  refine Eq.trans (ev_lda (show zcode 164 16 = some (6, 17, 0, 0, []) by decide +kernel) rfl (by decide)) ?_
  refine Eq.trans (ev_ci (show zcode 164 17 = some (0, 18, 0, 0, []) by decide +kernel) (by decide)) ?_
  refine Eq.trans (ev_pi (show zcode 164 18 = some (57, 21, 12, 12, []) by decide +kernel) (so130 hS)) ?_
  refine Eq.trans (ev_lda (show zcode 164 21 = some (6, 22, 0, 0, []) by decide +kernel) rfl (by decide)) ?_
  refine Eq.trans (ev_ci (show zcode 164 22 = some (0, 23, 0, 0, []) by decide +kernel) (by decide)) ?_
  refine Eq.trans (ev_pi (show zcode 164 23 = some (57, 26, 12, 18, []) by decide +kernel) (so130 hS)) ?_
  refine Eq.trans (ev_lda (show zcode 164 26 = some (6, 27, 0, 0, []) by decide +kernel) rfl (by decide)) ?_
  refine Eq.trans (ev_ci (show zcode 164 27 = some (0, 28, 0, (-1), []) by decide +kernel) (by decide)) ?_
  refine Eq.trans (ev_pi (show zcode 164 28 = some (57, 31, 12, 19, []) by decide +kernel) (so130 hS)) ?_
  refine Eq.trans (ev_ci (show zcode 164 31 = some (0, 32, 0, 0, []) by decide +kernel) (by decide)) ?_
  exact ev_sti (show zcode 164 32 = some (7, 33, 1, 0, []) by decide +kernel) ⟨show 1 < 3 by decide, Or.inr (show ¬ (2 : Nat) = 1 by decide)⟩
theorem b164_33 {T : zT} {V : zM} {x1 : Int} : ev 164 33 [(2, 130), (0, x1), (9, 0)] [] T V = if 300 ≤ x1 then ev 164 58 [(2, 130), (0, x1), (9, 0)] [] T V else ev 164 40 [(2, 130), (0, x1), (9, 0)] [] T V := by
  refine Eq.trans (ev_ldi (show zcode 164 33 = some (4, 34, 1, 0, []) by decide +kernel) rfl) ?_
  refine Eq.trans (ev_ci (show zcode 164 34 = some (0, 37, 0, 300, []) by decide +kernel) (by decide)) ?_
  exact ev_cge (show zcode 164 37 = some (49, 40, 58, 0, []) by decide +kernel)
theorem b164_40 {T : zT} {V : zM} {x1 : Int} (hS : zStr T) (h1 : (0 : Int) ≤ x1 ∧ x1 < 428) (h2 : (0 : Int) ≤ x1 ∧ x1 < 300) (h3 : -2147483648 ≤ (x1 + 1) ∧ (x1 + 1) ≤ 2147483647) : ev 164 40 [(2, 130), (0, x1), (9, 0)] [] T V = ev 164 33 [(2, 130), (0, (x1 + 1)), (9, 0)] [] T (zwr V 135 x1 (V 132 x1)) := by
  refine Eq.trans (ev_lda (show zcode 164 40 = some (6, 41, 0, 0, []) by decide +kernel) rfl (by decide)) ?_
  refine Eq.trans (ev_gq (show zcode 164 41 = some (56, 44, 12, 7, []) by decide +kernel) (so130 hS) (sp130_7 hS)) ?_
  refine Eq.trans (ev_ldi (show zcode 164 44 = some (4, 45, 1, 0, []) by decide +kernel) rfl) ?_
  refine Eq.trans (ev_lda (show zcode 164 45 = some (6, 46, 0, 0, []) by decide +kernel) rfl (by decide)) ?_
  refine Eq.trans (ev_gq (show zcode 164 46 = some (56, 49, 12, 4, []) by decide +kernel) (so130 hS) (sp130_4 hS)) ?_
  refine Eq.trans (ev_ldi (show zcode 164 49 = some (4, 50, 1, 0, []) by decide +kernel) rfl) ?_
  refine Eq.trans (ev_ia (show zcode 164 50 = some (60, 51, 0, 0, []) by decide +kernel) (sa132 hS) h1) ?_
  refine Eq.trans (ev_is (show zcode 164 51 = some (64, 52, 0, 0, []) by decide +kernel) (sa135 hS) h2) ?_
  refine Eq.trans (ev_inc (show zcode 164 52 = some (10, 55, 1, 1, []) by decide +kernel) rfl h3 (Or.inr (show ¬ (2 : Nat) = 1 by decide))) ?_
  exact ev_goto (show zcode 164 55 = some (53, 58, 33, 0, []) by decide +kernel)
theorem b164_58 {T : zT} {V : zM} {x1 : Int} (hS : zStr T)  : ev 164 58 [(2, 130), (0, x1), (9, 0)] [] T V = (zcall 169 [(2, 130)] T V).bind fun x => ev 164 62 [(2, 130), (0, x1), (9, 0)] (z_push x.1 []) x.2.1 x.2.2 := by
  refine Eq.trans (ev_lda (show zcode 164 58 = some (6, 59, 0, 0, []) by decide +kernel) rfl (by decide)) ?_
  exact ev_cvirt (show zcode 164 59 = some (76, 62, 169, 1, [12]) by decide +kernel) (args := []) (rest := []) rfl (so130 hS) rfl (show 0 ≤ 8 by decide) ⟨by decide, show 1 ≤ 3 by decide⟩
theorem b164_62 {T : zT} {V : zM} {x1 : Int} : ev 164 62 [(2, 130), (0, x1), (9, 0)] [] T V = ev 164 64 [(2, 130), (0, 1), (9, 0)] [] T V := by
  refine Eq.trans (ev_ci (show zcode 164 62 = some (0, 63, 0, 1, []) by decide +kernel) (by decide)) ?_
  exact ev_sti (show zcode 164 63 = some (7, 64, 1, 0, []) by decide +kernel) ⟨show 1 < 3 by decide, Or.inr (show ¬ (2 : Nat) = 1 by decide)⟩
theorem b164_64 {T : zT} {V : zM} {x1 : Int} : ev 164 64 [(2, 130), (0, x1), (9, 0)] [] T V = (zcall 180 [(0, 59)] T V).bind fun x => ev 164 70 [(2, 130), (0, x1), (9, 0)] (z_push x.1 [(2, 130)]) x.2.1 x.2.2 := by
  refine Eq.trans (ev_lda (show zcode 164 64 = some (6, 65, 0, 0, []) by decide +kernel) rfl (by decide)) ?_
  refine Eq.trans (ev_ci (show zcode 164 65 = some (0, 67, 0, 59, []) by decide +kernel) (by decide)) ?_
  exact ev_cstat (show zcode 164 67 = some (74, 70, 180, 1, []) by decide +kernel) (args := [(0, 59)]) (rest := [(2, 130)]) rfl rfl (show 1 ≤ 8 by decide) ⟨by decide, show 1 ≤ 1 by decide⟩
theorem b164_70 {T : zT} {V : zM} {x1 : Int} {y1 : Int} (hS : zStr T)  : ev 164 70 [(2, 130), (0, x1), (9, 0)] [(0, y1), (2, 130)] T V = (zcall 170 [(2, 130), (0, y1)] T V).bind fun x => ev 164 73 [(2, 130), (0, x1), (9, 0)] (z_push x.1 []) x.2.1 x.2.2 := by
  exact ev_cvirt (show zcode 164 70 = some (76, 73, 170, 2, [12]) by decide +kernel) (args := [(0, y1)]) (rest := []) rfl (so130 hS) rfl (show 0 ≤ 8 by decide) ⟨by decide, show 2 ≤ 3 by decide⟩
theorem b164_73 {T : zT} {V : zM} {x1 : Int} {y0 : Int} : ev 164 73 [(2, 130), (0, x1), (9, 0)] [(0, y0)] T V = if y0 = 0 then ev 164 103 [(2, 130), (0, x1), (9, 0)] [] T V else ev 164 76 [(2, 130), (0, x1), (9, 0)] [] T V := by
  exact ev_eq (show zcode 164 73 = some (40, 76, 103, 0, []) by decide +kernel)
theorem b164_76 {T : zT} {V : zM} {x1 : Int} : ev 164 76 [(2, 130), (0, x1), (9, 0)] [] T V = if x1 = 24 then ev 164 82 [(2, 130), (0, x1), (9, 0)] [] T V else ev 164 86 [(2, 130), (0, x1), (9, 0)] [] T V := by
  refine Eq.trans (ev_ldi (show zcode 164 76 = some (4, 77, 1, 0, []) by decide +kernel) rfl) ?_
  refine Eq.trans (ev_ci (show zcode 164 77 = some (0, 79, 0, 24, []) by decide +kernel) (by decide)) ?_
  exact ev_cne (show zcode 164 79 = some (47, 82, 86, 0, []) by decide +kernel)
theorem b164_82 {T : zT} {V : zM} {x1 : Int} (hS : zStr T)  : ev 164 82 [(2, 130), (0, x1), (9, 0)] [] T V = (zcall 174 [(2, 130)] T V).bind fun x => ev 164 86 [(2, 130), (0, x1), (9, 0)] (z_push x.1 []) x.2.1 x.2.2 := by
  refine Eq.trans (ev_lda (show zcode 164 82 = some (6, 83, 0, 0, []) by decide +kernel) rfl (by decide)) ?_
  exact ev_cvirt (show zcode 164 83 = some (76, 86, 174, 1, [12]) by decide +kernel) (args := []) (rest := []) rfl (so130 hS) rfl (show 0 ≤ 8 by decide) ⟨by decide, show 1 ≤ 1 by decide⟩
theorem b164_86 {T : zT} {V : zM} {x1 : Int} (hS : zStr T)  : ev 164 86 [(2, 130), (0, x1), (9, 0)] [] T V = (zcall 171 [(2, 130)] T V).bind fun x => ev 164 90 [(2, 130), (0, x1), (9, 0)] (z_push x.1 []) x.2.1 x.2.2 := by
  refine Eq.trans (ev_lda (show zcode 164 86 = some (6, 87, 0, 0, []) by decide +kernel) rfl (by decide)) ?_
  exact ev_cvirt (show zcode 164 87 = some (76, 90, 171, 1, [12]) by decide +kernel) (args := []) (rest := []) rfl (so130 hS) rfl (show 0 ≤ 8 by decide) ⟨by decide, show 1 ≤ 1 by decide⟩
theorem b164_90 {T : zT} {V : zM} {x1 : Int} {y0 : Int} : ev 164 90 [(2, 130), (0, x1), (9, 0)] [(0, y0)] T V = if y0 = 0 then ev 164 97 [(2, 130), (0, x1), (9, 0)] [] T V else ev 164 93 [(2, 130), (0, x1), (9, 0)] [] T V := by
  exact ev_eq (show zcode 164 90 = some (40, 93, 97, 0, []) by decide +kernel)
theorem b164_93 {T : zT} {V : zM} {x1 : Int} (hS : zStr T)  : ev 164 93 [(2, 130), (0, x1), (9, 0)] [] T V = (zcall 169 [(2, 130)] T V).bind fun x => ev 164 97 [(2, 130), (0, x1), (9, 0)] (z_push x.1 []) x.2.1 x.2.2 := by
  refine Eq.trans (ev_lda (show zcode 164 93 = some (6, 94, 0, 0, []) by decide +kernel) rfl (by decide)) ?_
  exact ev_cvirt (show zcode 164 94 = some (76, 97, 169, 1, [12]) by decide +kernel) (args := []) (rest := []) rfl (so130 hS) rfl (show 0 ≤ 8 by decide) ⟨by decide, show 1 ≤ 3 by decide⟩
theorem b164_97 {T : zT} {V : zM} {x1 : Int} (h1 : -2147483648 ≤ (x1 + 1) ∧ (x1 + 1) ≤ 2147483647) : ev 164 97 [(2, 130), (0, x1), (9, 0)] [] T V = ev 164 64 [(2, 130), (0, (x1 + 1)), (9, 0)] [] T V := by
  refine Eq.trans (ev_inc (show zcode 164 97 = some (10, 100, 1, 1, []) by decide +kernel) rfl h1 (Or.inr (show ¬ (2 : Nat) = 1 by decide))) ?_
  exact ev_goto (show zcode 164 100 = some (53, 103, 64, 0, []) by decide +kernel)
theorem b164_103 {T : zT} {V : zM} {x1 : Int} (hS : zStr T)  : ev 164 103 [(2, 130), (0, x1), (9, 0)] [] T V = (zcall 171 [(2, 130)] T V).bind fun x => ev 164 107 [(2, 130), (0, x1), (9, 0)] (z_push x.1 []) x.2.1 x.2.2 := by
  refine Eq.trans (ev_lda (show zcode 164 103 = some (6, 104, 0, 0, []) by decide +kernel) rfl (by decide)) ?_
  exact ev_cvirt (show zcode 164 104 = some (76, 107, 171, 1, [12]) by decide +kernel) (args := []) (rest := []) rfl (so130 hS) rfl (show 0 ≤ 8 by decide) ⟨by decide, show 1 ≤ 1 by decide⟩
theorem b164_107 {T : zT} {V : zM} {x1 : Int} {y0 : Int} : ev 164 107 [(2, 130), (0, x1), (9, 0)] [(0, y0)] T V = if y0 = 0 then ev 164 125 [(2, 130), (0, x1), (9, 0)] [] T V else ev 164 110 [(2, 130), (0, x1), (9, 0)] [] T V := by
  exact ev_eq (show zcode 164 107 = some (40, 110, 125, 0, []) by decide +kernel)
theorem b164_110 {T : zT} {V : zM} {x1 : Int} (hS : zStr T)  : ev 164 110 [(2, 130), (0, x1), (9, 0)] [] T V = if (V 130 17) ≤ (V 130 18) then ev 164 125 [(2, 130), (0, x1), (9, 0)] [] T V else ev 164 121 [(2, 130), (0, x1), (9, 0)] [] T V := by
  refine Eq.trans (ev_lda (show zcode 164 110 = some (6, 111, 0, 0, []) by decide +kernel) rfl (by decide)) ?_
  refine Eq.trans (ev_gi (show zcode 164 111 = some (55, 114, 12, 18, []) by decide +kernel) (so130 hS)) ?_
  refine Eq.trans (ev_lda (show zcode 164 114 = some (6, 115, 0, 0, []) by decide +kernel) rfl (by decide)) ?_
  refine Eq.trans (ev_gi (show zcode 164 115 = some (55, 118, 12, 17, []) by decide +kernel) (so130 hS)) ?_
  exact ev_cge (show zcode 164 118 = some (49, 121, 125, 0, []) by decide +kernel)
theorem b164_121 {T : zT} {V : zM} {x1 : Int} (hS : zStr T)  : ev 164 121 [(2, 130), (0, x1), (9, 0)] [] T V = (zcall 174 [(2, 130)] T V).bind fun x => ev 164 125 [(2, 130), (0, x1), (9, 0)] (z_push x.1 []) x.2.1 x.2.2 := by
  refine Eq.trans (ev_lda (show zcode 164 121 = some (6, 122, 0, 0, []) by decide +kernel) rfl (by decide)) ?_
  exact ev_cvirt (show zcode 164 122 = some (76, 125, 174, 1, [12]) by decide +kernel) (args := []) (rest := []) rfl (so130 hS) rfl (show 0 ≤ 8 by decide) ⟨by decide, show 1 ≤ 1 by decide⟩
theorem b164_125 {T : zT} {V : zM} {x1 : Int} (hS : zStr T)  : ev 164 125 [(2, 130), (0, x1), (9, 0)] [] T V = (zcall 171 [(2, 130)] T (zwr V 130 13 (V 130 19))).bind fun x => ev 164 137 [(2, 130), (0, x1), (9, 0)] (z_push x.1 []) x.2.1 x.2.2 := by
  refine Eq.trans (ev_lda (show zcode 164 125 = some (6, 126, 0, 0, []) by decide +kernel) rfl (by decide)) ?_
  refine Eq.trans (ev_lda (show zcode 164 126 = some (6, 127, 0, 0, []) by decide +kernel) rfl (by decide)) ?_
  refine Eq.trans (ev_gi (show zcode 164 127 = some (55, 130, 12, 19, []) by decide +kernel) (so130 hS)) ?_
  refine Eq.trans (ev_pi (show zcode 164 130 = some (57, 133, 12, 13, []) by decide +kernel) (so130 hS)) ?_
  refine Eq.trans (ev_lda (show zcode 164 133 = some (6, 134, 0, 0, []) by decide +kernel) rfl (by decide)) ?_
  exact ev_cvirt (show zcode 164 134 = some (76, 137, 171, 1, [12]) by decide +kernel) (args := []) (rest := []) rfl (so130 hS) rfl (show 0 ≤ 8 by decide) ⟨by decide, show 1 ≤ 1 by decide⟩
theorem b164_137 {T : zT} {V : zM} {x1 : Int} {y0 : Int} : ev 164 137 [(2, 130), (0, x1), (9, 0)] [(0, y0)] T V = if y0 = 0 then ev 164 140 [(2, 130), (0, x1), (9, 0)] [] T V else ev 164 147 [(2, 130), (0, x1), (9, 0)] [] T V := by
  exact ev_ne (show zcode 164 137 = some (41, 140, 147, 0, []) by decide +kernel)
theorem b164_140 {T : zT} {V : zM} {x1 : Int} (hS : zStr T)  : ev 164 140 [(2, 130), (0, x1), (9, 0)] [] T V = (zcall 151 [(2, 130), (0, (-6))] T V).bind fun x => ev 164 146 [(2, 130), (0, x1), (9, 0)] (z_push x.1 []) x.2.1 x.2.2 := by
  refine Eq.trans (ev_lda (show zcode 164 140 = some (6, 141, 0, 0, []) by decide +kernel) rfl (by decide)) ?_
  refine Eq.trans (ev_ci (show zcode 164 141 = some (0, 143, 0, (-6), []) by decide +kernel) (by decide)) ?_
  exact ev_cvirt (show zcode 164 143 = some (76, 146, 151, 2, [12]) by decide +kernel) (args := [(0, (-6))]) (rest := []) rfl (so130 hS) rfl (show 0 ≤ 8 by decide) ⟨by decide, show 2 ≤ 2 by decide⟩
theorem b164_146 {T : zT} {V : zM} {x1 : Int} {y0 : Int} : ev 164 146 [(2, 130), (0, x1), (9, 0)] [(0, y0)] T V = some ((0, y0), T, V) := by
  exact ev_ri (show zcode 164 146 = some (72, 147, 0, 0, []) by decide +kernel)
theorem b164_147 {T : zT} {V : zM} {x1 : Int} : ev 164 147 [(2, 130), (0, x1), (9, 0)] [] T V = ev 164 149 [(2, 130), (0, x1), (0, 0)] [] T V := by
  refine Eq.trans (ev_ci (show zcode 164 147 = some (0, 148, 0, 0, []) by decide +kernel) (by decide)) ?_
  exact ev_sti (show zcode 164 148 = some (7, 149, 2, 0, []) by decide +kernel) ⟨show 2 < 3 by decide, Or.inr (show ¬ (0 : Nat) = 1 by decide)⟩
theorem b164_149 {T : zT} {V : zM} {x1 : Int} {x2 : Int} : ev 164 149 [(2, 130), (0, x1), (0, x2)] [] T V = if 300 ≤ x2 then ev 164 174 [(2, 130), (0, x1), (0, x2)] [] T V else ev 164 156 [(2, 130), (0, x1), (0, x2)] [] T V := by
  refine Eq.trans (ev_ldi (show zcode 164 149 = some (4, 150, 2, 0, []) by decide +kernel) rfl) ?_
  refine Eq.trans (ev_ci (show zcode 164 150 = some (0, 153, 0, 300, []) by decide +kernel) (by decide)) ?_
  exact ev_cge (show zcode 164 153 = some (49, 156, 174, 0, []) by decide +kernel)
theorem b164_156 {T : zT} {V : zM} {x1 : Int} {x2 : Int} (hS : zStr T) (h1 : (0 : Int) ≤ x2 ∧ x2 < 300) (h2 : (0 : Int) ≤ x2 ∧ x2 < 428) (h3 : -2147483648 ≤ (x2 + 1) ∧ (x2 + 1) ≤ 2147483647) : ev 164 156 [(2, 130), (0, x1), (0, x2)] [] T V = ev 164 149 [(2, 130), (0, x1), (0, (x2 + 1))] [] T (zwr V 132 x2 (V 135 x2)) := by
  refine Eq.trans (ev_lda (show zcode 164 156 = some (6, 157, 0, 0, []) by decide +kernel) rfl (by decide)) ?_
  refine Eq.trans (ev_gq (show zcode 164 157 = some (56, 160, 12, 4, []) by decide +kernel) (so130 hS) (sp130_4 hS)) ?_
  refine Eq.trans (ev_ldi (show zcode 164 160 = some (4, 161, 2, 0, []) by decide +kernel) rfl) ?_
  refine Eq.trans (ev_lda (show zcode 164 161 = some (6, 162, 0, 0, []) by decide +kernel) rfl (by decide)) ?_
  refine Eq.trans (ev_gq (show zcode 164 162 = some (56, 165, 12, 7, []) by decide +kernel) (so130 hS) (sp130_7 hS)) ?_
  refine Eq.trans (ev_ldi (show zcode 164 165 = some (4, 166, 2, 0, []) by decide +kernel) rfl) ?_
  refine Eq.trans (ev_ia (show zcode 164 166 = some (60, 167, 0, 0, []) by decide +kernel) (sa135 hS) h1) ?_
  refine Eq.trans (ev_is (show zcode 164 167 = some (64, 168, 0, 0, []) by decide +kernel) (sa132 hS) h2) ?_
  refine Eq.trans (ev_inc (show zcode 164 168 = some (10, 171, 2, 1, []) by decide +kernel) rfl h3 (Or.inr (show ¬ (0 : Nat) = 1 by decide))) ?_
  exact ev_goto (show zcode 164 171 = some (53, 174, 149, 0, []) by decide +kernel)
theorem b164_174 {T : zT} {V : zM} {x1 : Int} {x2 : Int} (hS : zStr T) (h1 : -2147483648 ≤ ((V 130 1) + 1) ∧ ((V 130 1) + 1) ≤ 2147483647) : ev 164 174 [(2, 130), (0, x1), (0, x2)] [] T V = (zcall 152 [(2, 130), (0, x1)] T (zwr V 130 1 ((V 130 1) + 1))).bind fun x => ev 164 189 [(2, 130), (0, x1), (0, x2)] (z_push x.1 []) x.2.1 x.2.2 := by
  refine Eq.trans (ev_lda (show zcode 164 174 = some (6, 175, 0, 0, []) by decide +kernel) rfl (by decide)) ?_
  refine Eq.trans (ev_dup (show zcode 164 175 = some (36, 176, 0, 0, []) by decide +kernel) (by decide)) ?_
  refine Eq.trans (ev_gi (show zcode 164 176 = some (55, 179, 12, 1, []) by decide +kernel) (so130 hS)) ?_
  refine Eq.trans (ev_ci (show zcode 164 179 = some (0, 180, 0, 1, []) by decide +kernel) (by decide)) ?_
  refine Eq.trans (ev_add (show zcode 164 180 = some (11, 181, 0, 0, []) by decide +kernel) h1) ?_
  refine Eq.trans (ev_pi (show zcode 164 181 = some (57, 184, 12, 1, []) by decide +kernel) (so130 hS)) ?_
  refine Eq.trans (ev_lda (show zcode 164 184 = some (6, 185, 0, 0, []) by decide +kernel) rfl (by decide)) ?_
  refine Eq.trans (ev_ldi (show zcode 164 185 = some (4, 186, 1, 0, []) by decide +kernel) rfl) ?_
  exact ev_cvirt (show zcode 164 186 = some (76, 189, 152, 2, [12]) by decide +kernel) (args := [(0, x1)]) (rest := []) rfl (so130 hS) rfl (show 0 ≤ 8 by decide) ⟨by decide, show 2 ≤ 2 by decide⟩
theorem b164_189 {T : zT} {V : zM} {x1 : Int} {x2 : Int} {y0 : Int} : ev 164 189 [(2, 130), (0, x1), (0, x2)] [(0, y0)] T V = some ((0, y0), T, V) := by
  exact ev_ri (show zcode 164 189 = some (72, 190, 0, 0, []) by decide +kernel)
/-! 165: TwoWayWallModel.splits(I)V -/
theorem e165 {T : zT} {V : zM} {x1 : Int} : zcall 165 [(2, 130), (0, x1)] T V = ev 165 0 [(2, 130), (0, x1), (9, 0), (9, 0), (9, 0), (9, 0)] [] T V := rfl
theorem b165_0 {T : zT} {V : zM} {x1 : Int} (hS : zStr T)  : ev 165 0 [(2, 130), (0, x1), (9, 0), (9, 0), (9, 0), (9, 0)] [] T V = ev 165 7 [(2, 130), (0, x1), (0, 0), (9, 0), (9, 0), (9, 0)] [] T (zwr V 130 17 0) := by
  refine Eq.trans (ev_lda (show zcode 165 0 = some (6, 1, 0, 0, []) by decide +kernel) rfl (by decide)) ?_
  refine Eq.trans (ev_ci (show zcode 165 1 = some (0, 2, 0, 0, []) by decide +kernel) (by decide)) ?_
  refine Eq.trans (ev_pi (show zcode 165 2 = some (57, 5, 12, 17, []) by decide +kernel) (so130 hS)) ?_
  refine Eq.trans (ev_ci (show zcode 165 5 = some (0, 6, 0, 0, []) by decide +kernel) (by decide)) ?_
  exact ev_sti (show zcode 165 6 = some (7, 7, 2, 0, []) by decide +kernel) ⟨show 2 < 6 by decide, Or.inr (show ¬ (0 : Nat) = 1 by decide)⟩
theorem b165_7 {T : zT} {V : zM} {x1 : Int} {x2 : Int} {v3 : zV} {v4 : zV} {v5 : zV} : ev 165 7 [(2, 130), (0, x1), (0, x2), v3, v4, v5] [] T V = if x1 ≤ x2 then ev 165 263 [(2, 130), (0, x1), (0, x2), v3, v4, v5] [] T V else ev 165 12 [(2, 130), (0, x1), (0, x2), v3, v4, v5] [] T V := by
  refine Eq.trans (ev_ldi (show zcode 165 7 = some (4, 8, 2, 0, []) by decide +kernel) rfl) ?_
  refine Eq.trans (ev_ldi (show zcode 165 8 = some (4, 9, 1, 0, []) by decide +kernel) rfl) ?_
  exact ev_cge (show zcode 165 9 = some (49, 12, 263, 0, []) by decide +kernel)
theorem b165_12 {T : zT} {V : zM} {x1 : Int} {x2 : Int} {v3 : zV} {v4 : zV} {v5 : zV} (hS : zStr T) (h1 : (0 : Int) ≤ x2 ∧ x2 < 400) : ev 165 12 [(2, 130), (0, x1), (0, x2), v3, v4, v5] [] T V = if (V 137 x2) = 32 then ev 165 25 [(2, 130), (0, x1), (0, x2), (0, (V 137 x2)), v4, v5] [] T V else ev 165 31 [(2, 130), (0, x1), (0, x2), (0, (V 137 x2)), v4, v5] [] T V := by
  refine Eq.trans (ev_lda (show zcode 165 12 = some (6, 13, 0, 0, []) by decide +kernel) rfl (by decide)) ?_
  refine Eq.trans (ev_gq (show zcode 165 13 = some (56, 16, 12, 10, []) by decide +kernel) (so130 hS) (sp130_10 hS)) ?_
  refine Eq.trans (ev_ldi (show zcode 165 16 = some (4, 17, 2, 0, []) by decide +kernel) rfl) ?_
  refine Eq.trans (ev_ba (show zcode 165 17 = some (62, 18, 0, 0, []) by decide +kernel) (sa137 hS) h1) ?_
  refine Eq.trans (ev_sti (show zcode 165 18 = some (7, 19, 3, 0, []) by decide +kernel) ⟨show 3 < 6 by decide, Or.inr (show ¬ (0 : Nat) = 1 by decide)⟩) ?_
  refine Eq.trans (ev_ldi (show zcode 165 19 = some (4, 20, 3, 0, []) by decide +kernel) rfl) ?_
  refine Eq.trans (ev_ci (show zcode 165 20 = some (0, 22, 0, 32, []) by decide +kernel) (by decide)) ?_
  exact ev_cne (show zcode 165 22 = some (47, 25, 31, 0, []) by decide +kernel)
theorem b165_25 {T : zT} {V : zM} {x1 : Int} {x2 : Int} {x3 : Int} {v4 : zV} {v5 : zV} (h1 : -2147483648 ≤ (x2 + 1) ∧ (x2 + 1) ≤ 2147483647) : ev 165 25 [(2, 130), (0, x1), (0, x2), (0, x3), v4, v5] [] T V = ev 165 7 [(2, 130), (0, x1), (0, (x2 + 1)), (0, x3), v4, v5] [] T V := by
  refine Eq.trans (ev_inc (show zcode 165 25 = some (10, 28, 2, 1, []) by decide +kernel) rfl h1 (Or.inr (show ¬ (0 : Nat) = 1 by decide))) ?_
  exact ev_goto (show zcode 165 28 = some (53, 31, 7, 0, []) by decide +kernel)
theorem b165_31 {T : zT} {V : zM} {x1 : Int} {x2 : Int} {x3 : Int} {v4 : zV} {v5 : zV} (h1 : -2147483648 ≤ (x2 + 1) ∧ (x2 + 1) ≤ 2147483647) : ev 165 31 [(2, 130), (0, x1), (0, x2), (0, x3), v4, v5] [] T V = (zcall 166 [(0, x3)] T V).bind fun x => ev 165 40 [(2, 130), (0, x1), (0, x2), (0, x3), (0, (x2 + 1)), v5] (z_push x.1 []) x.2.1 x.2.2 := by
  refine Eq.trans (ev_ldi (show zcode 165 31 = some (4, 32, 2, 0, []) by decide +kernel) rfl) ?_
  refine Eq.trans (ev_ci (show zcode 165 32 = some (0, 33, 0, 1, []) by decide +kernel) (by decide)) ?_
  refine Eq.trans (ev_add (show zcode 165 33 = some (11, 34, 0, 0, []) by decide +kernel) h1) ?_
  refine Eq.trans (ev_sti (show zcode 165 34 = some (7, 36, 4, 0, []) by decide +kernel) ⟨show 4 < 6 by decide, Or.inr (show ¬ (0 : Nat) = 1 by decide)⟩) ?_
  refine Eq.trans (ev_ldi (show zcode 165 36 = some (4, 37, 3, 0, []) by decide +kernel) rfl) ?_
  exact ev_cstat (show zcode 165 37 = some (74, 40, 166, 1, []) by decide +kernel) (args := [(0, x3)]) (rest := []) rfl rfl (show 0 ≤ 8 by decide) ⟨by decide, show 1 ≤ 1 by decide⟩
theorem b165_40 {T : zT} {V : zM} {x1 : Int} {x2 : Int} {x3 : Int} {x4 : Int} {v5 : zV} {y0 : Int} : ev 165 40 [(2, 130), (0, x1), (0, x2), (0, x3), (0, x4), v5] [(0, y0)] T V = if y0 = 0 then ev 165 68 [(2, 130), (0, x1), (0, x2), (0, x3), (0, x4), v5] [] T V else ev 165 43 [(2, 130), (0, x1), (0, x2), (0, x3), (0, x4), v5] [] T V := by
  exact ev_eq (show zcode 165 40 = some (40, 43, 68, 0, []) by decide +kernel)
theorem b165_43 {T : zT} {V : zM} {x1 : Int} {x2 : Int} {x3 : Int} {x4 : Int} {v5 : zV} : ev 165 43 [(2, 130), (0, x1), (0, x2), (0, x3), (0, x4), v5] [] T V = if x1 ≤ x4 then ev 165 68 [(2, 130), (0, x1), (0, x2), (0, x3), (0, x4), v5] [] T V else ev 165 49 [(2, 130), (0, x1), (0, x2), (0, x3), (0, x4), v5] [] T V := by
  refine Eq.trans (ev_ldi (show zcode 165 43 = some (4, 45, 4, 0, []) by decide +kernel) rfl) ?_
  refine Eq.trans (ev_ldi (show zcode 165 45 = some (4, 46, 1, 0, []) by decide +kernel) rfl) ?_
  exact ev_cge (show zcode 165 46 = some (49, 49, 68, 0, []) by decide +kernel)
theorem b165_49 {T : zT} {V : zM} {x1 : Int} {x2 : Int} {x3 : Int} {x4 : Int} {v5 : zV} (hS : zStr T) (h1 : (0 : Int) ≤ x4 ∧ x4 < 400) : ev 165 49 [(2, 130), (0, x1), (0, x2), (0, x3), (0, x4), v5] [] T V = (zcall 166 [(0, (V 137 x4))] T V).bind fun x => ev 165 59 [(2, 130), (0, x1), (0, x2), (0, x3), (0, x4), v5] (z_push x.1 []) x.2.1 x.2.2 := by
  refine Eq.trans (ev_lda (show zcode 165 49 = some (6, 50, 0, 0, []) by decide +kernel) rfl (by decide)) ?_
  refine Eq.trans (ev_gq (show zcode 165 50 = some (56, 53, 12, 10, []) by decide +kernel) (so130 hS) (sp130_10 hS)) ?_
  refine Eq.trans (ev_ldi (show zcode 165 53 = some (4, 55, 4, 0, []) by decide +kernel) rfl) ?_
  refine Eq.trans (ev_ba (show zcode 165 55 = some (62, 56, 0, 0, []) by decide +kernel) (sa137 hS) h1) ?_
  exact ev_cstat (show zcode 165 56 = some (74, 59, 166, 1, []) by decide +kernel) (args := [(0, (V 137 x4))]) (rest := []) rfl rfl (show 0 ≤ 8 by decide) ⟨by decide, show 1 ≤ 1 by decide⟩
theorem b165_59 {T : zT} {V : zM} {x1 : Int} {x2 : Int} {x3 : Int} {x4 : Int} {v5 : zV} {y0 : Int} : ev 165 59 [(2, 130), (0, x1), (0, x2), (0, x3), (0, x4), v5] [(0, y0)] T V = if y0 = 0 then ev 165 68 [(2, 130), (0, x1), (0, x2), (0, x3), (0, x4), v5] [] T V else ev 165 62 [(2, 130), (0, x1), (0, x2), (0, x3), (0, x4), v5] [] T V := by
  exact ev_eq (show zcode 165 59 = some (40, 62, 68, 0, []) by decide +kernel)
theorem b165_62 {T : zT} {V : zM} {x1 : Int} {x2 : Int} {x3 : Int} {x4 : Int} {v5 : zV} (h1 : -2147483648 ≤ (x4 + 1) ∧ (x4 + 1) ≤ 2147483647) : ev 165 62 [(2, 130), (0, x1), (0, x2), (0, x3), (0, x4), v5] [] T V = ev 165 43 [(2, 130), (0, x1), (0, x2), (0, x3), (0, (x4 + 1)), v5] [] T V := by
  refine Eq.trans (ev_inc (show zcode 165 62 = some (10, 65, 4, 1, []) by decide +kernel) rfl h1 (Or.inr (show ¬ (0 : Nat) = 1 by decide))) ?_
  exact ev_goto (show zcode 165 65 = some (53, 68, 43, 0, []) by decide +kernel)
theorem b165_68 {T : zT} {V : zM} {x1 : Int} {x2 : Int} {x3 : Int} {x4 : Int} {v5 : zV} : ev 165 68 [(2, 130), (0, x1), (0, x2), (0, x3), (0, x4), v5] [] T V = (zcall 167 [(0, x3)] T V).bind fun x => ev 165 72 [(2, 130), (0, x1), (0, x2), (0, x3), (0, x4), v5] (z_push x.1 []) x.2.1 x.2.2 := by
  refine Eq.trans (ev_ldi (show zcode 165 68 = some (4, 69, 3, 0, []) by decide +kernel) rfl) ?_
  exact ev_cstat (show zcode 165 69 = some (74, 72, 167, 1, []) by decide +kernel) (args := [(0, x3)]) (rest := []) rfl rfl (show 0 ≤ 8 by decide) ⟨by decide, show 1 ≤ 1 by decide⟩
theorem b165_72 {T : zT} {V : zM} {x1 : Int} {x2 : Int} {x3 : Int} {x4 : Int} {v5 : zV} {y0 : Int} : ev 165 72 [(2, 130), (0, x1), (0, x2), (0, x3), (0, x4), v5] [(0, y0)] T V = if y0 = 0 then ev 165 100 [(2, 130), (0, x1), (0, x2), (0, x3), (0, x4), v5] [] T V else ev 165 75 [(2, 130), (0, x1), (0, x2), (0, x3), (0, x4), v5] [] T V := by
  exact ev_eq (show zcode 165 72 = some (40, 75, 100, 0, []) by decide +kernel)
theorem b165_75 {T : zT} {V : zM} {x1 : Int} {x2 : Int} {x3 : Int} {x4 : Int} {v5 : zV} : ev 165 75 [(2, 130), (0, x1), (0, x2), (0, x3), (0, x4), v5] [] T V = if x1 ≤ x4 then ev 165 100 [(2, 130), (0, x1), (0, x2), (0, x3), (0, x4), v5] [] T V else ev 165 81 [(2, 130), (0, x1), (0, x2), (0, x3), (0, x4), v5] [] T V := by
  refine Eq.trans (ev_ldi (show zcode 165 75 = some (4, 77, 4, 0, []) by decide +kernel) rfl) ?_
  refine Eq.trans (ev_ldi (show zcode 165 77 = some (4, 78, 1, 0, []) by decide +kernel) rfl) ?_
  exact ev_cge (show zcode 165 78 = some (49, 81, 100, 0, []) by decide +kernel)
theorem b165_81 {T : zT} {V : zM} {x1 : Int} {x2 : Int} {x3 : Int} {x4 : Int} {v5 : zV} (hS : zStr T) (h1 : (0 : Int) ≤ x4 ∧ x4 < 400) : ev 165 81 [(2, 130), (0, x1), (0, x2), (0, x3), (0, x4), v5] [] T V = (zcall 167 [(0, (V 137 x4))] T V).bind fun x => ev 165 91 [(2, 130), (0, x1), (0, x2), (0, x3), (0, x4), v5] (z_push x.1 []) x.2.1 x.2.2 := by
  refine Eq.trans (ev_lda (show zcode 165 81 = some (6, 82, 0, 0, []) by decide +kernel) rfl (by decide)) ?_
  refine Eq.trans (ev_gq (show zcode 165 82 = some (56, 85, 12, 10, []) by decide +kernel) (so130 hS) (sp130_10 hS)) ?_
  refine Eq.trans (ev_ldi (show zcode 165 85 = some (4, 87, 4, 0, []) by decide +kernel) rfl) ?_
  refine Eq.trans (ev_ba (show zcode 165 87 = some (62, 88, 0, 0, []) by decide +kernel) (sa137 hS) h1) ?_
  exact ev_cstat (show zcode 165 88 = some (74, 91, 167, 1, []) by decide +kernel) (args := [(0, (V 137 x4))]) (rest := []) rfl rfl (show 0 ≤ 8 by decide) ⟨by decide, show 1 ≤ 1 by decide⟩
theorem b165_91 {T : zT} {V : zM} {x1 : Int} {x2 : Int} {x3 : Int} {x4 : Int} {v5 : zV} {y0 : Int} : ev 165 91 [(2, 130), (0, x1), (0, x2), (0, x3), (0, x4), v5] [(0, y0)] T V = if y0 = 0 then ev 165 100 [(2, 130), (0, x1), (0, x2), (0, x3), (0, x4), v5] [] T V else ev 165 94 [(2, 130), (0, x1), (0, x2), (0, x3), (0, x4), v5] [] T V := by
  exact ev_eq (show zcode 165 91 = some (40, 94, 100, 0, []) by decide +kernel)
theorem b165_94 {T : zT} {V : zM} {x1 : Int} {x2 : Int} {x3 : Int} {x4 : Int} {v5 : zV} (h1 : -2147483648 ≤ (x4 + 1) ∧ (x4 + 1) ≤ 2147483647) : ev 165 94 [(2, 130), (0, x1), (0, x2), (0, x3), (0, x4), v5] [] T V = ev 165 75 [(2, 130), (0, x1), (0, x2), (0, x3), (0, (x4 + 1)), v5] [] T V := by
  refine Eq.trans (ev_inc (show zcode 165 94 = some (10, 97, 4, 1, []) by decide +kernel) rfl h1 (Or.inr (show ¬ (0 : Nat) = 1 by decide))) ?_
  exact ev_goto (show zcode 165 97 = some (53, 100, 75, 0, []) by decide +kernel)
theorem b165_100 {T : zT} {V : zM} {x1 : Int} {x2 : Int} {x3 : Int} {x4 : Int} {v5 : zV} (hS : zStr T) (h1 : (0 : Int) ≤ (V 130 17) ∧ (V 130 17) < 401) (h2 : (0 : Int) ≤ ((zwr V 141 (V 130 17) x2) 130 17) ∧ ((zwr V 141 (V 130 17) x2) 130 17) < 401) : ev 165 100 [(2, 130), (0, x1), (0, x2), (0, x3), (0, x4), v5] [] T V = (zcall 166 [(0, x3)] T (zwr (zwr V 141 (V 130 17) x2) 140 ((zwr V 141 (V 130 17) x2) 130 17) 0)).bind fun x => ev 165 132 [(2, 130), (0, x1), (0, x2), (0, x3), (0, x4), v5] (z_push x.1 [(0, ((zwr (zwr V 141 (V 130 17) x2) 140 ((zwr V 141 (V 130 17) x2) 130 17) 0) 130 17)), (2, 139)]) x.2.1 x.2.2 := by
  refine Eq.trans (ev_lda (show zcode 165 100 = some (6, 101, 0, 0, []) by decide +kernel) rfl (by decide)) ?_
  refine Eq.trans (ev_gq (show zcode 165 101 = some (56, 104, 12, 16, []) by decide +kernel) (so130 hS) (sp130_16 hS)) ?_
  refine Eq.trans (ev_lda (show zcode 165 104 = some (6, 105, 0, 0, []) by decide +kernel) rfl (by decide)) ?_
  refine Eq.trans (ev_gi (show zcode 165 105 = some (55, 108, 12, 17, []) by decide +kernel) (so130 hS)) ?_
  refine Eq.trans (ev_ldi (show zcode 165 108 = some (4, 109, 2, 0, []) by decide +kernel) rfl) ?_
  refine Eq.trans (ev_is (show zcode 165 109 = some (64, 110, 0, 0, []) by decide +kernel) (sa141 hS) h1) ?_
  refine Eq.trans (ev_lda (show zcode 165 110 = some (6, 111, 0, 0, []) by decide +kernel) rfl (by decide)) ?_
  refine Eq.trans (ev_gq (show zcode 165 111 = some (56, 114, 12, 15, []) by decide +kernel) (so130 hS) (sp130_15 hS)) ?_
  refine Eq.trans (ev_lda (show zcode 165 114 = some (6, 115, 0, 0, []) by decide +kernel) rfl (by decide)) ?_
  refine Eq.trans (ev_gi (show zcode 165 115 = some (55, 118, 12, 17, []) by decide +kernel) (so130 hS)) ?_
  refine Eq.trans (ev_ci (show zcode 165 118 = some (0, 119, 0, 0, []) by decide +kernel) (by decide)) ?_
  refine Eq.trans (ev_is (show zcode 165 119 = some (64, 120, 0, 0, []) by decide +kernel) (sa140 hS) h2) ?_
  refine Eq.trans (ev_lda (show zcode 165 120 = some (6, 121, 0, 0, []) by decide +kernel) rfl (by decide)) ?_
  refine Eq.trans (ev_gq (show zcode 165 121 = some (56, 124, 12, 14, []) by decide +kernel) (so130 hS) (sp130_14 hS)) ?_
  refine Eq.trans (ev_lda (show zcode 165 124 = some (6, 125, 0, 0, []) by decide +kernel) rfl (by decide)) ?_
  refine Eq.trans (ev_gi (show zcode 165 125 = some (55, 128, 12, 17, []) by decide +kernel) (so130 hS)) ?_
  refine Eq.trans (ev_ldi (show zcode 165 128 = some (4, 129, 3, 0, []) by decide +kernel) rfl) ?_
  exact ev_cstat (show zcode 165 129 = some (74, 132, 166, 1, []) by decide +kernel) (args := [(0, x3)]) (rest := [(0, ((zwr (zwr V 141 (V 130 17) x2) 140 ((zwr V 141 (V 130 17) x2) 130 17) 0) 130 17)), (2, 139)]) rfl rfl (show 2 ≤ 8 by decide) ⟨by decide, show 1 ≤ 1 by decide⟩
theorem b165_132 {T : zT} {V : zM} {x1 : Int} {x2 : Int} {x3 : Int} {x4 : Int} {v5 : zV} {y1 : Int} {y2 : Int} : ev 165 132 [(2, 130), (0, x1), (0, x2), (0, x3), (0, x4), v5] [(0, y2), (0, y1), (2, 139)] T V = if y2 = 0 then ev 165 145 [(2, 130), (0, x1), (0, x2), (0, x3), (0, x4), v5] [(0, y1), (2, 139)] T V else ev 165 135 [(2, 130), (0, x1), (0, x2), (0, x3), (0, x4), v5] [(0, y1), (2, 139)] T V := by
  exact ev_eq (show zcode 165 132 = some (40, 135, 145, 0, []) by decide +kernel)
theorem b165_135 {T : zT} {V : zM} {x1 : Int} {x2 : Int} {x3 : Int} {x4 : Int} {v5 : zV} {y1 : Int} (hS : zStr T)  : ev 165 135 [(2, 130), (0, x1), (0, x2), (0, x3), (0, x4), v5] [(0, y1), (2, 139)] T V = (zcall 168 [(2, 130), (0, x2), (0, x4)] T V).bind fun x => ev 165 142 [(2, 130), (0, x1), (0, x2), (0, x3), (0, x4), v5] (z_push x.1 [(0, y1), (2, 139)]) x.2.1 x.2.2 := by
  refine Eq.trans (ev_lda (show zcode 165 135 = some (6, 136, 0, 0, []) by decide +kernel) rfl (by decide)) ?_
  refine Eq.trans (ev_ldi (show zcode 165 136 = some (4, 137, 2, 0, []) by decide +kernel) rfl) ?_
  refine Eq.trans (ev_ldi (show zcode 165 137 = some (4, 139, 4, 0, []) by decide +kernel) rfl) ?_
  exact ev_cvirt (show zcode 165 139 = some (76, 142, 168, 3, [12]) by decide +kernel) (args := [(0, x2), (0, x4)]) (rest := [(0, y1), (2, 139)]) rfl (so130 hS) rfl (show 2 ≤ 8 by decide) ⟨by decide, show 3 ≤ 8 by decide⟩
theorem b165_142 {T : zT} {V : zM} {x1 : Int} {x2 : Int} {x3 : Int} {x4 : Int} {v5 : zV} {y1 : Int} {y2 : Int} : ev 165 142 [(2, 130), (0, x1), (0, x2), (0, x3), (0, x4), v5] [(0, y2), (0, y1), (2, 139)] T V = ev 165 165 [(2, 130), (0, x1), (0, x2), (0, x3), (0, x4), v5] [(0, y2), (0, y1), (2, 139)] T V := by
  exact ev_goto (show zcode 165 142 = some (53, 145, 165, 0, []) by decide +kernel)
theorem b165_145 {T : zT} {V : zM} {x1 : Int} {x2 : Int} {x3 : Int} {x4 : Int} {v5 : zV} {y1 : Int} : ev 165 145 [(2, 130), (0, x1), (0, x2), (0, x3), (0, x4), v5] [(0, y1), (2, 139)] T V = (zcall 167 [(0, x3)] T V).bind fun x => ev 165 149 [(2, 130), (0, x1), (0, x2), (0, x3), (0, x4), v5] (z_push x.1 [(0, y1), (2, 139)]) x.2.1 x.2.2 := by
  refine Eq.trans (ev_ldi (show zcode 165 145 = some (4, 146, 3, 0, []) by decide +kernel) rfl) ?_
  exact ev_cstat (show zcode 165 146 = some (74, 149, 167, 1, []) by decide +kernel) (args := [(0, x3)]) (rest := [(0, y1), (2, 139)]) rfl rfl (show 2 ≤ 8 by decide) ⟨by decide, show 1 ≤ 1 by decide⟩
theorem b165_149 {T : zT} {V : zM} {x1 : Int} {x2 : Int} {x3 : Int} {x4 : Int} {v5 : zV} {y1 : Int} {y2 : Int} : ev 165 149 [(2, 130), (0, x1), (0, x2), (0, x3), (0, x4), v5] [(0, y2), (0, y1), (2, 139)] T V = if y2 = 0 then ev 165 157 [(2, 130), (0, x1), (0, x2), (0, x3), (0, x4), v5] [(0, y1), (2, 139)] T V else ev 165 152 [(2, 130), (0, x1), (0, x2), (0, x3), (0, x4), v5] [(0, y1), (2, 139)] T V := by
  exact ev_eq (show zcode 165 149 = some (40, 152, 157, 0, []) by decide +kernel)
theorem b165_152 {T : zT} {V : zM} {x1 : Int} {x2 : Int} {x3 : Int} {x4 : Int} {v5 : zV} {y1 : Int} : ev 165 152 [(2, 130), (0, x1), (0, x2), (0, x3), (0, x4), v5] [(0, y1), (2, 139)] T V = ev 165 165 [(2, 130), (0, x1), (0, x2), (0, x3), (0, x4), v5] [(0, 90), (0, y1), (2, 139)] T V := by
  refine Eq.trans (ev_ci (show zcode 165 152 = some (0, 154, 0, 90, []) by decide +kernel) (by decide)) ?_
  exact ev_goto (show zcode 165 154 = some (53, 157, 165, 0, []) by decide +kernel)
theorem b165_157 {T : zT} {V : zM} {x1 : Int} {x2 : Int} {x3 : Int} {x4 : Int} {v5 : zV} {y1 : Int} (h1 : -2147483648 ≤ (100 + (zand x3 255)) ∧ (100 + (zand x3 255)) ≤ 2147483647) : ev 165 157 [(2, 130), (0, x1), (0, x2), (0, x3), (0, x4), v5] [(0, y1), (2, 139)] T V = ev 165 165 [(2, 130), (0, x1), (0, x2), (0, x3), (0, x4), v5] [(0, (100 + (zand x3 255))), (0, y1), (2, 139)] T V := by
  refine Eq.trans (ev_ci (show zcode 165 157 = some (0, 159, 0, 100, []) by decide +kernel) (by decide)) ?_
  refine Eq.trans (ev_ldi (show zcode 165 159 = some (4, 160, 3, 0, []) by decide +kernel) rfl) ?_
  refine Eq.trans (ev_ci (show zcode 165 160 = some (0, 163, 0, 255, []) by decide +kernel) (by decide)) ?_
  refine Eq.trans (ev_and (show zcode 165 163 = some (14, 164, 0, 0, []) by decide +kernel)) ?_
  exact ev_add (show zcode 165 164 = some (11, 165, 0, 0, []) by decide +kernel) h1
theorem b165_165 {T : zT} {V : zM} {x1 : Int} {x2 : Int} {x3 : Int} {x4 : Int} {v5 : zV} {y1 : Int} {y2 : Int} (hS : zStr T) (h1 : (0 : Int) ≤ y1 ∧ y1 < 401) : ev 165 165 [(2, 130), (0, x1), (0, x2), (0, x3), (0, x4), v5] [(0, y2), (0, y1), (2, 139)] T V = ev 165 169 [(2, 130), (0, x1), (0, x2), (0, x3), (0, x4), (0, x2)] [] T (zwr V 139 y1 y2) := by
  refine Eq.trans (ev_is (show zcode 165 165 = some (64, 166, 0, 0, []) by decide +kernel) (sa139 hS) h1) ?_
  refine Eq.trans (ev_ldi (show zcode 165 166 = some (4, 167, 2, 0, []) by decide +kernel) rfl) ?_
  exact ev_sti (show zcode 165 167 = some (7, 169, 5, 0, []) by decide +kernel) ⟨show 5 < 6 by decide, Or.inr (show ¬ (0 : Nat) = 1 by decide)⟩
theorem b165_169 {T : zT} {V : zM} {x1 : Int} {x2 : Int} {x3 : Int} {x4 : Int} {x5 : Int} : ev 165 169 [(2, 130), (0, x1), (0, x2), (0, x3), (0, x4), (0, x5)] [] T V = if x4 ≤ x5 then ev 165 247 [(2, 130), (0, x1), (0, x2), (0, x3), (0, x4), (0, x5)] [] T V else ev 165 176 [(2, 130), (0, x1), (0, x2), (0, x3), (0, x4), (0, x5)] [] T V := by
  refine Eq.trans (ev_ldi (show zcode 165 169 = some (4, 171, 5, 0, []) by decide +kernel) rfl) ?_
  refine Eq.trans (ev_ldi (show zcode 165 171 = some (4, 173, 4, 0, []) by decide +kernel) rfl) ?_
  exact ev_cge (show zcode 165 173 = some (49, 176, 247, 0, []) by decide +kernel)
theorem b165_176 {T : zT} {V : zM} {x1 : Int} {x2 : Int} {x3 : Int} {x4 : Int} {x5 : Int} : ev 165 176 [(2, 130), (0, x1), (0, x2), (0, x3), (0, x4), (0, x5)] [] T V = (zcall 167 [(0, x3)] T V).bind fun x => ev 165 180 [(2, 130), (0, x1), (0, x2), (0, x3), (0, x4), (0, x5)] (z_push x.1 []) x.2.1 x.2.2 := by
  refine Eq.trans (ev_ldi (show zcode 165 176 = some (4, 177, 3, 0, []) by decide +kernel) rfl) ?_
  exact ev_cstat (show zcode 165 177 = some (74, 180, 167, 1, []) by decide +kernel) (args := [(0, x3)]) (rest := []) rfl rfl (show 0 ≤ 8 by decide) ⟨by decide, show 1 ≤ 1 by decide⟩
theorem b165_180 {T : zT} {V : zM} {x1 : Int} {x2 : Int} {x3 : Int} {x4 : Int} {x5 : Int} {y0 : Int} : ev 165 180 [(2, 130), (0, x1), (0, x2), (0, x3), (0, x4), (0, x5)] [(0, y0)] T V = if y0 = 0 then ev 165 247 [(2, 130), (0, x1), (0, x2), (0, x3), (0, x4), (0, x5)] [] T V else ev 165 183 [(2, 130), (0, x1), (0, x2), (0, x3), (0, x4), (0, x5)] [] T V := by
  exact ev_eq (show zcode 165 180 = some (40, 183, 247, 0, []) by decide +kernel)
theorem b165_183 {T : zT} {V : zM} {x1 : Int} {x2 : Int} {x3 : Int} {x4 : Int} {x5 : Int} (hS : zStr T) (h1 : (0 : Int) ≤ (V 130 17) ∧ (V 130 17) < 401) : ev 165 183 [(2, 130), (0, x1), (0, x2), (0, x3), (0, x4), (0, x5)] [] T V = if (V 140 (V 130 17)) ≤ 1000000 then ev 165 217 [(2, 130), (0, x1), (0, x2), (0, x3), (0, x4), (0, x5)] [(0, (V 130 17)), (2, 140)] T V else ev 165 205 [(2, 130), (0, x1), (0, x2), (0, x3), (0, x4), (0, x5)] [(0, (V 130 17)), (2, 140)] T V := by
  refine Eq.trans (ev_lda (show zcode 165 183 = some (6, 184, 0, 0, []) by decide +kernel) rfl (by decide)) ?_
  refine Eq.trans (ev_gq (show zcode 165 184 = some (56, 187, 12, 15, []) by decide +kernel) (so130 hS) (sp130_15 hS)) ?_
  refine Eq.trans (ev_lda (show zcode 165 187 = some (6, 188, 0, 0, []) by decide +kernel) rfl (by decide)) ?_
  refine Eq.trans (ev_gi (show zcode 165 188 = some (55, 191, 12, 17, []) by decide +kernel) (so130 hS)) ?_
  refine Eq.trans (ev_lda (show zcode 165 191 = some (6, 192, 0, 0, []) by decide +kernel) rfl (by decide)) ?_
  refine Eq.trans (ev_gq (show zcode 165 192 = some (56, 195, 12, 15, []) by decide +kernel) (so130 hS) (sp130_15 hS)) ?_
  refine Eq.trans (ev_lda (show zcode 165 195 = some (6, 196, 0, 0, []) by decide +kernel) rfl (by decide)) ?_
  refine Eq.trans (ev_gi (show zcode 165 196 = some (55, 199, 12, 17, []) by decide +kernel) (so130 hS)) ?_
  refine Eq.trans (ev_ia (show zcode 165 199 = some (60, 200, 0, 0, []) by decide +kernel) (sa140 hS) h1) ?_
  refine Eq.trans (ev_ci (show zcode 165 200 = some (0, 202, 0, 1000000, []) by decide +kernel) (by decide)) ?_
  exact ev_cle (show zcode 165 202 = some (51, 205, 217, 0, []) by decide +kernel)
theorem b165_205 {T : zT} {V : zM} {x1 : Int} {x2 : Int} {x3 : Int} {x4 : Int} {x5 : Int} {y1 : Int} (hS : zStr T) (h1 : (0 : Int) ≤ (V 130 17) ∧ (V 130 17) < 401) : ev 165 205 [(2, 130), (0, x1), (0, x2), (0, x3), (0, x4), (0, x5)] [(0, y1), (2, 140)] T V = ev 165 240 [(2, 130), (0, x1), (0, x2), (0, x3), (0, x4), (0, x5)] [(0, (V 140 (V 130 17))), (0, y1), (2, 140)] T V := by
  refine Eq.trans (ev_lda (show zcode 165 205 = some (6, 206, 0, 0, []) by decide +kernel) rfl (by decide)) ?_
  refine Eq.trans (ev_gq (show zcode 165 206 = some (56, 209, 12, 15, []) by decide +kernel) (so130 hS) (sp130_15 hS)) ?_
  refine Eq.trans (ev_lda (show zcode 165 209 = some (6, 210, 0, 0, []) by decide +kernel) rfl (by decide)) ?_
  refine Eq.trans (ev_gi (show zcode 165 210 = some (55, 213, 12, 17, []) by decide +kernel) (so130 hS)) ?_
  refine Eq.trans (ev_ia (show zcode 165 213 = some (60, 214, 0, 0, []) by decide +kernel) (sa140 hS) h1) ?_
  exact ev_goto (show zcode 165 214 = some (53, 217, 240, 0, []) by decide +kernel)
theorem b165_217 {T : zT} {V : zM} {x1 : Int} {x2 : Int} {x3 : Int} {x4 : Int} {x5 : Int} {y1 : Int} (hS : zStr T) (h1 : (0 : Int) ≤ (V 130 17) ∧ (V 130 17) < 401) (h2 : -2147483648 ≤ (10 * (V 140 (V 130 17))) ∧ (10 * (V 140 (V 130 17))) ≤ 2147483647) (h3 : (0 : Int) ≤ x5 ∧ x5 < 400) (h4 : -2147483648 ≤ ((10 * (V 140 (V 130 17))) + (V 137 x5)) ∧ ((10 * (V 140 (V 130 17))) + (V 137 x5)) ≤ 2147483647) (h5 : -2147483648 ≤ (((10 * (V 140 (V 130 17))) + (V 137 x5)) - 48) ∧ (((10 * (V 140 (V 130 17))) + (V 137 x5)) - 48) ≤ 2147483647) : ev 165 217 [(2, 130), (0, x1), (0, x2), (0, x3), (0, x4), (0, x5)] [(0, y1), (2, 140)] T V = ev 165 240 [(2, 130), (0, x1), (0, x2), (0, x3), (0, x4), (0, x5)] [(0, (((10 * (V 140 (V 130 17))) + (V 137 x5)) - 48)), (0, y1), (2, 140)] T V := by
  refine Eq.trans (ev_ci (show zcode 165 217 = some (0, 219, 0, 10, []) by decide +kernel) (by decide)) ?_
  refine Eq.trans (ev_lda (show zcode 165 219 = some (6, 220, 0, 0, []) by decide +kernel) rfl (by decide)) ?_
  refine Eq.trans (ev_gq (show zcode 165 220 = some (56, 223, 12, 15, []) by decide +kernel) (so130 hS) (sp130_15 hS)) ?_
  refine Eq.trans (ev_lda (show zcode 165 223 = some (6, 224, 0, 0, []) by decide +kernel) rfl (by decide)) ?_
  refine Eq.trans (ev_gi (show zcode 165 224 = some (55, 227, 12, 17, []) by decide +kernel) (so130 hS)) ?_
  refine Eq.trans (ev_ia (show zcode 165 227 = some (60, 228, 0, 0, []) by decide +kernel) (sa140 hS) h1) ?_
  refine Eq.trans (ev_mul (show zcode 165 228 = some (13, 229, 0, 0, []) by decide +kernel) h2) ?_
  refine Eq.trans (ev_lda (show zcode 165 229 = some (6, 230, 0, 0, []) by decide +kernel) rfl (by decide)) ?_
  refine Eq.trans (ev_gq (show zcode 165 230 = some (56, 233, 12, 10, []) by decide +kernel) (so130 hS) (sp130_10 hS)) ?_
  refine Eq.trans (ev_ldi (show zcode 165 233 = some (4, 235, 5, 0, []) by decide +kernel) rfl) ?_
  refine Eq.trans (ev_ba (show zcode 165 235 = some (62, 236, 0, 0, []) by decide +kernel) (sa137 hS) h3) ?_
  refine Eq.trans (ev_add (show zcode 165 236 = some (11, 237, 0, 0, []) by decide +kernel) h4) ?_
  refine Eq.trans (ev_ci (show zcode 165 237 = some (0, 239, 0, 48, []) by decide +kernel) (by decide)) ?_
  exact ev_sub (show zcode 165 239 = some (12, 240, 0, 0, []) by decide +kernel) h5
theorem b165_240 {T : zT} {V : zM} {x1 : Int} {x2 : Int} {x3 : Int} {x4 : Int} {x5 : Int} {y1 : Int} {y2 : Int} (hS : zStr T) (h1 : (0 : Int) ≤ y1 ∧ y1 < 401) (h2 : -2147483648 ≤ (x5 + 1) ∧ (x5 + 1) ≤ 2147483647) : ev 165 240 [(2, 130), (0, x1), (0, x2), (0, x3), (0, x4), (0, x5)] [(0, y2), (0, y1), (2, 140)] T V = ev 165 169 [(2, 130), (0, x1), (0, x2), (0, x3), (0, x4), (0, (x5 + 1))] [] T (zwr V 140 y1 y2) := by
  refine Eq.trans (ev_is (show zcode 165 240 = some (64, 241, 0, 0, []) by decide +kernel) (sa140 hS) h1) ?_
  refine Eq.trans (ev_inc (show zcode 165 241 = some (10, 244, 5, 1, []) by decide +kernel) rfl h2 (Or.inr (show ¬ (0 : Nat) = 1 by decide))) ?_
  exact ev_goto (show zcode 165 244 = some (53, 247, 169, 0, []) by decide +kernel)
theorem b165_247 {T : zT} {V : zM} {x1 : Int} {x2 : Int} {x3 : Int} {x4 : Int} {x5 : Int} (hS : zStr T) (h1 : -2147483648 ≤ ((V 130 17) + 1) ∧ ((V 130 17) + 1) ≤ 2147483647) : ev 165 247 [(2, 130), (0, x1), (0, x2), (0, x3), (0, x4), (0, x5)] [] T V = ev 165 7 [(2, 130), (0, x1), (0, x4), (0, x3), (0, x4), (0, x5)] [] T (zwr V 130 17 ((V 130 17) + 1)) := by
  refine Eq.trans (ev_lda (show zcode 165 247 = some (6, 248, 0, 0, []) by decide +kernel) rfl (by decide)) ?_
  refine Eq.trans (ev_dup (show zcode 165 248 = some (36, 249, 0, 0, []) by decide +kernel) (by decide)) ?_
  refine Eq.trans (ev_gi (show zcode 165 249 = some (55, 252, 12, 17, []) by decide +kernel) (so130 hS)) ?_
  refine Eq.trans (ev_ci (show zcode 165 252 = some (0, 253, 0, 1, []) by decide +kernel) (by decide)) ?_
  refine Eq.trans (ev_add (show zcode 165 253 = some (11, 254, 0, 0, []) by decide +kernel) h1) ?_
  refine Eq.trans (ev_pi (show zcode 165 254 = some (57, 257, 12, 17, []) by decide +kernel) (so130 hS)) ?_
  refine Eq.trans (ev_ldi (show zcode 165 257 = some (4, 259, 4, 0, []) by decide +kernel) rfl) ?_
  refine Eq.trans (ev_sti (show zcode 165 259 = some (7, 260, 2, 0, []) by decide +kernel) ⟨show 2 < 6 by decide, Or.inr (show ¬ (0 : Nat) = 1 by decide)⟩) ?_
  exact ev_goto (show zcode 165 260 = some (53, 263, 7, 0, []) by decide +kernel)
theorem b165_263 {T : zT} {V : zM} {x1 : Int} {x2 : Int} {v3 : zV} {v4 : zV} {v5 : zV} (hS : zStr T) (h1 : (0 : Int) ≤ (V 130 17) ∧ (V 130 17) < 401) (h2 : (0 : Int) ≤ ((zwr V 141 (V 130 17) x1) 130 17) ∧ ((zwr V 141 (V 130 17) x1) 130 17) < 401) (h3 : (0 : Int) ≤ ((zwr (zwr V 141 (V 130 17) x1) 139 ((zwr V 141 (V 130 17) x1) 130 17) 0) 130 17) ∧ ((zwr (zwr V 141 (V 130 17) x1) 139 ((zwr V 141 (V 130 17) x1) 130 17) 0) 130 17) < 401) : ev 165 263 [(2, 130), (0, x1), (0, x2), v3, v4, v5] [] T V = some ((9, 0), T, (zwr (zwr (zwr V 141 (V 130 17) x1) 139 ((zwr V 141 (V 130 17) x1) 130 17) 0) 140 ((zwr (zwr V 141 (V 130 17) x1) 139 ((zwr V 141 (V 130 17) x1) 130 17) 0) 130 17) 0)) := by
  refine Eq.trans (ev_lda (show zcode 165 263 = some (6, 264, 0, 0, []) by decide +kernel) rfl (by decide)) ?_
  refine Eq.trans (ev_gq (show zcode 165 264 = some (56, 267, 12, 16, []) by decide +kernel) (so130 hS) (sp130_16 hS)) ?_
  refine Eq.trans (ev_lda (show zcode 165 267 = some (6, 268, 0, 0, []) by decide +kernel) rfl (by decide)) ?_
  refine Eq.trans (ev_gi (show zcode 165 268 = some (55, 271, 12, 17, []) by decide +kernel) (so130 hS)) ?_
  refine Eq.trans (ev_ldi (show zcode 165 271 = some (4, 272, 1, 0, []) by decide +kernel) rfl) ?_
  refine Eq.trans (ev_is (show zcode 165 272 = some (64, 273, 0, 0, []) by decide +kernel) (sa141 hS) h1) ?_
  refine Eq.trans (ev_lda (show zcode 165 273 = some (6, 274, 0, 0, []) by decide +kernel) rfl (by decide)) ?_
  refine Eq.trans (ev_gq (show zcode 165 274 = some (56, 277, 12, 14, []) by decide +kernel) (so130 hS) (sp130_14 hS)) ?_
  refine Eq.trans (ev_lda (show zcode 165 277 = some (6, 278, 0, 0, []) by decide +kernel) rfl (by decide)) ?_
  refine Eq.trans (ev_gi (show zcode 165 278 = some (55, 281, 12, 17, []) by decide +kernel) (so130 hS)) ?_
  refine Eq.trans (ev_ci (show zcode 165 281 = some (0, 282, 0, 0, []) by decide +kernel) (by decide)) ?_
  refine Eq.trans (ev_is (show zcode 165 282 = some (64, 283, 0, 0, []) by decide +kernel) (sa139 hS) h2) ?_
  refine Eq.trans (ev_lda (show zcode 165 283 = some (6, 284, 0, 0, []) by decide +kernel) rfl (by decide)) ?_
  refine Eq.trans (ev_gq (show zcode 165 284 = some (56, 287, 12, 15, []) by decide +kernel) (so130 hS) (sp130_15 hS)) ?_
  refine Eq.trans (ev_lda (show zcode 165 287 = some (6, 288, 0, 0, []) by decide +kernel) rfl (by decide)) ?_
  refine Eq.trans (ev_gi (show zcode 165 288 = some (55, 291, 12, 17, []) by decide +kernel) (so130 hS)) ?_
  refine Eq.trans (ev_ci (show zcode 165 291 = some (0, 292, 0, 0, []) by decide +kernel) (by decide)) ?_
  refine Eq.trans (ev_is (show zcode 165 292 = some (64, 293, 0, 0, []) by decide +kernel) (sa140 hS) h3) ?_
  exact ev_rn (show zcode 165 293 = some (73, 294, 0, 0, []) by decide +kernel)
/-! 166: TwoWayWallModel.isSmall(I)Z -/
theorem e166 {T : zT} {V : zM} {x0 : Int} : zcall 166 [(0, x0)] T V = ev 166 0 [(0, x0)] [] T V := rfl
theorem b166_0 {T : zT} {V : zM} {x0 : Int} : ev 166 0 [(0, x0)] [] T V = if x0 < 97 then ev 166 16 [(0, x0)] [] T V else ev 166 6 [(0, x0)] [] T V := by
  refine Eq.trans (ev_ldi (show zcode 166 0 = some (4, 1, 0, 0, []) by decide +kernel) rfl) ?_
  refine Eq.trans (ev_ci (show zcode 166 1 = some (0, 3, 0, 97, []) by decide +kernel) (by decide)) ?_
  exact ev_clt (show zcode 166 3 = some (48, 6, 16, 0, []) by decide +kernel)
theorem b166_6 {T : zT} {V : zM} {x0 : Int} : ev 166 6 [(0, x0)] [] T V = if 122 < x0 then ev 166 16 [(0, x0)] [] T V else ev 166 12 [(0, x0)] [] T V := by
  refine Eq.trans (ev_ldi (show zcode 166 6 = some (4, 7, 0, 0, []) by decide +kernel) rfl) ?_
  refine Eq.trans (ev_ci (show zcode 166 7 = some (0, 9, 0, 122, []) by decide +kernel) (by decide)) ?_
  exact ev_cgt (show zcode 166 9 = some (50, 12, 16, 0, []) by decide +kernel)
theorem b166_12 {T : zT} {V : zM} {x0 : Int} : ev 166 12 [(0, x0)] [] T V = ev 166 17 [(0, x0)] [(0, 1)] T V := by
  refine Eq.trans (ev_ci (show zcode 166 12 = some (0, 13, 0, 1, []) by decide +kernel) (by decide)) ?_
  exact ev_goto (show zcode 166 13 = some (53, 16, 17, 0, []) by decide +kernel)
theorem b166_16 {T : zT} {V : zM} {x0 : Int} : ev 166 16 [(0, x0)] [] T V = ev 166 17 [(0, x0)] [(0, 0)] T V := by
  exact ev_ci (show zcode 166 16 = some (0, 17, 0, 0, []) by decide +kernel) (by decide)
theorem b166_17 {T : zT} {V : zM} {x0 : Int} {y0 : Int} (h1 : (0 : Int) ≤ y0 ∧ y0 ≤ 1) : ev 166 17 [(0, x0)] [(0, y0)] T V = some ((0, y0), T, V) := by
  exact ev_rz (show zcode 166 17 = some (72, 18, 3, 0, []) by decide +kernel) h1
/-! 167: TwoWayWallModel.isDigit(I)Z -/
theorem e167 {T : zT} {V : zM} {x0 : Int} : zcall 167 [(0, x0)] T V = ev 167 0 [(0, x0)] [] T V := rfl
theorem b167_0 {T : zT} {V : zM} {x0 : Int} : ev 167 0 [(0, x0)] [] T V = if x0 < 48 then ev 167 16 [(0, x0)] [] T V else ev 167 6 [(0, x0)] [] T V := by
  refine Eq.trans (ev_ldi (show zcode 167 0 = some (4, 1, 0, 0, []) by decide +kernel) rfl) ?_
  refine Eq.trans (ev_ci (show zcode 167 1 = some (0, 3, 0, 48, []) by decide +kernel) (by decide)) ?_
  exact ev_clt (show zcode 167 3 = some (48, 6, 16, 0, []) by decide +kernel)
theorem b167_6 {T : zT} {V : zM} {x0 : Int} : ev 167 6 [(0, x0)] [] T V = if 57 < x0 then ev 167 16 [(0, x0)] [] T V else ev 167 12 [(0, x0)] [] T V := by
  refine Eq.trans (ev_ldi (show zcode 167 6 = some (4, 7, 0, 0, []) by decide +kernel) rfl) ?_
  refine Eq.trans (ev_ci (show zcode 167 7 = some (0, 9, 0, 57, []) by decide +kernel) (by decide)) ?_
  exact ev_cgt (show zcode 167 9 = some (50, 12, 16, 0, []) by decide +kernel)
theorem b167_12 {T : zT} {V : zM} {x0 : Int} : ev 167 12 [(0, x0)] [] T V = ev 167 17 [(0, x0)] [(0, 1)] T V := by
  refine Eq.trans (ev_ci (show zcode 167 12 = some (0, 13, 0, 1, []) by decide +kernel) (by decide)) ?_
  exact ev_goto (show zcode 167 13 = some (53, 16, 17, 0, []) by decide +kernel)
theorem b167_16 {T : zT} {V : zM} {x0 : Int} : ev 167 16 [(0, x0)] [] T V = ev 167 17 [(0, x0)] [(0, 0)] T V := by
  exact ev_ci (show zcode 167 16 = some (0, 17, 0, 0, []) by decide +kernel) (by decide)
theorem b167_17 {T : zT} {V : zM} {x0 : Int} {y0 : Int} (h1 : (0 : Int) ≤ y0 ∧ y0 ≤ 1) : ev 167 17 [(0, x0)] [(0, y0)] T V = some ((0, y0), T, V) := by
  exact ev_rz (show zcode 167 17 = some (72, 18, 3, 0, []) by decide +kernel) h1
/-! 168: TwoWayWallModel.wordAt(II)I -/
theorem e168 {T : zT} {V : zM} {x1 : Int} {x2 : Int} : zcall 168 [(2, 130), (0, x1), (0, x2)] T V = ev 168 0 [(2, 130), (0, x1), (0, x2), (9, 0), (9, 0), (9, 0), (9, 0), (9, 0)] [] T V := rfl
theorem b168_0 {T : zT} {V : zM} {x1 : Int} {x2 : Int} : ev 168 0 [(2, 130), (0, x1), (0, x2), (9, 0), (9, 0), (9, 0), (9, 0), (9, 0)] [] T V = ev 168 5 [(2, 130), (0, x1), (0, x2), (0, 1), (0, 0), (9, 0), (9, 0), (9, 0)] [] T V := by
  refine Eq.trans (ev_ci (show zcode 168 0 = some (0, 1, 0, 1, []) by decide +kernel) (by decide)) ?_
  refine Eq.trans (ev_sti (show zcode 168 1 = some (7, 2, 3, 0, []) by decide +kernel) ⟨show 3 < 8 by decide, Or.inr (show ¬ (0 : Nat) = 1 by decide)⟩) ?_
  refine Eq.trans (ev_ci (show zcode 168 2 = some (0, 3, 0, 0, []) by decide +kernel) (by decide)) ?_
  exact ev_sti (show zcode 168 3 = some (7, 5, 4, 0, []) by decide +kernel) ⟨show 4 < 8 by decide, Or.inr (show ¬ (0 : Nat) = 1 by decide)⟩
theorem b168_5 {T : zT} {V : zM} {x1 : Int} {x2 : Int} {x3 : Int} {x4 : Int} {v5 : zV} {v6 : zV} {v7 : zV} (hS : zStr T)  : ev 168 5 [(2, 130), (0, x1), (0, x2), (0, x3), (0, x4), v5, v6, v7] [] T V = if 36 ≤ x4 then ev 168 126 [(2, 130), (0, x1), (0, x2), (0, x3), (0, x4), v5, v6, v7] [] T V else ev 168 15 [(2, 130), (0, x1), (0, x2), (0, x3), (0, x4), v5, v6, v7] [] T V := by
  refine Eq.trans (ev_ldi (show zcode 168 5 = some (4, 7, 4, 0, []) by decide +kernel) rfl) ?_
  refine Eq.trans (ev_lda (show zcode 168 7 = some (6, 8, 0, 0, []) by decide +kernel) rfl (by decide)) ?_
  refine Eq.trans (ev_gq (show zcode 168 8 = some (56, 11, 12, 9, []) by decide +kernel) (so130 hS) (sp130_9 hS)) ?_
  refine Eq.trans (ev_len (show zcode 168 11 = some (68, 12, 0, 0, []) by decide +kernel) (sa136 hS) (by decide)) ?_
  exact ev_cge (show zcode 168 12 = some (49, 15, 126, 0, []) by decide +kernel)
theorem b168_15 {T : zT} {V : zM} {x1 : Int} {x2 : Int} {x3 : Int} {x4 : Int} {v5 : zV} {v6 : zV} {v7 : zV} : ev 168 15 [(2, 130), (0, x1), (0, x2), (0, x3), (0, x4), v5, v6, v7] [] T V = ev 168 18 [(2, 130), (0, x1), (0, x2), (0, x3), (0, x4), (0, 0), v6, v7] [] T V := by
  refine Eq.trans (ev_ci (show zcode 168 15 = some (0, 16, 0, 0, []) by decide +kernel) (by decide)) ?_
  exact ev_sti (show zcode 168 16 = some (7, 18, 5, 0, []) by decide +kernel) ⟨show 5 < 8 by decide, Or.inr (show ¬ (0 : Nat) = 1 by decide)⟩
theorem b168_18 {T : zT} {V : zM} {x1 : Int} {x2 : Int} {x3 : Int} {x4 : Int} {x5 : Int} {v6 : zV} {v7 : zV} (hS : zStr T) (h1 : -2147483648 ≤ (x4 + x5) ∧ (x4 + x5) ≤ 2147483647) (h2 : (0 : Int) ≤ (x4 + x5) ∧ (x4 + x5) < 36) : ev 168 18 [(2, 130), (0, x1), (0, x2), (0, x3), (0, x4), (0, x5), v6, v7] [] T V = if (V 136 (x4 + x5)) = 32 then ev 168 39 [(2, 130), (0, x1), (0, x2), (0, x3), (0, x4), (0, x5), v6, v7] [] T V else ev 168 33 [(2, 130), (0, x1), (0, x2), (0, x3), (0, x4), (0, x5), v6, v7] [] T V := by
  refine Eq.trans (ev_lda (show zcode 168 18 = some (6, 19, 0, 0, []) by decide +kernel) rfl (by decide)) ?_
  refine Eq.trans (ev_gq (show zcode 168 19 = some (56, 22, 12, 9, []) by decide +kernel) (so130 hS) (sp130_9 hS)) ?_
  refine Eq.trans (ev_ldi (show zcode 168 22 = some (4, 24, 4, 0, []) by decide +kernel) rfl) ?_
  refine Eq.trans (ev_ldi (show zcode 168 24 = some (4, 26, 5, 0, []) by decide +kernel) rfl) ?_
  refine Eq.trans (ev_add (show zcode 168 26 = some (11, 27, 0, 0, []) by decide +kernel) h1) ?_
  refine Eq.trans (ev_ba (show zcode 168 27 = some (62, 28, 0, 0, []) by decide +kernel) (sa136 hS) h2) ?_
  refine Eq.trans (ev_ci (show zcode 168 28 = some (0, 30, 0, 32, []) by decide +kernel) (by decide)) ?_
  exact ev_ceq (show zcode 168 30 = some (46, 33, 39, 0, []) by decide +kernel)
theorem b168_33 {T : zT} {V : zM} {x1 : Int} {x2 : Int} {x3 : Int} {x4 : Int} {x5 : Int} {v6 : zV} {v7 : zV} (h1 : -2147483648 ≤ (x5 + 1) ∧ (x5 + 1) ≤ 2147483647) : ev 168 33 [(2, 130), (0, x1), (0, x2), (0, x3), (0, x4), (0, x5), v6, v7] [] T V = ev 168 18 [(2, 130), (0, x1), (0, x2), (0, x3), (0, x4), (0, (x5 + 1)), v6, v7] [] T V := by
  refine Eq.trans (ev_inc (show zcode 168 33 = some (10, 36, 5, 1, []) by decide +kernel) rfl h1 (Or.inr (show ¬ (0 : Nat) = 1 by decide))) ?_
  exact ev_goto (show zcode 168 36 = some (53, 39, 18, 0, []) by decide +kernel)
theorem b168_39 {T : zT} {V : zM} {x1 : Int} {x2 : Int} {x3 : Int} {x4 : Int} {x5 : Int} {v6 : zV} {v7 : zV} (h1 : -2147483648 ≤ (x2 - x1) ∧ (x2 - x1) ≤ 2147483647) : ev 168 39 [(2, 130), (0, x1), (0, x2), (0, x3), (0, x4), (0, x5), v6, v7] [] T V = if x5 = (x2 - x1) then ev 168 47 [(2, 130), (0, x1), (0, x2), (0, x3), (0, x4), (0, x5), v6, v7] [] T V else ev 168 51 [(2, 130), (0, x1), (0, x2), (0, x3), (0, x4), (0, x5), v6, v7] [] T V := by
  refine Eq.trans (ev_ldi (show zcode 168 39 = some (4, 41, 5, 0, []) by decide +kernel) rfl) ?_
  refine Eq.trans (ev_ldi (show zcode 168 41 = some (4, 42, 2, 0, []) by decide +kernel) rfl) ?_
  refine Eq.trans (ev_ldi (show zcode 168 42 = some (4, 43, 1, 0, []) by decide +kernel) rfl) ?_
  refine Eq.trans (ev_sub (show zcode 168 43 = some (12, 44, 0, 0, []) by decide +kernel) h1) ?_
  exact ev_cne (show zcode 168 44 = some (47, 47, 51, 0, []) by decide +kernel)
theorem b168_47 {T : zT} {V : zM} {x1 : Int} {x2 : Int} {x3 : Int} {x4 : Int} {x5 : Int} {v6 : zV} {v7 : zV} : ev 168 47 [(2, 130), (0, x1), (0, x2), (0, x3), (0, x4), (0, x5), v6, v7] [] T V = ev 168 52 [(2, 130), (0, x1), (0, x2), (0, x3), (0, x4), (0, x5), v6, v7] [(0, 1)] T V := by
  refine Eq.trans (ev_ci (show zcode 168 47 = some (0, 48, 0, 1, []) by decide +kernel) (by decide)) ?_
  exact ev_goto (show zcode 168 48 = some (53, 51, 52, 0, []) by decide +kernel)
theorem b168_51 {T : zT} {V : zM} {x1 : Int} {x2 : Int} {x3 : Int} {x4 : Int} {x5 : Int} {v6 : zV} {v7 : zV} : ev 168 51 [(2, 130), (0, x1), (0, x2), (0, x3), (0, x4), (0, x5), v6, v7] [] T V = ev 168 52 [(2, 130), (0, x1), (0, x2), (0, x3), (0, x4), (0, x5), v6, v7] [(0, 0)] T V := by
  exact ev_ci (show zcode 168 51 = some (0, 52, 0, 0, []) by decide +kernel) (by decide)
theorem b168_52 {T : zT} {V : zM} {x1 : Int} {x2 : Int} {x3 : Int} {x4 : Int} {x5 : Int} {v6 : zV} {v7 : zV} {y0 : Int} : ev 168 52 [(2, 130), (0, x1), (0, x2), (0, x3), (0, x4), (0, x5), v6, v7] [(0, y0)] T V = ev 168 57 [(2, 130), (0, x1), (0, x2), (0, x3), (0, x4), (0, x5), (0, y0), (0, 0)] [] T V := by
  refine Eq.trans (ev_sti (show zcode 168 52 = some (7, 54, 6, 0, []) by decide +kernel) ⟨show 6 < 8 by decide, Or.inr (show ¬ (0 : Nat) = 1 by decide)⟩) ?_
  refine Eq.trans (ev_ci (show zcode 168 54 = some (0, 55, 0, 0, []) by decide +kernel) (by decide)) ?_
  exact ev_sti (show zcode 168 55 = some (7, 57, 7, 0, []) by decide +kernel) ⟨show 7 < 8 by decide, Or.inr (show ¬ (0 : Nat) = 1 by decide)⟩
theorem b168_57 {T : zT} {V : zM} {x1 : Int} {x2 : Int} {x3 : Int} {x4 : Int} {x5 : Int} {x6 : Int} {x7 : Int} : ev 168 57 [(2, 130), (0, x1), (0, x2), (0, x3), (0, x4), (0, x5), (0, x6), (0, x7)] [] T V = if x5 ≤ x7 then ev 168 104 [(2, 130), (0, x1), (0, x2), (0, x3), (0, x4), (0, x5), (0, x6), (0, x7)] [] T V else ev 168 64 [(2, 130), (0, x1), (0, x2), (0, x3), (0, x4), (0, x5), (0, x6), (0, x7)] [] T V := by
  refine Eq.trans (ev_ldi (show zcode 168 57 = some (4, 59, 7, 0, []) by decide +kernel) rfl) ?_
  refine Eq.trans (ev_ldi (show zcode 168 59 = some (4, 61, 5, 0, []) by decide +kernel) rfl) ?_
  exact ev_cge (show zcode 168 61 = some (49, 64, 104, 0, []) by decide +kernel)
theorem b168_64 {T : zT} {V : zM} {x1 : Int} {x2 : Int} {x3 : Int} {x4 : Int} {x5 : Int} {x6 : Int} {x7 : Int} : ev 168 64 [(2, 130), (0, x1), (0, x2), (0, x3), (0, x4), (0, x5), (0, x6), (0, x7)] [] T V = if x6 = 0 then ev 168 104 [(2, 130), (0, x1), (0, x2), (0, x3), (0, x4), (0, x5), (0, x6), (0, x7)] [] T V else ev 168 69 [(2, 130), (0, x1), (0, x2), (0, x3), (0, x4), (0, x5), (0, x6), (0, x7)] [] T V := by
  refine Eq.trans (ev_ldi (show zcode 168 64 = some (4, 66, 6, 0, []) by decide +kernel) rfl) ?_
  exact ev_eq (show zcode 168 66 = some (40, 69, 104, 0, []) by decide +kernel)
theorem b168_69 {T : zT} {V : zM} {x1 : Int} {x2 : Int} {x3 : Int} {x4 : Int} {x5 : Int} {x6 : Int} {x7 : Int} (hS : zStr T) (h1 : -2147483648 ≤ (x4 + x7) ∧ (x4 + x7) ≤ 2147483647) (h2 : (0 : Int) ≤ (x4 + x7) ∧ (x4 + x7) < 36) (h3 : -2147483648 ≤ (x1 + x7) ∧ (x1 + x7) ≤ 2147483647) (h4 : (0 : Int) ≤ (x1 + x7) ∧ (x1 + x7) < 400) : ev 168 69 [(2, 130), (0, x1), (0, x2), (0, x3), (0, x4), (0, x5), (0, x6), (0, x7)] [] T V = if (V 136 (x4 + x7)) = (V 137 (x1 + x7)) then ev 168 91 [(2, 130), (0, x1), (0, x2), (0, x3), (0, x4), (0, x5), (0, x6), (0, x7)] [] T V else ev 168 95 [(2, 130), (0, x1), (0, x2), (0, x3), (0, x4), (0, x5), (0, x6), (0, x7)] [] T V := by
  refine Eq.trans (ev_lda (show zcode 168 69 = some (6, 70, 0, 0, []) by decide +kernel) rfl (by decide)) ?_
  refine Eq.trans (ev_gq (show zcode 168 70 = some (56, 73, 12, 9, []) by decide +kernel) (so130 hS) (sp130_9 hS)) ?_
  refine Eq.trans (ev_ldi (show zcode 168 73 = some (4, 75, 4, 0, []) by decide +kernel) rfl) ?_
  refine Eq.trans (ev_ldi (show zcode 168 75 = some (4, 77, 7, 0, []) by decide +kernel) rfl) ?_
  refine Eq.trans (ev_add (show zcode 168 77 = some (11, 78, 0, 0, []) by decide +kernel) h1) ?_
  refine Eq.trans (ev_ba (show zcode 168 78 = some (62, 79, 0, 0, []) by decide +kernel) (sa136 hS) h2) ?_
  refine Eq.trans (ev_lda (show zcode 168 79 = some (6, 80, 0, 0, []) by decide +kernel) rfl (by decide)) ?_
  refine Eq.trans (ev_gq (show zcode 168 80 = some (56, 83, 12, 10, []) by decide +kernel) (so130 hS) (sp130_10 hS)) ?_
  refine Eq.trans (ev_ldi (show zcode 168 83 = some (4, 84, 1, 0, []) by decide +kernel) rfl) ?_
  refine Eq.trans (ev_ldi (show zcode 168 84 = some (4, 86, 7, 0, []) by decide +kernel) rfl) ?_
  refine Eq.trans (ev_add (show zcode 168 86 = some (11, 87, 0, 0, []) by decide +kernel) h3) ?_
  refine Eq.trans (ev_ba (show zcode 168 87 = some (62, 88, 0, 0, []) by decide +kernel) (sa137 hS) h4) ?_
  exact ev_cne (show zcode 168 88 = some (47, 91, 95, 0, []) by decide +kernel)
theorem b168_91 {T : zT} {V : zM} {x1 : Int} {x2 : Int} {x3 : Int} {x4 : Int} {x5 : Int} {x6 : Int} {x7 : Int} : ev 168 91 [(2, 130), (0, x1), (0, x2), (0, x3), (0, x4), (0, x5), (0, x6), (0, x7)] [] T V = ev 168 96 [(2, 130), (0, x1), (0, x2), (0, x3), (0, x4), (0, x5), (0, x6), (0, x7)] [(0, 1)] T V := by
  refine Eq.trans (ev_ci (show zcode 168 91 = some (0, 92, 0, 1, []) by decide +kernel) (by decide)) ?_
  exact ev_goto (show zcode 168 92 = some (53, 95, 96, 0, []) by decide +kernel)
theorem b168_95 {T : zT} {V : zM} {x1 : Int} {x2 : Int} {x3 : Int} {x4 : Int} {x5 : Int} {x6 : Int} {x7 : Int} : ev 168 95 [(2, 130), (0, x1), (0, x2), (0, x3), (0, x4), (0, x5), (0, x6), (0, x7)] [] T V = ev 168 96 [(2, 130), (0, x1), (0, x2), (0, x3), (0, x4), (0, x5), (0, x6), (0, x7)] [(0, 0)] T V := by
  exact ev_ci (show zcode 168 95 = some (0, 96, 0, 0, []) by decide +kernel) (by decide)
theorem b168_96 {T : zT} {V : zM} {x1 : Int} {x2 : Int} {x3 : Int} {x4 : Int} {x5 : Int} {x6 : Int} {x7 : Int} {y0 : Int} (h1 : -2147483648 ≤ (x7 + 1) ∧ (x7 + 1) ≤ 2147483647) : ev 168 96 [(2, 130), (0, x1), (0, x2), (0, x3), (0, x4), (0, x5), (0, x6), (0, x7)] [(0, y0)] T V = ev 168 57 [(2, 130), (0, x1), (0, x2), (0, x3), (0, x4), (0, x5), (0, y0), (0, (x7 + 1))] [] T V := by
  refine Eq.trans (ev_sti (show zcode 168 96 = some (7, 98, 6, 0, []) by decide +kernel) ⟨show 6 < 8 by decide, Or.inr (show ¬ (0 : Nat) = 1 by decide)⟩) ?_
  refine Eq.trans (ev_inc (show zcode 168 98 = some (10, 101, 7, 1, []) by decide +kernel) rfl h1 (Or.inr (show ¬ (0 : Nat) = 1 by decide))) ?_
  exact ev_goto (show zcode 168 101 = some (53, 104, 57, 0, []) by decide +kernel)
theorem b168_104 {T : zT} {V : zM} {x1 : Int} {x2 : Int} {x3 : Int} {x4 : Int} {x5 : Int} {x6 : Int} {x7 : Int} : ev 168 104 [(2, 130), (0, x1), (0, x2), (0, x3), (0, x4), (0, x5), (0, x6), (0, x7)] [] T V = if x6 = 0 then ev 168 111 [(2, 130), (0, x1), (0, x2), (0, x3), (0, x4), (0, x5), (0, x6), (0, x7)] [] T V else ev 168 109 [(2, 130), (0, x1), (0, x2), (0, x3), (0, x4), (0, x5), (0, x6), (0, x7)] [] T V := by
  refine Eq.trans (ev_ldi (show zcode 168 104 = some (4, 106, 6, 0, []) by decide +kernel) rfl) ?_
  exact ev_eq (show zcode 168 106 = some (40, 109, 111, 0, []) by decide +kernel)
theorem b168_109 {T : zT} {V : zM} {x1 : Int} {x2 : Int} {x3 : Int} {x4 : Int} {x5 : Int} {x6 : Int} {x7 : Int} : ev 168 109 [(2, 130), (0, x1), (0, x2), (0, x3), (0, x4), (0, x5), (0, x6), (0, x7)] [] T V = some ((0, x3), T, V) := by
  refine Eq.trans (ev_ldi (show zcode 168 109 = some (4, 110, 3, 0, []) by decide +kernel) rfl) ?_
  exact ev_ri (show zcode 168 110 = some (72, 111, 0, 0, []) by decide +kernel)
theorem b168_111 {T : zT} {V : zM} {x1 : Int} {x2 : Int} {x3 : Int} {x4 : Int} {x5 : Int} {x6 : Int} {x7 : Int} (h1 : -2147483648 ≤ (x5 + 1) ∧ (x5 + 1) ≤ 2147483647) (h2 : -2147483648 ≤ (x4 + (x5 + 1)) ∧ (x4 + (x5 + 1)) ≤ 2147483647) (h3 : -2147483648 ≤ (x3 + 1) ∧ (x3 + 1) ≤ 2147483647) : ev 168 111 [(2, 130), (0, x1), (0, x2), (0, x3), (0, x4), (0, x5), (0, x6), (0, x7)] [] T V = ev 168 5 [(2, 130), (0, x1), (0, x2), (0, (x3 + 1)), (0, (x4 + (x5 + 1))), (0, x5), (0, x6), (0, x7)] [] T V := by
  refine Eq.trans (ev_ldi (show zcode 168 111 = some (4, 113, 4, 0, []) by decide +kernel) rfl) ?_
  refine Eq.trans (ev_ldi (show zcode 168 113 = some (4, 115, 5, 0, []) by decide +kernel) rfl) ?_
  refine Eq.trans (ev_ci (show zcode 168 115 = some (0, 116, 0, 1, []) by decide +kernel) (by decide)) ?_
  refine Eq.trans (ev_add (show zcode 168 116 = some (11, 117, 0, 0, []) by decide +kernel) h1) ?_
  refine Eq.trans (ev_add (show zcode 168 117 = some (11, 118, 0, 0, []) by decide +kernel) h2) ?_
  refine Eq.trans (ev_sti (show zcode 168 118 = some (7, 120, 4, 0, []) by decide +kernel) ⟨show 4 < 8 by decide, Or.inr (show ¬ (0 : Nat) = 1 by decide)⟩) ?_
  refine Eq.trans (ev_inc (show zcode 168 120 = some (10, 123, 3, 1, []) by decide +kernel) rfl h3 (Or.inr (show ¬ (0 : Nat) = 1 by decide))) ?_
  exact ev_goto (show zcode 168 123 = some (53, 126, 5, 0, []) by decide +kernel)
theorem b168_126 {T : zT} {V : zM} {x1 : Int} {x2 : Int} {x3 : Int} {x4 : Int} {v5 : zV} {v6 : zV} {v7 : zV} : ev 168 126 [(2, 130), (0, x1), (0, x2), (0, x3), (0, x4), v5, v6, v7] [] T V = some ((0, 0), T, V) := by
  refine Eq.trans (ev_ci (show zcode 168 126 = some (0, 127, 0, 0, []) by decide +kernel) (by decide)) ?_
  exact ev_ri (show zcode 168 127 = some (72, 128, 0, 0, []) by decide +kernel)
/-! 169: TwoWayWallModel.readClause()V -/
theorem e169 {T : zT} {V : zM}  : zcall 169 [(2, 130)] T V = ev 169 0 [(2, 130), (9, 0), (9, 0)] [] T V := rfl
theorem b169_0 {T : zT} {V : zM}  (hS : zStr T)  : ev 169 0 [(2, 130), (9, 0), (9, 0)] [] T V = (zcall 170 [(2, 130), (0, 3)] T V).bind fun x => ev 169 5 [(2, 130), (9, 0), (9, 0)] (z_push x.1 []) x.2.1 x.2.2 := by
  refine Eq.trans (ev_lda (show zcode 169 0 = some (6, 1, 0, 0, []) by decide +kernel) rfl (by decide)) ?_
  refine Eq.trans (ev_ci (show zcode 169 1 = some (0, 2, 0, 3, []) by decide +kernel) (by decide)) ?_
  exact ev_cvirt (show zcode 169 2 = some (76, 5, 170, 2, [12]) by decide +kernel) (args := [(0, 3)]) (rest := []) rfl (so130 hS) rfl (show 0 ≤ 8 by decide) ⟨by decide, show 2 ≤ 3 by decide⟩
theorem b169_5 {T : zT} {V : zM} {y0 : Int} : ev 169 5 [(2, 130), (9, 0), (9, 0)] [(0, y0)] T V = if y0 = 0 then ev 169 15 [(2, 130), (9, 0), (9, 0)] [] T V else ev 169 8 [(2, 130), (9, 0), (9, 0)] [] T V := by
  exact ev_eq (show zcode 169 5 = some (40, 8, 15, 0, []) by decide +kernel)
theorem b169_8 {T : zT} {V : zM}  (hS : zStr T)  : ev 169 8 [(2, 130), (9, 0), (9, 0)] [] T V = (zcall 172 [(2, 130)] T V).bind fun x => ev 169 12 [(2, 130), (9, 0), (9, 0)] (z_push x.1 []) x.2.1 x.2.2 := by
  refine Eq.trans (ev_lda (show zcode 169 8 = some (6, 9, 0, 0, []) by decide +kernel) rfl (by decide)) ?_
  exact ev_cvirt (show zcode 169 9 = some (76, 12, 172, 1, [12]) by decide +kernel) (args := []) (rest := []) rfl (so130 hS) rfl (show 0 ≤ 8 by decide) ⟨by decide, show 1 ≤ 7 by decide⟩
theorem b169_12 {T : zT} {V : zM}  : ev 169 12 [(2, 130), (9, 0), (9, 0)] [] T V = ev 169 212 [(2, 130), (9, 0), (9, 0)] [] T V := by
  exact ev_goto (show zcode 169 12 = some (53, 15, 212, 0, []) by decide +kernel)
theorem b169_15 {T : zT} {V : zM}  (hS : zStr T)  : ev 169 15 [(2, 130), (9, 0), (9, 0)] [] T V = (zcall 170 [(2, 130), (0, 4)] T V).bind fun x => ev 169 20 [(2, 130), (9, 0), (9, 0)] (z_push x.1 []) x.2.1 x.2.2 := by
  refine Eq.trans (ev_lda (show zcode 169 15 = some (6, 16, 0, 0, []) by decide +kernel) rfl (by decide)) ?_
  refine Eq.trans (ev_ci (show zcode 169 16 = some (0, 17, 0, 4, []) by decide +kernel) (by decide)) ?_
  exact ev_cvirt (show zcode 169 17 = some (76, 20, 170, 2, [12]) by decide +kernel) (args := [(0, 4)]) (rest := []) rfl (so130 hS) rfl (show 0 ≤ 8 by decide) ⟨by decide, show 2 ≤ 3 by decide⟩
theorem b169_20 {T : zT} {V : zM} {y0 : Int} : ev 169 20 [(2, 130), (9, 0), (9, 0)] [(0, y0)] T V = if y0 = 0 then ev 169 104 [(2, 130), (9, 0), (9, 0)] [] T V else ev 169 23 [(2, 130), (9, 0), (9, 0)] [] T V := by
  exact ev_eq (show zcode 169 20 = some (40, 23, 104, 0, []) by decide +kernel)
theorem b169_23 {T : zT} {V : zM}  (hS : zStr T)  : ev 169 23 [(2, 130), (9, 0), (9, 0)] [] T V = (zcall 171 [(2, 130)] T V).bind fun x => ev 169 27 [(2, 130), (9, 0), (9, 0)] (z_push x.1 []) x.2.1 x.2.2 := by
  refine Eq.trans (ev_lda (show zcode 169 23 = some (6, 24, 0, 0, []) by decide +kernel) rfl (by decide)) ?_
  exact ev_cvirt (show zcode 169 24 = some (76, 27, 171, 1, [12]) by decide +kernel) (args := []) (rest := []) rfl (so130 hS) rfl (show 0 ≤ 8 by decide) ⟨by decide, show 1 ≤ 1 by decide⟩
theorem b169_27 {T : zT} {V : zM} {y0 : Int} : ev 169 27 [(2, 130), (9, 0), (9, 0)] [(0, y0)] T V = if y0 = 0 then ev 169 53 [(2, 130), (9, 0), (9, 0)] [] T V else ev 169 30 [(2, 130), (9, 0), (9, 0)] [] T V := by
  exact ev_eq (show zcode 169 27 = some (40, 30, 53, 0, []) by decide +kernel)
theorem b169_30 {T : zT} {V : zM}  (hS : zStr T)  : ev 169 30 [(2, 130), (9, 0), (9, 0)] [] T V = if (V 130 17) ≤ (V 130 18) then ev 169 53 [(2, 130), (9, 0), (9, 0)] [] T V else ev 169 41 [(2, 130), (9, 0), (9, 0)] [] T V := by
  refine Eq.trans (ev_lda (show zcode 169 30 = some (6, 31, 0, 0, []) by decide +kernel) rfl (by decide)) ?_
  refine Eq.trans (ev_gi (show zcode 169 31 = some (55, 34, 12, 18, []) by decide +kernel) (so130 hS)) ?_
  refine Eq.trans (ev_lda (show zcode 169 34 = some (6, 35, 0, 0, []) by decide +kernel) rfl (by decide)) ?_
  refine Eq.trans (ev_gi (show zcode 169 35 = some (55, 38, 12, 17, []) by decide +kernel) (so130 hS)) ?_
  exact ev_cge (show zcode 169 38 = some (49, 41, 53, 0, []) by decide +kernel)
theorem b169_41 {T : zT} {V : zM}  (hS : zStr T) (h1 : (0 : Int) ≤ (V 130 18) ∧ (V 130 18) < 401) : ev 169 41 [(2, 130), (9, 0), (9, 0)] [] T V = ev 169 54 [(2, 130), (9, 0), (9, 0)] [(0, (V 141 (V 130 18)))] T V := by
  refine Eq.trans (ev_lda (show zcode 169 41 = some (6, 42, 0, 0, []) by decide +kernel) rfl (by decide)) ?_
  refine Eq.trans (ev_gq (show zcode 169 42 = some (56, 45, 12, 16, []) by decide +kernel) (so130 hS) (sp130_16 hS)) ?_
  refine Eq.trans (ev_lda (show zcode 169 45 = some (6, 46, 0, 0, []) by decide +kernel) rfl (by decide)) ?_
  refine Eq.trans (ev_gi (show zcode 169 46 = some (55, 49, 12, 18, []) by decide +kernel) (so130 hS)) ?_
  refine Eq.trans (ev_ia (show zcode 169 49 = some (60, 50, 0, 0, []) by decide +kernel) (sa141 hS) h1) ?_
  exact ev_goto (show zcode 169 50 = some (53, 53, 54, 0, []) by decide +kernel)
theorem b169_53 {T : zT} {V : zM}  : ev 169 53 [(2, 130), (9, 0), (9, 0)] [] T V = ev 169 54 [(2, 130), (9, 0), (9, 0)] [(0, 0)] T V := by
  exact ev_ci (show zcode 169 53 = some (0, 54, 0, 0, []) by decide +kernel) (by decide)
theorem b169_54 {T : zT} {V : zM} {y0 : Int} (hS : zStr T)  : ev 169 54 [(2, 130), (9, 0), (9, 0)] [(0, y0)] T V = (zcall 177 [(2, 130), (0, 0), (0, 7)] T V).bind fun x => ev 169 62 [(2, 130), (0, y0), (9, 0)] (z_push x.1 []) x.2.1 x.2.2 := by
  refine Eq.trans (ev_sti (show zcode 169 54 = some (7, 55, 1, 0, []) by decide +kernel) ⟨show 1 < 3 by decide, Or.inr (show ¬ (2 : Nat) = 1 by decide)⟩) ?_
  refine Eq.trans (ev_lda (show zcode 169 55 = some (6, 56, 0, 0, []) by decide +kernel) rfl (by decide)) ?_
  refine Eq.trans (ev_ci (show zcode 169 56 = some (0, 57, 0, 0, []) by decide +kernel) (by decide)) ?_
  refine Eq.trans (ev_ci (show zcode 169 57 = some (0, 59, 0, 7, []) by decide +kernel) (by decide)) ?_
  exact ev_cvirt (show zcode 169 59 = some (76, 62, 177, 3, [12]) by decide +kernel) (args := [(0, 0), (0, 7)]) (rest := []) rfl (so130 hS) rfl (show 0 ≤ 8 by decide) ⟨by decide, show 3 ≤ 8 by decide⟩
theorem b169_62 {T : zT} {V : zM} {x1 : Int} {y0 : Int} : ev 169 62 [(2, 130), (0, x1), (9, 0)] [(0, y0)] T V = if y0 = 0 then ev 169 65 [(2, 130), (0, x1), (9, 0)] [] T V else ev 169 66 [(2, 130), (0, x1), (9, 0)] [] T V := by
  exact ev_ne (show zcode 169 62 = some (41, 65, 66, 0, []) by decide +kernel)
theorem b169_65 {T : zT} {V : zM} {x1 : Int} : ev 169 65 [(2, 130), (0, x1), (9, 0)] [] T V = some ((9, 0), T, V) := by
  exact ev_rn (show zcode 169 65 = some (73, 66, 0, 0, []) by decide +kernel)
theorem b169_66 {T : zT} {V : zM} {x1 : Int} : ev 169 66 [(2, 130), (0, x1), (9, 0)] [] T V = ev 169 68 [(2, 130), (0, x1), (0, 0)] [] T V := by
  refine Eq.trans (ev_ci (show zcode 169 66 = some (0, 67, 0, 0, []) by decide +kernel) (by decide)) ?_
  exact ev_sti (show zcode 169 67 = some (7, 68, 2, 0, []) by decide +kernel) ⟨show 2 < 3 by decide, Or.inr (show ¬ (0 : Nat) = 1 by decide)⟩
theorem b169_68 {T : zT} {V : zM} {x1 : Int} {x2 : Int} : ev 169 68 [(2, 130), (0, x1), (0, x2)] [] T V = if 7 ≤ x2 then ev 169 101 [(2, 130), (0, x1), (0, x2)] [] T V else ev 169 74 [(2, 130), (0, x1), (0, x2)] [] T V := by
  refine Eq.trans (ev_ldi (show zcode 169 68 = some (4, 69, 2, 0, []) by decide +kernel) rfl) ?_
  refine Eq.trans (ev_ci (show zcode 169 69 = some (0, 71, 0, 7, []) by decide +kernel) (by decide)) ?_
  exact ev_cge (show zcode 169 71 = some (49, 74, 101, 0, []) by decide +kernel)
theorem b169_74 {T : zT} {V : zM} {x1 : Int} {x2 : Int} (hS : zStr T) (h1 : -2147483648 ≤ (286 + x2) ∧ (286 + x2) ≤ 2147483647) (h2 : -2147483648 ≤ (x1 + x2) ∧ (x1 + x2) ≤ 2147483647) (h3 : (0 : Int) ≤ (x1 + x2) ∧ (x1 + x2) < 400) (h4 : -2147483648 ≤ ((V 137 (x1 + x2)) - 49) ∧ ((V 137 (x1 + x2)) - 49) ≤ 2147483647) (h5 : (0 : Int) ≤ (286 + x2) ∧ (286 + x2) < 300) (h6 : -2147483648 ≤ (x2 + 1) ∧ (x2 + 1) ≤ 2147483647) : ev 169 74 [(2, 130), (0, x1), (0, x2)] [] T V = ev 169 68 [(2, 130), (0, x1), (0, (x2 + 1))] [] T (zwr V 135 (286 + x2) ((V 137 (x1 + x2)) - 49)) := by
  refine Eq.trans (ev_lda (show zcode 169 74 = some (6, 75, 0, 0, []) by decide +kernel) rfl (by decide)) ?_
  refine Eq.trans (ev_gq (show zcode 169 75 = some (56, 78, 12, 7, []) by decide +kernel) (so130 hS) (sp130_7 hS)) ?_
  refine Eq.trans (ev_ci (show zcode 169 78 = some (0, 81, 0, 286, []) by decide +kernel) (by decide)) ?_
  refine Eq.trans (ev_ldi (show zcode 169 81 = some (4, 82, 2, 0, []) by decide +kernel) rfl) ?_
  refine Eq.trans (ev_add (show zcode 169 82 = some (11, 83, 0, 0, []) by decide +kernel) h1) ?_
  refine Eq.trans (ev_lda (show zcode 169 83 = some (6, 84, 0, 0, []) by decide +kernel) rfl (by decide)) ?_
  refine Eq.trans (ev_gq (show zcode 169 84 = some (56, 87, 12, 10, []) by decide +kernel) (so130 hS) (sp130_10 hS)) ?_
  refine Eq.trans (ev_ldi (show zcode 169 87 = some (4, 88, 1, 0, []) by decide +kernel) rfl) ?_
  refine Eq.trans (ev_ldi (show zcode 169 88 = some (4, 89, 2, 0, []) by decide +kernel) rfl) ?_
  refine Eq.trans (ev_add (show zcode 169 89 = some (11, 90, 0, 0, []) by decide +kernel) h2) ?_
  refine Eq.trans (ev_ba (show zcode 169 90 = some (62, 91, 0, 0, []) by decide +kernel) (sa137 hS) h3) ?_
  refine Eq.trans (ev_ci (show zcode 169 91 = some (0, 93, 0, 49, []) by decide +kernel) (by decide)) ?_
  refine Eq.trans (ev_sub (show zcode 169 93 = some (12, 94, 0, 0, []) by decide +kernel) h4) ?_
  refine Eq.trans (ev_is (show zcode 169 94 = some (64, 95, 0, 0, []) by decide +kernel) (sa135 hS) h5) ?_
  refine Eq.trans (ev_inc (show zcode 169 95 = some (10, 98, 2, 1, []) by decide +kernel) rfl h6 (Or.inr (show ¬ (0 : Nat) = 1 by decide))) ?_
  exact ev_goto (show zcode 169 98 = some (53, 101, 68, 0, []) by decide +kernel)
theorem b169_101 {T : zT} {V : zM} {x1 : Int} {x2 : Int} : ev 169 101 [(2, 130), (0, x1), (0, x2)] [] T V = ev 169 212 [(2, 130), (0, x1), (0, x2)] [] T V := by
  exact ev_goto (show zcode 169 101 = some (53, 104, 212, 0, []) by decide +kernel)
theorem b169_104 {T : zT} {V : zM}  (hS : zStr T)  : ev 169 104 [(2, 130), (9, 0), (9, 0)] [] T V = (zcall 170 [(2, 130), (0, 5)] T V).bind fun x => ev 169 109 [(2, 130), (9, 0), (9, 0)] (z_push x.1 []) x.2.1 x.2.2 := by
  refine Eq.trans (ev_lda (show zcode 169 104 = some (6, 105, 0, 0, []) by decide +kernel) rfl (by decide)) ?_
  refine Eq.trans (ev_ci (show zcode 169 105 = some (0, 106, 0, 5, []) by decide +kernel) (by decide)) ?_
  exact ev_cvirt (show zcode 169 106 = some (76, 109, 170, 2, [12]) by decide +kernel) (args := [(0, 5)]) (rest := []) rfl (so130 hS) rfl (show 0 ≤ 8 by decide) ⟨by decide, show 2 ≤ 3 by decide⟩
theorem b169_109 {T : zT} {V : zM} {y0 : Int} : ev 169 109 [(2, 130), (9, 0), (9, 0)] [(0, y0)] T V = if y0 = 0 then ev 169 157 [(2, 130), (9, 0), (9, 0)] [] T V else ev 169 112 [(2, 130), (9, 0), (9, 0)] [] T V := by
  exact ev_eq (show zcode 169 109 = some (40, 112, 157, 0, []) by decide +kernel)
theorem b169_112 {T : zT} {V : zM}  (hS : zStr T)  : ev 169 112 [(2, 130), (9, 0), (9, 0)] [] T V = (zcall 175 [(2, 130), (0, 1), (0, 7)] T V).bind fun x => ev 169 119 [(2, 130), (9, 0), (9, 0)] (z_push x.1 []) x.2.1 x.2.2 := by
  refine Eq.trans (ev_lda (show zcode 169 112 = some (6, 113, 0, 0, []) by decide +kernel) rfl (by decide)) ?_
  refine Eq.trans (ev_ci (show zcode 169 113 = some (0, 114, 0, 1, []) by decide +kernel) (by decide)) ?_
  refine Eq.trans (ev_ci (show zcode 169 114 = some (0, 116, 0, 7, []) by decide +kernel) (by decide)) ?_
  exact ev_cvirt (show zcode 169 116 = some (76, 119, 175, 3, [12]) by decide +kernel) (args := [(0, 1), (0, 7)]) (rest := []) rfl (so130 hS) rfl (show 0 ≤ 8 by decide) ⟨by decide, show 3 ≤ 3 by decide⟩
theorem b169_119 {T : zT} {V : zM} {y0 : Int} : ev 169 119 [(2, 130), (9, 0), (9, 0)] [(0, y0)] T V = if y0 = 0 then ev 169 122 [(2, 130), (9, 0), (9, 0)] [] T V else ev 169 123 [(2, 130), (9, 0), (9, 0)] [] T V := by
  exact ev_ne (show zcode 169 119 = some (41, 122, 123, 0, []) by decide +kernel)
theorem b169_122 {T : zT} {V : zM}  : ev 169 122 [(2, 130), (9, 0), (9, 0)] [] T V = some ((9, 0), T, V) := by
  exact ev_rn (show zcode 169 122 = some (73, 123, 0, 0, []) by decide +kernel)
theorem b169_123 {T : zT} {V : zM}  (hS : zStr T) (h1 : -2147483648 ≤ ((V 130 21) - 1) ∧ ((V 130 21) - 1) ≤ 2147483647) : ev 169 123 [(2, 130), (9, 0), (9, 0)] [] T V = (zcall 175 [(2, 130), (0, 0), (0, 99)] T V).bind fun x => ev 169 137 [(2, 130), (0, ((V 130 21) - 1)), (9, 0)] (z_push x.1 []) x.2.1 x.2.2 := by
  refine Eq.trans (ev_lda (show zcode 169 123 = some (6, 124, 0, 0, []) by decide +kernel) rfl (by decide)) ?_
  refine Eq.trans (ev_gi (show zcode 169 124 = some (55, 127, 12, 21, []) by decide +kernel) (so130 hS)) ?_
  refine Eq.trans (ev_ci (show zcode 169 127 = some (0, 128, 0, 1, []) by decide +kernel) (by decide)) ?_
  refine Eq.trans (ev_sub (show zcode 169 128 = some (12, 129, 0, 0, []) by decide +kernel) h1) ?_
  refine Eq.trans (ev_sti (show zcode 169 129 = some (7, 130, 1, 0, []) by decide +kernel) ⟨show 1 < 3 by decide, Or.inr (show ¬ (2 : Nat) = 1 by decide)⟩) ?_
  refine Eq.trans (ev_lda (show zcode 169 130 = some (6, 131, 0, 0, []) by decide +kernel) rfl (by decide)) ?_
  refine Eq.trans (ev_ci (show zcode 169 131 = some (0, 132, 0, 0, []) by decide +kernel) (by decide)) ?_
  refine Eq.trans (ev_ci (show zcode 169 132 = some (0, 134, 0, 99, []) by decide +kernel) (by decide)) ?_
  exact ev_cvirt (show zcode 169 134 = some (76, 137, 175, 3, [12]) by decide +kernel) (args := [(0, 0), (0, 99)]) (rest := []) rfl (so130 hS) rfl (show 0 ≤ 8 by decide) ⟨by decide, show 3 ≤ 3 by decide⟩
theorem b169_137 {T : zT} {V : zM} {x1 : Int} {y0 : Int} : ev 169 137 [(2, 130), (0, x1), (9, 0)] [(0, y0)] T V = if y0 = 0 then ev 169 154 [(2, 130), (0, x1), (9, 0)] [] T V else ev 169 140 [(2, 130), (0, x1), (9, 0)] [] T V := by
  exact ev_eq (show zcode 169 137 = some (40, 140, 154, 0, []) by decide +kernel)
theorem b169_140 {T : zT} {V : zM} {x1 : Int} (hS : zStr T) (h1 : -2147483648 ≤ (293 + x1) ∧ (293 + x1) ≤ 2147483647) (h2 : (0 : Int) ≤ (293 + x1) ∧ (293 + x1) < 300) : ev 169 140 [(2, 130), (0, x1), (9, 0)] [] T V = ev 169 154 [(2, 130), (0, x1), (9, 0)] [] T (zwr V 135 (293 + x1) (V 130 21)) := by
  refine Eq.trans (ev_lda (show zcode 169 140 = some (6, 141, 0, 0, []) by decide +kernel) rfl (by decide)) ?_
  refine Eq.trans (ev_gq (show zcode 169 141 = some (56, 144, 12, 7, []) by decide +kernel) (so130 hS) (sp130_7 hS)) ?_
  refine Eq.trans (ev_ci (show zcode 169 144 = some (0, 147, 0, 293, []) by decide +kernel) (by decide)) ?_
  refine Eq.trans (ev_ldi (show zcode 169 147 = some (4, 148, 1, 0, []) by decide +kernel) rfl) ?_
  refine Eq.trans (ev_add (show zcode 169 148 = some (11, 149, 0, 0, []) by decide +kernel) h1) ?_
  refine Eq.trans (ev_lda (show zcode 169 149 = some (6, 150, 0, 0, []) by decide +kernel) rfl (by decide)) ?_
  refine Eq.trans (ev_gi (show zcode 169 150 = some (55, 153, 12, 21, []) by decide +kernel) (so130 hS)) ?_
  exact ev_is (show zcode 169 153 = some (64, 154, 0, 0, []) by decide +kernel) (sa135 hS) h2
theorem b169_154 {T : zT} {V : zM} {x1 : Int} : ev 169 154 [(2, 130), (0, x1), (9, 0)] [] T V = ev 169 212 [(2, 130), (0, x1), (9, 0)] [] T V := by
  exact ev_goto (show zcode 169 154 = some (53, 157, 212, 0, []) by decide +kernel)
theorem b169_157 {T : zT} {V : zM}  (hS : zStr T)  : ev 169 157 [(2, 130), (9, 0), (9, 0)] [] T V = (zcall 170 [(2, 130), (0, 6)] T V).bind fun x => ev 169 163 [(2, 130), (9, 0), (9, 0)] (z_push x.1 []) x.2.1 x.2.2 := by
  refine Eq.trans (ev_lda (show zcode 169 157 = some (6, 158, 0, 0, []) by decide +kernel) rfl (by decide)) ?_
  refine Eq.trans (ev_ci (show zcode 169 158 = some (0, 160, 0, 6, []) by decide +kernel) (by decide)) ?_
  exact ev_cvirt (show zcode 169 160 = some (76, 163, 170, 2, [12]) by decide +kernel) (args := [(0, 6)]) (rest := []) rfl (so130 hS) rfl (show 0 ≤ 8 by decide) ⟨by decide, show 2 ≤ 3 by decide⟩
theorem b169_163 {T : zT} {V : zM} {y0 : Int} : ev 169 163 [(2, 130), (9, 0), (9, 0)] [(0, y0)] T V = if y0 = 0 then ev 169 208 [(2, 130), (9, 0), (9, 0)] [] T V else ev 169 166 [(2, 130), (9, 0), (9, 0)] [] T V := by
  exact ev_eq (show zcode 169 163 = some (40, 166, 208, 0, []) by decide +kernel)
theorem b169_166 {T : zT} {V : zM}  (hS : zStr T)  : ev 169 166 [(2, 130), (9, 0), (9, 0)] [] T V = (zcall 173 [(2, 130)] T V).bind fun x => ev 169 170 [(2, 130), (9, 0), (9, 0)] (z_push x.1 []) x.2.1 x.2.2 := by
  refine Eq.trans (ev_lda (show zcode 169 166 = some (6, 167, 0, 0, []) by decide +kernel) rfl (by decide)) ?_
  exact ev_cvirt (show zcode 169 167 = some (76, 170, 173, 1, [12]) by decide +kernel) (args := []) (rest := []) rfl (so130 hS) rfl (show 0 ≤ 8 by decide) ⟨by decide, show 1 ≤ 1 by decide⟩
theorem b169_170 {T : zT} {V : zM} {y0 : Int} : ev 169 170 [(2, 130), (9, 0), (9, 0)] [(0, y0)] T V = if y0 = 0 then ev 169 173 [(2, 130), (9, 0), (9, 0)] [] T V else ev 169 174 [(2, 130), (9, 0), (9, 0)] [] T V := by
  exact ev_ne (show zcode 169 170 = some (41, 173, 174, 0, []) by decide +kernel)
theorem b169_173 {T : zT} {V : zM}  : ev 169 173 [(2, 130), (9, 0), (9, 0)] [] T V = some ((9, 0), T, V) := by
  exact ev_rn (show zcode 169 173 = some (73, 174, 0, 0, []) by decide +kernel)
theorem b169_174 {T : zT} {V : zM}  (hS : zStr T)  : ev 169 174 [(2, 130), (9, 0), (9, 0)] [] T V = (zcall 178 [(2, 130)] T V).bind fun x => ev 169 183 [(2, 130), (0, (V 130 21)), (9, 0)] (z_push x.1 []) x.2.1 x.2.2 := by
  refine Eq.trans (ev_lda (show zcode 169 174 = some (6, 175, 0, 0, []) by decide +kernel) rfl (by decide)) ?_
  refine Eq.trans (ev_gi (show zcode 169 175 = some (55, 178, 12, 21, []) by decide +kernel) (so130 hS)) ?_
  refine Eq.trans (ev_sti (show zcode 169 178 = some (7, 179, 1, 0, []) by decide +kernel) ⟨show 1 < 3 by decide, Or.inr (show ¬ (2 : Nat) = 1 by decide)⟩) ?_
  refine Eq.trans (ev_lda (show zcode 169 179 = some (6, 180, 0, 0, []) by decide +kernel) rfl (by decide)) ?_
  exact ev_cvirt (show zcode 169 180 = some (76, 183, 178, 1, [12]) by decide +kernel) (args := []) (rest := []) rfl (so130 hS) rfl (show 0 ≤ 8 by decide) ⟨by decide, show 1 ≤ 1 by decide⟩
theorem b169_183 {T : zT} {V : zM} {x1 : Int} {y0 : Int} : ev 169 183 [(2, 130), (0, x1), (9, 0)] [(0, y0)] T V = if y0 = 0 then ev 169 205 [(2, 130), (0, x1), (9, 0)] [] T V else ev 169 186 [(2, 130), (0, x1), (9, 0)] [] T V := by
  exact ev_eq (show zcode 169 183 = some (40, 186, 205, 0, []) by decide +kernel)
theorem b169_186 {T : zT} {V : zM} {x1 : Int} (hS : zStr T) (h1 : -2147483648 ≤ (26 * x1) ∧ (26 * x1) ≤ 2147483647) (h2 : -2147483648 ≤ ((26 * x1) + (V 130 21)) ∧ ((26 * x1) + (V 130 21)) ≤ 2147483647) (h3 : -2147483648 ≤ (3 * ((26 * x1) + (V 130 21))) ∧ (3 * ((26 * x1) + (V 130 21))) ≤ 2147483647) (h4 : -2147483648 ≤ (0 + (3 * ((26 * x1) + (V 130 21)))) ∧ (0 + (3 * ((26 * x1) + (V 130 21)))) ≤ 2147483647) (h5 : (0 : Int) ≤ (0 + (3 * ((26 * x1) + (V 130 21)))) ∧ (0 + (3 * ((26 * x1) + (V 130 21)))) < 300) : ev 169 186 [(2, 130), (0, x1), (9, 0)] [] T V = ev 169 205 [(2, 130), (0, x1), (9, 0)] [] T (zwr V 135 (0 + (3 * ((26 * x1) + (V 130 21)))) 0) := by
  refine Eq.trans (ev_lda (show zcode 169 186 = some (6, 187, 0, 0, []) by decide +kernel) rfl (by decide)) ?_
  refine Eq.trans (ev_gq (show zcode 169 187 = some (56, 190, 12, 7, []) by decide +kernel) (so130 hS) (sp130_7 hS)) ?_
  refine Eq.trans (ev_ci (show zcode 169 190 = some (0, 191, 0, 0, []) by decide +kernel) (by decide)) ?_
  refine Eq.trans (ev_ci (show zcode 169 191 = some (0, 192, 0, 3, []) by decide +kernel) (by decide)) ?_
  refine Eq.trans (ev_ci (show zcode 169 192 = some (0, 194, 0, 26, []) by decide +kernel) (by decide)) ?_
  refine Eq.trans (ev_ldi (show zcode 169 194 = some (4, 195, 1, 0, []) by decide +kernel) rfl) ?_
  refine Eq.trans (ev_mul (show zcode 169 195 = some (13, 196, 0, 0, []) by decide +kernel) h1) ?_
  refine Eq.trans (ev_lda (show zcode 169 196 = some (6, 197, 0, 0, []) by decide +kernel) rfl (by decide)) ?_
  refine Eq.trans (ev_gi (show zcode 169 197 = some (55, 200, 12, 21, []) by decide +kernel) (so130 hS)) ?_
  refine Eq.trans (ev_add (show zcode 169 200 = some (11, 201, 0, 0, []) by decide +kernel) h2) ?_
  refine Eq.trans (ev_mul (show zcode 169 201 = some (13, 202, 0, 0, []) by decide +kernel) h3) ?_
  refine Eq.trans (ev_add (show zcode 169 202 = some (11, 203, 0, 0, []) by decide +kernel) h4) ?_
  refine Eq.trans (ev_ci (show zcode 169 203 = some (0, 204, 0, 0, []) by decide +kernel) (by decide)) ?_
  exact ev_is (show zcode 169 204 = some (64, 205, 0, 0, []) by decide +kernel) (sa135 hS) h5
theorem b169_205 {T : zT} {V : zM} {x1 : Int} : ev 169 205 [(2, 130), (0, x1), (9, 0)] [] T V = ev 169 212 [(2, 130), (0, x1), (9, 0)] [] T V := by
  exact ev_goto (show zcode 169 205 = some (53, 208, 212, 0, []) by decide +kernel)
theorem b169_208 {T : zT} {V : zM}  (hS : zStr T)  : ev 169 208 [(2, 130), (9, 0), (9, 0)] [] T V = (zcall 179 [(2, 130)] T V).bind fun x => ev 169 212 [(2, 130), (9, 0), (9, 0)] (z_push x.1 []) x.2.1 x.2.2 := by
  refine Eq.trans (ev_lda (show zcode 169 208 = some (6, 209, 0, 0, []) by decide +kernel) rfl (by decide)) ?_
  exact ev_cvirt (show zcode 169 209 = some (76, 212, 179, 1, [12]) by decide +kernel) (args := []) (rest := []) rfl (so130 hS) rfl (show 0 ≤ 8 by decide) ⟨by decide, show 1 ≤ 5 by decide⟩
theorem b169_212 {T : zT} {V : zM} {v1 : zV} {v2 : zV} : ev 169 212 [(2, 130), v1, v2] [] T V = some ((9, 0), T, V) := by
  exact ev_rn (show zcode 169 212 = some (73, 213, 0, 0, []) by decide +kernel)
/-! 170: TwoWayWallModel.takes0(I)Z -/
theorem e170 {T : zT} {V : zM} {x1 : Int} : zcall 170 [(2, 130), (0, x1)] T V = ev 170 0 [(2, 130), (0, x1), (9, 0)] [] T V := rfl
theorem b170_0 {T : zT} {V : zM} {x1 : Int} (hS : zStr T)  : ev 170 0 [(2, 130), (0, x1), (9, 0)] [] T V = (zcall 171 [(2, 130)] T V).bind fun x => ev 170 4 [(2, 130), (0, x1), (9, 0)] (z_push x.1 []) x.2.1 x.2.2 := by
  refine Eq.trans (ev_lda (show zcode 170 0 = some (6, 1, 0, 0, []) by decide +kernel) rfl (by decide)) ?_
  exact ev_cvirt (show zcode 170 1 = some (76, 4, 171, 1, [12]) by decide +kernel) (args := []) (rest := []) rfl (so130 hS) rfl (show 0 ≤ 8 by decide) ⟨by decide, show 1 ≤ 1 by decide⟩
theorem b170_4 {T : zT} {V : zM} {x1 : Int} {y0 : Int} : ev 170 4 [(2, 130), (0, x1), (9, 0)] [(0, y0)] T V = if y0 = 0 then ev 170 24 [(2, 130), (0, x1), (9, 0)] [] T V else ev 170 7 [(2, 130), (0, x1), (9, 0)] [] T V := by
  exact ev_eq (show zcode 170 4 = some (40, 7, 24, 0, []) by decide +kernel)
theorem b170_7 {T : zT} {V : zM} {x1 : Int} (hS : zStr T) (h1 : (0 : Int) ≤ (V 130 18) ∧ (V 130 18) < 401) : ev 170 7 [(2, 130), (0, x1), (9, 0)] [] T V = if (V 139 (V 130 18)) = x1 then ev 170 20 [(2, 130), (0, x1), (9, 0)] [] T V else ev 170 24 [(2, 130), (0, x1), (9, 0)] [] T V := by
  refine Eq.trans (ev_lda (show zcode 170 7 = some (6, 8, 0, 0, []) by decide +kernel) rfl (by decide)) ?_
  refine Eq.trans (ev_gq (show zcode 170 8 = some (56, 11, 12, 14, []) by decide +kernel) (so130 hS) (sp130_14 hS)) ?_
  refine Eq.trans (ev_lda (show zcode 170 11 = some (6, 12, 0, 0, []) by decide +kernel) rfl (by decide)) ?_
  refine Eq.trans (ev_gi (show zcode 170 12 = some (55, 15, 12, 18, []) by decide +kernel) (so130 hS)) ?_
  refine Eq.trans (ev_ia (show zcode 170 15 = some (60, 16, 0, 0, []) by decide +kernel) (sa139 hS) h1) ?_
  refine Eq.trans (ev_ldi (show zcode 170 16 = some (4, 17, 1, 0, []) by decide +kernel) rfl) ?_
  exact ev_cne (show zcode 170 17 = some (47, 20, 24, 0, []) by decide +kernel)
theorem b170_20 {T : zT} {V : zM} {x1 : Int} : ev 170 20 [(2, 130), (0, x1), (9, 0)] [] T V = ev 170 25 [(2, 130), (0, x1), (9, 0)] [(0, 1)] T V := by
  refine Eq.trans (ev_ci (show zcode 170 20 = some (0, 21, 0, 1, []) by decide +kernel) (by decide)) ?_
  exact ev_goto (show zcode 170 21 = some (53, 24, 25, 0, []) by decide +kernel)
theorem b170_24 {T : zT} {V : zM} {x1 : Int} : ev 170 24 [(2, 130), (0, x1), (9, 0)] [] T V = ev 170 25 [(2, 130), (0, x1), (9, 0)] [(0, 0)] T V := by
  exact ev_ci (show zcode 170 24 = some (0, 25, 0, 0, []) by decide +kernel) (by decide)
theorem b170_25 {T : zT} {V : zM} {x1 : Int} {y0 : Int} : ev 170 25 [(2, 130), (0, x1), (9, 0)] [(0, y0)] T V = if y0 = 0 then ev 170 40 [(2, 130), (0, x1), (0, y0)] [] T V else ev 170 30 [(2, 130), (0, x1), (0, y0)] [] T V := by
  refine Eq.trans (ev_sti (show zcode 170 25 = some (7, 26, 2, 0, []) by decide +kernel) ⟨show 2 < 3 by decide, Or.inr (show ¬ (0 : Nat) = 1 by decide)⟩) ?_
  refine Eq.trans (ev_ldi (show zcode 170 26 = some (4, 27, 2, 0, []) by decide +kernel) rfl) ?_
  exact ev_eq (show zcode 170 27 = some (40, 30, 40, 0, []) by decide +kernel)
theorem b170_30 {T : zT} {V : zM} {x1 : Int} {x2 : Int} (hS : zStr T) (h1 : -2147483648 ≤ ((V 130 18) + 1) ∧ ((V 130 18) + 1) ≤ 2147483647) : ev 170 30 [(2, 130), (0, x1), (0, x2)] [] T V = ev 170 40 [(2, 130), (0, x1), (0, x2)] [] T (zwr V 130 18 ((V 130 18) + 1)) := by
  refine Eq.trans (ev_lda (show zcode 170 30 = some (6, 31, 0, 0, []) by decide +kernel) rfl (by decide)) ?_
  refine Eq.trans (ev_dup (show zcode 170 31 = some (36, 32, 0, 0, []) by decide +kernel) (by decide)) ?_
  refine Eq.trans (ev_gi (show zcode 170 32 = some (55, 35, 12, 18, []) by decide +kernel) (so130 hS)) ?_
  refine Eq.trans (ev_ci (show zcode 170 35 = some (0, 36, 0, 1, []) by decide +kernel) (by decide)) ?_
  refine Eq.trans (ev_add (show zcode 170 36 = some (11, 37, 0, 0, []) by decide +kernel) h1) ?_
  exact ev_pi (show zcode 170 37 = some (57, 40, 12, 18, []) by decide +kernel) (so130 hS)
theorem b170_40 {T : zT} {V : zM} {x1 : Int} {x2 : Int} (h1 : (0 : Int) ≤ x2 ∧ x2 ≤ 1) : ev 170 40 [(2, 130), (0, x1), (0, x2)] [] T V = some ((0, x2), T, V) := by
  refine Eq.trans (ev_ldi (show zcode 170 40 = some (4, 41, 2, 0, []) by decide +kernel) rfl) ?_
  exact ev_rz (show zcode 170 41 = some (72, 42, 3, 0, []) by decide +kernel) h1
/-! 171: TwoWayWallModel.fine()Z -/
theorem e171 {T : zT} {V : zM}  : zcall 171 [(2, 130)] T V = ev 171 0 [(2, 130)] [] T V := rfl
theorem b171_0 {T : zT} {V : zM}  (hS : zStr T)  : ev 171 0 [(2, 130)] [] T V = if (V 130 19) = (-1) then ev 171 8 [(2, 130)] [] T V else ev 171 12 [(2, 130)] [] T V := by
  refine Eq.trans (ev_lda (show zcode 171 0 = some (6, 1, 0, 0, []) by decide +kernel) rfl (by decide)) ?_
  refine Eq.trans (ev_gi (show zcode 171 1 = some (55, 4, 12, 19, []) by decide +kernel) (so130 hS)) ?_
  refine Eq.trans (ev_ci (show zcode 171 4 = some (0, 5, 0, (-1), []) by decide +kernel) (by decide)) ?_
  exact ev_cne (show zcode 171 5 = some (47, 8, 12, 0, []) by decide +kernel)
theorem b171_8 {T : zT} {V : zM}  : ev 171 8 [(2, 130)] [] T V = ev 171 13 [(2, 130)] [(0, 1)] T V := by
  refine Eq.trans (ev_ci (show zcode 171 8 = some (0, 9, 0, 1, []) by decide +kernel) (by decide)) ?_
  exact ev_goto (show zcode 171 9 = some (53, 12, 13, 0, []) by decide +kernel)
theorem b171_12 {T : zT} {V : zM}  : ev 171 12 [(2, 130)] [] T V = ev 171 13 [(2, 130)] [(0, 0)] T V := by
  exact ev_ci (show zcode 171 12 = some (0, 13, 0, 0, []) by decide +kernel) (by decide)
theorem b171_13 {T : zT} {V : zM} {y0 : Int} (h1 : (0 : Int) ≤ y0 ∧ y0 ≤ 1) : ev 171 13 [(2, 130)] [(0, y0)] T V = some ((0, y0), T, V) := by
  exact ev_rz (show zcode 171 13 = some (72, 14, 3, 0, []) by decide +kernel) h1
/-! 172: TwoWayWallModel.readWord()V -/
theorem e172 {T : zT} {V : zM}  : zcall 172 [(2, 130)] T V = ev 172 0 [(2, 130), (9, 0), (9, 0), (9, 0), (9, 0), (9, 0), (9, 0)] [] T V := rfl
theorem b172_0 {T : zT} {V : zM}  (hS : zStr T) (h1 : -2147483648 ≤ ((V 130 18) - 1) ∧ ((V 130 18) - 1) ≤ 2147483647) : ev 172 0 [(2, 130), (9, 0), (9, 0), (9, 0), (9, 0), (9, 0), (9, 0)] [] T V = (zcall 173 [(2, 130)] T V).bind fun x => ev 172 11 [(2, 130), (0, ((V 130 18) - 1)), (9, 0), (9, 0), (9, 0), (9, 0), (9, 0)] (z_push x.1 []) x.2.1 x.2.2 := by
  refine Eq.trans (ev_lda (show zcode 172 0 = some (6, 1, 0, 0, []) by decide +kernel) rfl (by decide)) ?_
  refine Eq.trans (ev_gi (show zcode 172 1 = some (55, 4, 12, 18, []) by decide +kernel) (so130 hS)) ?_
  refine Eq.trans (ev_ci (show zcode 172 4 = some (0, 5, 0, 1, []) by decide +kernel) (by decide)) ?_
  refine Eq.trans (ev_sub (show zcode 172 5 = some (12, 6, 0, 0, []) by decide +kernel) h1) ?_
  refine Eq.trans (ev_sti (show zcode 172 6 = some (7, 7, 1, 0, []) by decide +kernel) ⟨show 1 < 7 by decide, Or.inr (show ¬ (2 : Nat) = 1 by decide)⟩) ?_
  refine Eq.trans (ev_lda (show zcode 172 7 = some (6, 8, 0, 0, []) by decide +kernel) rfl (by decide)) ?_
  exact ev_cvirt (show zcode 172 8 = some (76, 11, 173, 1, [12]) by decide +kernel) (args := []) (rest := []) rfl (so130 hS) rfl (show 0 ≤ 8 by decide) ⟨by decide, show 1 ≤ 1 by decide⟩
theorem b172_11 {T : zT} {V : zM} {x1 : Int} {y0 : Int} : ev 172 11 [(2, 130), (0, x1), (9, 0), (9, 0), (9, 0), (9, 0), (9, 0)] [(0, y0)] T V = if y0 = 0 then ev 172 14 [(2, 130), (0, x1), (9, 0), (9, 0), (9, 0), (9, 0), (9, 0)] [] T V else ev 172 15 [(2, 130), (0, x1), (9, 0), (9, 0), (9, 0), (9, 0), (9, 0)] [] T V := by
  exact ev_ne (show zcode 172 11 = some (41, 14, 15, 0, []) by decide +kernel)
theorem b172_14 {T : zT} {V : zM} {x1 : Int} : ev 172 14 [(2, 130), (0, x1), (9, 0), (9, 0), (9, 0), (9, 0), (9, 0)] [] T V = some ((9, 0), T, V) := by
  exact ev_rn (show zcode 172 14 = some (73, 15, 0, 0, []) by decide +kernel)
theorem b172_15 {T : zT} {V : zM} {x1 : Int} (hS : zStr T) (h1 : -2147483648 ≤ (284 + (V 130 21)) ∧ (284 + (V 130 21)) ≤ 2147483647) (h2 : (0 : Int) ≤ (284 + (V 130 21)) ∧ (284 + (V 130 21)) < 300) : ev 172 15 [(2, 130), (0, x1), (9, 0), (9, 0), (9, 0), (9, 0), (9, 0)] [] T V = if (V 135 (284 + (V 130 21))) = 8 then ev 172 35 [(2, 130), (0, x1), (0, (V 130 21)), (9, 0), (9, 0), (9, 0), (9, 0)] [] T V else ev 172 45 [(2, 130), (0, x1), (0, (V 130 21)), (9, 0), (9, 0), (9, 0), (9, 0)] [] T V := by
  refine Eq.trans (ev_lda (show zcode 172 15 = some (6, 16, 0, 0, []) by decide +kernel) rfl (by decide)) ?_
  refine Eq.trans (ev_gi (show zcode 172 16 = some (55, 19, 12, 21, []) by decide +kernel) (so130 hS)) ?_
  refine Eq.trans (ev_sti (show zcode 172 19 = some (7, 20, 2, 0, []) by decide +kernel) ⟨show 2 < 7 by decide, Or.inr (show ¬ (0 : Nat) = 1 by decide)⟩) ?_
  refine Eq.trans (ev_lda (show zcode 172 20 = some (6, 21, 0, 0, []) by decide +kernel) rfl (by decide)) ?_
  refine Eq.trans (ev_gq (show zcode 172 21 = some (56, 24, 12, 7, []) by decide +kernel) (so130 hS) (sp130_7 hS)) ?_
  refine Eq.trans (ev_ci (show zcode 172 24 = some (0, 27, 0, 284, []) by decide +kernel) (by decide)) ?_
  refine Eq.trans (ev_ldi (show zcode 172 27 = some (4, 28, 2, 0, []) by decide +kernel) rfl) ?_
  refine Eq.trans (ev_add (show zcode 172 28 = some (11, 29, 0, 0, []) by decide +kernel) h1) ?_
  refine Eq.trans (ev_ia (show zcode 172 29 = some (60, 30, 0, 0, []) by decide +kernel) (sa135 hS) h2) ?_
  refine Eq.trans (ev_ci (show zcode 172 30 = some (0, 32, 0, 8, []) by decide +kernel) (by decide)) ?_
  exact ev_cne (show zcode 172 32 = some (47, 35, 45, 0, []) by decide +kernel)
theorem b172_35 {T : zT} {V : zM} {x1 : Int} {x2 : Int} (hS : zStr T)  : ev 172 35 [(2, 130), (0, x1), (0, x2), (9, 0), (9, 0), (9, 0), (9, 0)] [] T V = (zcall 174 [(2, 130)] T (zwr V 130 18 x1)).bind fun x => ev 172 44 [(2, 130), (0, x1), (0, x2), (9, 0), (9, 0), (9, 0), (9, 0)] (z_push x.1 []) x.2.1 x.2.2 := by
  refine Eq.trans (ev_lda (show zcode 172 35 = some (6, 36, 0, 0, []) by decide +kernel) rfl (by decide)) ?_
  refine Eq.trans (ev_ldi (show zcode 172 36 = some (4, 37, 1, 0, []) by decide +kernel) rfl) ?_
  refine Eq.trans (ev_pi (show zcode 172 37 = some (57, 40, 12, 18, []) by decide +kernel) (so130 hS)) ?_
  refine Eq.trans (ev_lda (show zcode 172 40 = some (6, 41, 0, 0, []) by decide +kernel) rfl (by decide)) ?_
  exact ev_cvirt (show zcode 172 41 = some (76, 44, 174, 1, [12]) by decide +kernel) (args := []) (rest := []) rfl (so130 hS) rfl (show 0 ≤ 8 by decide) ⟨by decide, show 1 ≤ 1 by decide⟩
theorem b172_44 {T : zT} {V : zM} {x1 : Int} {x2 : Int} : ev 172 44 [(2, 130), (0, x1), (0, x2), (9, 0), (9, 0), (9, 0), (9, 0)] [] T V = some ((9, 0), T, V) := by
  exact ev_rn (show zcode 172 44 = some (73, 45, 0, 0, []) by decide +kernel)
theorem b172_45 {T : zT} {V : zM} {x1 : Int} {x2 : Int} (hS : zStr T)  : ev 172 45 [(2, 130), (0, x1), (0, x2), (9, 0), (9, 0), (9, 0), (9, 0)] [] T V = (zcall 175 [(2, 130), (0, 0), (0, 7)] T V).bind fun x => ev 172 52 [(2, 130), (0, x1), (0, x2), (9, 0), (9, 0), (9, 0), (9, 0)] (z_push x.1 []) x.2.1 x.2.2 := by
  refine Eq.trans (ev_lda (show zcode 172 45 = some (6, 46, 0, 0, []) by decide +kernel) rfl (by decide)) ?_
  refine Eq.trans (ev_ci (show zcode 172 46 = some (0, 47, 0, 0, []) by decide +kernel) (by decide)) ?_
  refine Eq.trans (ev_ci (show zcode 172 47 = some (0, 49, 0, 7, []) by decide +kernel) (by decide)) ?_
  exact ev_cvirt (show zcode 172 49 = some (76, 52, 175, 3, [12]) by decide +kernel) (args := [(0, 0), (0, 7)]) (rest := []) rfl (so130 hS) rfl (show 0 ≤ 8 by decide) ⟨by decide, show 3 ≤ 3 by decide⟩
theorem b172_52 {T : zT} {V : zM} {x1 : Int} {x2 : Int} {y0 : Int} : ev 172 52 [(2, 130), (0, x1), (0, x2), (9, 0), (9, 0), (9, 0), (9, 0)] [(0, y0)] T V = if y0 = 0 then ev 172 55 [(2, 130), (0, x1), (0, x2), (9, 0), (9, 0), (9, 0), (9, 0)] [] T V else ev 172 56 [(2, 130), (0, x1), (0, x2), (9, 0), (9, 0), (9, 0), (9, 0)] [] T V := by
  exact ev_ne (show zcode 172 52 = some (41, 55, 56, 0, []) by decide +kernel)
theorem b172_55 {T : zT} {V : zM} {x1 : Int} {x2 : Int} : ev 172 55 [(2, 130), (0, x1), (0, x2), (9, 0), (9, 0), (9, 0), (9, 0)] [] T V = some ((9, 0), T, V) := by
  exact ev_rn (show zcode 172 55 = some (73, 56, 0, 0, []) by decide +kernel)
theorem b172_56 {T : zT} {V : zM} {x1 : Int} {x2 : Int} (hS : zStr T)  : ev 172 56 [(2, 130), (0, x1), (0, x2), (9, 0), (9, 0), (9, 0), (9, 0)] [] T V = (zcall 171 [(2, 130)] T V).bind fun x => ev 172 65 [(2, 130), (0, x1), (0, x2), (0, (V 130 21)), (9, 0), (9, 0), (9, 0)] (z_push x.1 []) x.2.1 x.2.2 := by
  refine Eq.trans (ev_lda (show zcode 172 56 = some (6, 57, 0, 0, []) by decide +kernel) rfl (by decide)) ?_
  refine Eq.trans (ev_gi (show zcode 172 57 = some (55, 60, 12, 21, []) by decide +kernel) (so130 hS)) ?_
  refine Eq.trans (ev_sti (show zcode 172 60 = some (7, 61, 3, 0, []) by decide +kernel) ⟨show 3 < 7 by decide, Or.inr (show ¬ (0 : Nat) = 1 by decide)⟩) ?_
  refine Eq.trans (ev_lda (show zcode 172 61 = some (6, 62, 0, 0, []) by decide +kernel) rfl (by decide)) ?_
  exact ev_cvirt (show zcode 172 62 = some (76, 65, 171, 1, [12]) by decide +kernel) (args := []) (rest := []) rfl (so130 hS) rfl (show 0 ≤ 8 by decide) ⟨by decide, show 1 ≤ 1 by decide⟩
theorem b172_65 {T : zT} {V : zM} {x1 : Int} {x2 : Int} {x3 : Int} {y0 : Int} : ev 172 65 [(2, 130), (0, x1), (0, x2), (0, x3), (9, 0), (9, 0), (9, 0)] [(0, y0)] T V = if y0 = 0 then ev 172 86 [(2, 130), (0, x1), (0, x2), (0, x3), (9, 0), (9, 0), (9, 0)] [] T V else ev 172 68 [(2, 130), (0, x1), (0, x2), (0, x3), (9, 0), (9, 0), (9, 0)] [] T V := by
  exact ev_eq (show zcode 172 65 = some (40, 68, 86, 0, []) by decide +kernel)
theorem b172_68 {T : zT} {V : zM} {x1 : Int} {x2 : Int} {x3 : Int} (hS : zStr T)  : ev 172 68 [(2, 130), (0, x1), (0, x2), (0, x3), (9, 0), (9, 0), (9, 0)] [] T V = if (V 130 17) ≤ (V 130 18) then ev 172 86 [(2, 130), (0, x1), (0, x2), (0, x3), (9, 0), (9, 0), (9, 0)] [] T V else ev 172 79 [(2, 130), (0, x1), (0, x2), (0, x3), (9, 0), (9, 0), (9, 0)] [] T V := by
  refine Eq.trans (ev_lda (show zcode 172 68 = some (6, 69, 0, 0, []) by decide +kernel) rfl (by decide)) ?_
  refine Eq.trans (ev_gi (show zcode 172 69 = some (55, 72, 12, 18, []) by decide +kernel) (so130 hS)) ?_
  refine Eq.trans (ev_lda (show zcode 172 72 = some (6, 73, 0, 0, []) by decide +kernel) rfl (by decide)) ?_
  refine Eq.trans (ev_gi (show zcode 172 73 = some (55, 76, 12, 17, []) by decide +kernel) (so130 hS)) ?_
  exact ev_cge (show zcode 172 76 = some (49, 79, 86, 0, []) by decide +kernel)
theorem b172_79 {T : zT} {V : zM} {x1 : Int} {x2 : Int} {x3 : Int} (hS : zStr T)  : ev 172 79 [(2, 130), (0, x1), (0, x2), (0, x3), (9, 0), (9, 0), (9, 0)] [] T V = (zcall 176 [(2, 130)] T V).bind fun x => ev 172 83 [(2, 130), (0, x1), (0, x2), (0, x3), (9, 0), (9, 0), (9, 0)] (z_push x.1 []) x.2.1 x.2.2 := by
  refine Eq.trans (ev_lda (show zcode 172 79 = some (6, 80, 0, 0, []) by decide +kernel) rfl (by decide)) ?_
  exact ev_cvirt (show zcode 172 80 = some (76, 83, 176, 1, [12]) by decide +kernel) (args := []) (rest := []) rfl (so130 hS) rfl (show 0 ≤ 8 by decide) ⟨by decide, show 1 ≤ 3 by decide⟩
theorem b172_83 {T : zT} {V : zM} {x1 : Int} {x2 : Int} {x3 : Int} {y0 : Int} : ev 172 83 [(2, 130), (0, x1), (0, x2), (0, x3), (9, 0), (9, 0), (9, 0)] [(0, y0)] T V = ev 172 87 [(2, 130), (0, x1), (0, x2), (0, x3), (9, 0), (9, 0), (9, 0)] [(0, y0)] T V := by
  exact ev_goto (show zcode 172 83 = some (53, 86, 87, 0, []) by decide +kernel)
theorem b172_86 {T : zT} {V : zM} {x1 : Int} {x2 : Int} {x3 : Int} : ev 172 86 [(2, 130), (0, x1), (0, x2), (0, x3), (9, 0), (9, 0), (9, 0)] [] T V = ev 172 87 [(2, 130), (0, x1), (0, x2), (0, x3), (9, 0), (9, 0), (9, 0)] [(0, 0)] T V := by
  exact ev_ci (show zcode 172 86 = some (0, 87, 0, 0, []) by decide +kernel) (by decide)
theorem b172_87 {T : zT} {V : zM} {x1 : Int} {x2 : Int} {x3 : Int} {y0 : Int} : ev 172 87 [(2, 130), (0, x1), (0, x2), (0, x3), (9, 0), (9, 0), (9, 0)] [(0, y0)] T V = (zcall 150 [(0, y0), (0, 1), (0, 6)] T V).bind fun x => ev 172 97 [(2, 130), (0, x1), (0, x2), (0, x3), (0, y0), (9, 0), (9, 0)] (z_push x.1 []) x.2.1 x.2.2 := by
  refine Eq.trans (ev_sti (show zcode 172 87 = some (7, 89, 4, 0, []) by decide +kernel) ⟨show 4 < 7 by decide, Or.inr (show ¬ (0 : Nat) = 1 by decide)⟩) ?_
  refine Eq.trans (ev_ldi (show zcode 172 89 = some (4, 91, 4, 0, []) by decide +kernel) rfl) ?_
  refine Eq.trans (ev_ci (show zcode 172 91 = some (0, 92, 0, 1, []) by decide +kernel) (by decide)) ?_
  refine Eq.trans (ev_ci (show zcode 172 92 = some (0, 94, 0, 6, []) by decide +kernel) (by decide)) ?_
  exact ev_cstat (show zcode 172 94 = some (74, 97, 150, 3, []) by decide +kernel) (args := [(0, y0), (0, 1), (0, 6)]) (rest := []) rfl rfl (show 0 ≤ 8 by decide) ⟨by decide, show 3 ≤ 3 by decide⟩
theorem b172_97 {T : zT} {V : zM} {x1 : Int} {x2 : Int} {x3 : Int} {x4 : Int} {y0 : Int} : ev 172 97 [(2, 130), (0, x1), (0, x2), (0, x3), (0, x4), (9, 0), (9, 0)] [(0, y0)] T V = if y0 = 0 then ev 172 100 [(2, 130), (0, x1), (0, x2), (0, x3), (0, x4), (9, 0), (9, 0)] [] T V else ev 172 105 [(2, 130), (0, x1), (0, x2), (0, x3), (0, x4), (9, 0), (9, 0)] [] T V := by
  exact ev_ne (show zcode 172 97 = some (41, 100, 105, 0, []) by decide +kernel)
theorem b172_100 {T : zT} {V : zM} {x1 : Int} {x2 : Int} {x3 : Int} {x4 : Int} (hS : zStr T)  : ev 172 100 [(2, 130), (0, x1), (0, x2), (0, x3), (0, x4), (9, 0), (9, 0)] [] T V = (zcall 174 [(2, 130)] T V).bind fun x => ev 172 104 [(2, 130), (0, x1), (0, x2), (0, x3), (0, x4), (9, 0), (9, 0)] (z_push x.1 []) x.2.1 x.2.2 := by
  refine Eq.trans (ev_lda (show zcode 172 100 = some (6, 101, 0, 0, []) by decide +kernel) rfl (by decide)) ?_
  exact ev_cvirt (show zcode 172 101 = some (76, 104, 174, 1, [12]) by decide +kernel) (args := []) (rest := []) rfl (so130 hS) rfl (show 0 ≤ 8 by decide) ⟨by decide, show 1 ≤ 1 by decide⟩
theorem b172_104 {T : zT} {V : zM} {x1 : Int} {x2 : Int} {x3 : Int} {x4 : Int} : ev 172 104 [(2, 130), (0, x1), (0, x2), (0, x3), (0, x4), (9, 0), (9, 0)] [] T V = some ((9, 0), T, V) := by
  exact ev_rn (show zcode 172 104 = some (73, 105, 0, 0, []) by decide +kernel)
theorem b172_105 {T : zT} {V : zM} {x1 : Int} {x2 : Int} {x3 : Int} {x4 : Int} (hS : zStr T) (h1 : -2147483648 ≤ (8 * x2) ∧ (8 * x2) ≤ 2147483647) (h2 : -2147483648 ≤ (284 + x2) ∧ (284 + x2) ≤ 2147483647) (h3 : (0 : Int) ≤ (284 + x2) ∧ (284 + x2) < 300) (h4 : -2147483648 ≤ ((8 * x2) + (V 135 (284 + x2))) ∧ ((8 * x2) + (V 135 (284 + x2))) ≤ 2147483647) (h5 : -2147483648 ≤ (8 * ((8 * x2) + (V 135 (284 + x2)))) ∧ (8 * ((8 * x2) + (V 135 (284 + x2)))) ≤ 2147483647) (h6 : -2147483648 ≤ (156 + (8 * ((8 * x2) + (V 135 (284 + x2))))) ∧ (156 + (8 * ((8 * x2) + (V 135 (284 + x2))))) ≤ 2147483647) (h7 : (0 : Int) ≤ (156 + (8 * ((8 * x2) + (V 135 (284 + x2))))) ∧ (156 + (8 * ((8 * x2) + (V 135 (284 + x2))))) < 300) (h8 : -2147483648 ≤ ((156 + (8 * ((8 * x2) + (V 135 (284 + x2))))) + 1) ∧ ((156 + (8 * ((8 * x2) + (V 135 (284 + x2))))) + 1) ≤ 2147483647) (h9 : (0 : Int) ≤ ((156 + (8 * ((8 * x2) + (V 135 (284 + x2))))) + 1) ∧ ((156 + (8 * ((8 * x2) + (V 135 (284 + x2))))) + 1) < 300) : ev 172 105 [(2, 130), (0, x1), (0, x2), (0, x3), (0, x4), (9, 0), (9, 0)] [] T V = ev 172 151 [(2, 130), (0, x1), (0, x2), (0, x3), (0, x4), (0, (156 + (8 * ((8 * x2) + (V 135 (284 + x2)))))), (0, 0)] [] T (zwr (zwr V 135 (156 + (8 * ((8 * x2) + (V 135 (284 + x2))))) x3) 135 ((156 + (8 * ((8 * x2) + (V 135 (284 + x2))))) + 1) x4) := by
  refine Eq.trans (ev_ci (show zcode 172 105 = some (0, 108, 0, 156, []) by decide +kernel) (by decide)) ?_
  refine Eq.trans (ev_ci (show zcode 172 108 = some (0, 110, 0, 8, []) by decide +kernel) (by decide)) ?_
  refine Eq.trans (ev_ci (show zcode 172 110 = some (0, 112, 0, 8, []) by decide +kernel) (by decide)) ?_
  refine Eq.trans (ev_ldi (show zcode 172 112 = some (4, 113, 2, 0, []) by decide +kernel) rfl) ?_
  refine Eq.trans (ev_mul (show zcode 172 113 = some (13, 114, 0, 0, []) by decide +kernel) h1) ?_
  refine Eq.trans (ev_lda (show zcode 172 114 = some (6, 115, 0, 0, []) by decide +kernel) rfl (by decide)) ?_
  refine Eq.trans (ev_gq (show zcode 172 115 = some (56, 118, 12, 7, []) by decide +kernel) (so130 hS) (sp130_7 hS)) ?_
  refine Eq.trans (ev_ci (show zcode 172 118 = some (0, 121, 0, 284, []) by decide +kernel) (by decide)) ?_
  refine Eq.trans (ev_ldi (show zcode 172 121 = some (4, 122, 2, 0, []) by decide +kernel) rfl) ?_
  refine Eq.trans (ev_add (show zcode 172 122 = some (11, 123, 0, 0, []) by decide +kernel) h2) ?_
  refine Eq.trans (ev_ia (show zcode 172 123 = some (60, 124, 0, 0, []) by decide +kernel) (sa135 hS) h3) ?_
  refine Eq.trans (ev_add (show zcode 172 124 = some (11, 125, 0, 0, []) by decide +kernel) h4) ?_
  refine Eq.trans (ev_mul (show zcode 172 125 = some (13, 126, 0, 0, []) by decide +kernel) h5) ?_
  refine Eq.trans (ev_add (show zcode 172 126 = some (11, 127, 0, 0, []) by decide +kernel) h6) ?_
  refine Eq.trans (ev_sti (show zcode 172 127 = some (7, 129, 5, 0, []) by decide +kernel) ⟨show 5 < 7 by decide, Or.inr (show ¬ (0 : Nat) = 1 by decide)⟩) ?_
  refine Eq.trans (ev_lda (show zcode 172 129 = some (6, 130, 0, 0, []) by decide +kernel) rfl (by decide)) ?_
  refine Eq.trans (ev_gq (show zcode 172 130 = some (56, 133, 12, 7, []) by decide +kernel) (so130 hS) (sp130_7 hS)) ?_
  refine Eq.trans (ev_ldi (show zcode 172 133 = some (4, 135, 5, 0, []) by decide +kernel) rfl) ?_
  refine Eq.trans (ev_ldi (show zcode 172 135 = some (4, 136, 3, 0, []) by decide +kernel) rfl) ?_
  refine Eq.trans (ev_is (show zcode 172 136 = some (64, 137, 0, 0, []) by decide +kernel) (sa135 hS) h7) ?_
  refine Eq.trans (ev_lda (show zcode 172 137 = some (6, 138, 0, 0, []) by decide +kernel) rfl (by decide)) ?_
  refine Eq.trans (ev_gq (show zcode 172 138 = some (56, 141, 12, 7, []) by decide +kernel) (so130 hS) (sp130_7 hS)) ?_
  refine Eq.trans (ev_ldi (show zcode 172 141 = some (4, 143, 5, 0, []) by decide +kernel) rfl) ?_
  refine Eq.trans (ev_ci (show zcode 172 143 = some (0, 144, 0, 1, []) by decide +kernel) (by decide)) ?_
  refine Eq.trans (ev_add (show zcode 172 144 = some (11, 145, 0, 0, []) by decide +kernel) h8) ?_
  refine Eq.trans (ev_ldi (show zcode 172 145 = some (4, 147, 4, 0, []) by decide +kernel) rfl) ?_
  refine Eq.trans (ev_is (show zcode 172 147 = some (64, 148, 0, 0, []) by decide +kernel) (sa135 hS) h9) ?_
  refine Eq.trans (ev_ci (show zcode 172 148 = some (0, 149, 0, 0, []) by decide +kernel) (by decide)) ?_
  exact ev_sti (show zcode 172 149 = some (7, 151, 6, 0, []) by decide +kernel) ⟨show 6 < 7 by decide, Or.inr (show ¬ (0 : Nat) = 1 by decide)⟩
theorem b172_151 {T : zT} {V : zM} {x1 : Int} {x2 : Int} {x3 : Int} {x4 : Int} {x5 : Int} {x6 : Int} : ev 172 151 [(2, 130), (0, x1), (0, x2), (0, x3), (0, x4), (0, x5), (0, x6)] [] T V = if x4 ≤ x6 then ev 172 196 [(2, 130), (0, x1), (0, x2), (0, x3), (0, x4), (0, x5), (0, x6)] [] T V else ev 172 158 [(2, 130), (0, x1), (0, x2), (0, x3), (0, x4), (0, x5), (0, x6)] [] T V := by
  refine Eq.trans (ev_ldi (show zcode 172 151 = some (4, 153, 6, 0, []) by decide +kernel) rfl) ?_
  refine Eq.trans (ev_ldi (show zcode 172 153 = some (4, 155, 4, 0, []) by decide +kernel) rfl) ?_
  exact ev_cge (show zcode 172 155 = some (49, 158, 196, 0, []) by decide +kernel)
theorem b172_158 {T : zT} {V : zM} {x1 : Int} {x2 : Int} {x3 : Int} {x4 : Int} {x5 : Int} {x6 : Int} (hS : zStr T) (h1 : -2147483648 ≤ (x5 + 2) ∧ (x5 + 2) ≤ 2147483647) (h2 : -2147483648 ≤ ((x5 + 2) + x6) ∧ ((x5 + 2) + x6) ≤ 2147483647) (h3 : (0 : Int) ≤ (V 130 18) ∧ (V 130 18) < 401) (h4 : -2147483648 ≤ ((V 141 (V 130 18)) + x6) ∧ ((V 141 (V 130 18)) + x6) ≤ 2147483647) (h5 : (0 : Int) ≤ ((V 141 (V 130 18)) + x6) ∧ ((V 141 (V 130 18)) + x6) < 400) (h6 : -2147483648 ≤ ((V 137 ((V 141 (V 130 18)) + x6)) - 97) ∧ ((V 137 ((V 141 (V 130 18)) + x6)) - 97) ≤ 2147483647) (h7 : (0 : Int) ≤ ((x5 + 2) + x6) ∧ ((x5 + 2) + x6) < 300) (h8 : -2147483648 ≤ (x6 + 1) ∧ (x6 + 1) ≤ 2147483647) : ev 172 158 [(2, 130), (0, x1), (0, x2), (0, x3), (0, x4), (0, x5), (0, x6)] [] T V = ev 172 151 [(2, 130), (0, x1), (0, x2), (0, x3), (0, x4), (0, x5), (0, (x6 + 1))] [] T (zwr V 135 ((x5 + 2) + x6) ((V 137 ((V 141 (V 130 18)) + x6)) - 97)) := by
  refine Eq.trans (ev_lda (show zcode 172 158 = some (6, 159, 0, 0, []) by decide +kernel) rfl (by decide)) ?_
  refine Eq.trans (ev_gq (show zcode 172 159 = some (56, 162, 12, 7, []) by decide +kernel) (so130 hS) (sp130_7 hS)) ?_
  refine Eq.trans (ev_ldi (show zcode 172 162 = some (4, 164, 5, 0, []) by decide +kernel) rfl) ?_
  refine Eq.trans (ev_ci (show zcode 172 164 = some (0, 165, 0, 2, []) by decide +kernel) (by decide)) ?_
  refine Eq.trans (ev_add (show zcode 172 165 = some (11, 166, 0, 0, []) by decide +kernel) h1) ?_
  refine Eq.trans (ev_ldi (show zcode 172 166 = some (4, 168, 6, 0, []) by decide +kernel) rfl) ?_
  refine Eq.trans (ev_add (show zcode 172 168 = some (11, 169, 0, 0, []) by decide +kernel) h2) ?_
  refine Eq.trans (ev_lda (show zcode 172 169 = some (6, 170, 0, 0, []) by decide +kernel) rfl (by decide)) ?_
  refine Eq.trans (ev_gq (show zcode 172 170 = some (56, 173, 12, 10, []) by decide +kernel) (so130 hS) (sp130_10 hS)) ?_
  refine Eq.trans (ev_lda (show zcode 172 173 = some (6, 174, 0, 0, []) by decide +kernel) rfl (by decide)) ?_
  refine Eq.trans (ev_gq (show zcode 172 174 = some (56, 177, 12, 16, []) by decide +kernel) (so130 hS) (sp130_16 hS)) ?_
  refine Eq.trans (ev_lda (show zcode 172 177 = some (6, 178, 0, 0, []) by decide +kernel) rfl (by decide)) ?_
  refine Eq.trans (ev_gi (show zcode 172 178 = some (55, 181, 12, 18, []) by decide +kernel) (so130 hS)) ?_
  refine Eq.trans (ev_ia (show zcode 172 181 = some (60, 182, 0, 0, []) by decide +kernel) (sa141 hS) h3) ?_
  refine Eq.trans (ev_ldi (show zcode 172 182 = some (4, 184, 6, 0, []) by decide +kernel) rfl) ?_
  refine Eq.trans (ev_add (show zcode 172 184 = some (11, 185, 0, 0, []) by decide +kernel) h4) ?_
  refine Eq.trans (ev_ba (show zcode 172 185 = some (62, 186, 0, 0, []) by decide +kernel) (sa137 hS) h5) ?_
  refine Eq.trans (ev_ci (show zcode 172 186 = some (0, 188, 0, 97, []) by decide +kernel) (by decide)) ?_
  refine Eq.trans (ev_sub (show zcode 172 188 = some (12, 189, 0, 0, []) by decide +kernel) h6) ?_
  refine Eq.trans (ev_is (show zcode 172 189 = some (64, 190, 0, 0, []) by decide +kernel) (sa135 hS) h7) ?_
  refine Eq.trans (ev_inc (show zcode 172 190 = some (10, 193, 6, 1, []) by decide +kernel) rfl h8 (Or.inr (show ¬ (0 : Nat) = 1 by decide))) ?_
  exact ev_goto (show zcode 172 193 = some (53, 196, 151, 0, []) by decide +kernel)
theorem b172_196 {T : zT} {V : zM} {x1 : Int} {x2 : Int} {x3 : Int} {x4 : Int} {x5 : Int} {x6 : Int} (hS : zStr T) (h1 : -2147483648 ≤ (284 + x2) ∧ (284 + x2) ≤ 2147483647) (h2 : (0 : Int) ≤ (284 + x2) ∧ (284 + x2) < 300) (h3 : -2147483648 ≤ ((V 135 (284 + x2)) + 1) ∧ ((V 135 (284 + x2)) + 1) ≤ 2147483647) (h4 : -2147483648 ≤ (((zwr V 135 (284 + x2) ((V 135 (284 + x2)) + 1)) 130 18) + 1) ∧ (((zwr V 135 (284 + x2) ((V 135 (284 + x2)) + 1)) 130 18) + 1) ≤ 2147483647) : ev 172 196 [(2, 130), (0, x1), (0, x2), (0, x3), (0, x4), (0, x5), (0, x6)] [] T V = some ((9, 0), T, (zwr (zwr V 135 (284 + x2) ((V 135 (284 + x2)) + 1)) 130 18 (((zwr V 135 (284 + x2) ((V 135 (284 + x2)) + 1)) 130 18) + 1))) := by
  refine Eq.trans (ev_lda (show zcode 172 196 = some (6, 197, 0, 0, []) by decide +kernel) rfl (by decide)) ?_
  refine Eq.trans (ev_gq (show zcode 172 197 = some (56, 200, 12, 7, []) by decide +kernel) (so130 hS) (sp130_7 hS)) ?_
  refine Eq.trans (ev_ci (show zcode 172 200 = some (0, 203, 0, 284, []) by decide +kernel) (by decide)) ?_
  refine Eq.trans (ev_ldi (show zcode 172 203 = some (4, 204, 2, 0, []) by decide +kernel) rfl) ?_
  refine Eq.trans (ev_add (show zcode 172 204 = some (11, 205, 0, 0, []) by decide +kernel) h1) ?_
  refine Eq.trans (ev_dup2 (show zcode 172 205 = some (38, 206, 0, 0, []) by decide +kernel) (by decide)) ?_
  refine Eq.trans (ev_ia (show zcode 172 206 = some (60, 207, 0, 0, []) by decide +kernel) (sa135 hS) h2) ?_
  refine Eq.trans (ev_ci (show zcode 172 207 = some (0, 208, 0, 1, []) by decide +kernel) (by decide)) ?_
  refine Eq.trans (ev_add (show zcode 172 208 = some (11, 209, 0, 0, []) by decide +kernel) h3) ?_
  refine Eq.trans (ev_is (show zcode 172 209 = some (64, 210, 0, 0, []) by decide +kernel) (sa135 hS) h2) ?_
  refine Eq.trans (ev_lda (show zcode 172 210 = some (6, 211, 0, 0, []) by decide +kernel) rfl (by decide)) ?_
  refine Eq.trans (ev_dup (show zcode 172 211 = some (36, 212, 0, 0, []) by decide +kernel) (by decide)) ?_
  refine Eq.trans (ev_gi (show zcode 172 212 = some (55, 215, 12, 18, []) by decide +kernel) (so130 hS)) ?_
  refine Eq.trans (ev_ci (show zcode 172 215 = some (0, 216, 0, 1, []) by decide +kernel) (by decide)) ?_
  refine Eq.trans (ev_add (show zcode 172 216 = some (11, 217, 0, 0, []) by decide +kernel) h4) ?_
  refine Eq.trans (ev_pi (show zcode 172 217 = some (57, 220, 12, 18, []) by decide +kernel) (so130 hS)) ?_
  exact ev_rn (show zcode 172 220 = some (73, 221, 0, 0, []) by decide +kernel)
/-! 173: TwoWayWallModel.tongue()Z -/
theorem e173 {T : zT} {V : zM}  : zcall 173 [(2, 130)] T V = ev 173 0 [(2, 130)] [] T V := rfl
theorem b173_0 {T : zT} {V : zM}  (hS : zStr T)  : ev 173 0 [(2, 130)] [] T V = (zcall 171 [(2, 130)] T V).bind fun x => ev 173 4 [(2, 130)] (z_push x.1 []) x.2.1 x.2.2 := by
  refine Eq.trans (ev_lda (show zcode 173 0 = some (6, 1, 0, 0, []) by decide +kernel) rfl (by decide)) ?_
  exact ev_cvirt (show zcode 173 1 = some (76, 4, 171, 1, [12]) by decide +kernel) (args := []) (rest := []) rfl (so130 hS) rfl (show 0 ≤ 8 by decide) ⟨by decide, show 1 ≤ 1 by decide⟩
theorem b173_4 {T : zT} {V : zM} {y0 : Int} : ev 173 4 [(2, 130)] [(0, y0)] T V = if y0 = 0 then ev 173 60 [(2, 130)] [] T V else ev 173 7 [(2, 130)] [] T V := by
  exact ev_eq (show zcode 173 4 = some (40, 7, 60, 0, []) by decide +kernel)
theorem b173_7 {T : zT} {V : zM}  (hS : zStr T) (h1 : (0 : Int) ≤ (V 130 18) ∧ (V 130 18) < 401) : ev 173 7 [(2, 130)] [] T V = if (V 139 (V 130 18)) = 1 then ev 173 33 [(2, 130)] [] T V else ev 173 20 [(2, 130)] [] T V := by
  refine Eq.trans (ev_lda (show zcode 173 7 = some (6, 8, 0, 0, []) by decide +kernel) rfl (by decide)) ?_
  refine Eq.trans (ev_gq (show zcode 173 8 = some (56, 11, 12, 14, []) by decide +kernel) (so130 hS) (sp130_14 hS)) ?_
  refine Eq.trans (ev_lda (show zcode 173 11 = some (6, 12, 0, 0, []) by decide +kernel) rfl (by decide)) ?_
  refine Eq.trans (ev_gi (show zcode 173 12 = some (55, 15, 12, 18, []) by decide +kernel) (so130 hS)) ?_
  refine Eq.trans (ev_ia (show zcode 173 15 = some (60, 16, 0, 0, []) by decide +kernel) (sa139 hS) h1) ?_
  refine Eq.trans (ev_ci (show zcode 173 16 = some (0, 17, 0, 1, []) by decide +kernel) (by decide)) ?_
  exact ev_ceq (show zcode 173 17 = some (46, 20, 33, 0, []) by decide +kernel)
theorem b173_20 {T : zT} {V : zM}  (hS : zStr T) (h1 : (0 : Int) ≤ (V 130 18) ∧ (V 130 18) < 401) : ev 173 20 [(2, 130)] [] T V = if (V 139 (V 130 18)) = 2 then ev 173 33 [(2, 130)] [] T V else ev 173 60 [(2, 130)] [] T V := by
  refine Eq.trans (ev_lda (show zcode 173 20 = some (6, 21, 0, 0, []) by decide +kernel) rfl (by decide)) ?_
  refine Eq.trans (ev_gq (show zcode 173 21 = some (56, 24, 12, 14, []) by decide +kernel) (so130 hS) (sp130_14 hS)) ?_
  refine Eq.trans (ev_lda (show zcode 173 24 = some (6, 25, 0, 0, []) by decide +kernel) rfl (by decide)) ?_
  refine Eq.trans (ev_gi (show zcode 173 25 = some (55, 28, 12, 18, []) by decide +kernel) (so130 hS)) ?_
  refine Eq.trans (ev_ia (show zcode 173 28 = some (60, 29, 0, 0, []) by decide +kernel) (sa139 hS) h1) ?_
  refine Eq.trans (ev_ci (show zcode 173 29 = some (0, 30, 0, 2, []) by decide +kernel) (by decide)) ?_
  exact ev_cne (show zcode 173 30 = some (47, 33, 60, 0, []) by decide +kernel)
theorem b173_33 {T : zT} {V : zM}  (hS : zStr T) (h1 : (0 : Int) ≤ (V 130 18) ∧ (V 130 18) < 401) (h2 : -2147483648 ≤ ((V 139 (V 130 18)) - 1) ∧ ((V 139 (V 130 18)) - 1) ≤ 2147483647) (h3 : -2147483648 ≤ (((zwr V 130 21 ((V 139 (V 130 18)) - 1)) 130 18) + 1) ∧ (((zwr V 130 21 ((V 139 (V 130 18)) - 1)) 130 18) + 1) ≤ 2147483647) : ev 173 33 [(2, 130)] [] T V = some ((0, 1), T, (zwr (zwr V 130 21 ((V 139 (V 130 18)) - 1)) 130 18 (((zwr V 130 21 ((V 139 (V 130 18)) - 1)) 130 18) + 1))) := by
  refine Eq.trans (ev_lda (show zcode 173 33 = some (6, 34, 0, 0, []) by decide +kernel) rfl (by decide)) ?_
  refine Eq.trans (ev_lda (show zcode 173 34 = some (6, 35, 0, 0, []) by decide +kernel) rfl (by decide)) ?_
  refine Eq.trans (ev_gq (show zcode 173 35 = some (56, 38, 12, 14, []) by decide +kernel) (so130 hS) (sp130_14 hS)) ?_
  refine Eq.trans (ev_lda (show zcode 173 38 = some (6, 39, 0, 0, []) by decide +kernel) rfl (by decide)) ?_
  refine Eq.trans (ev_gi (show zcode 173 39 = some (55, 42, 12, 18, []) by decide +kernel) (so130 hS)) ?_
  refine Eq.trans (ev_ia (show zcode 173 42 = some (60, 43, 0, 0, []) by decide +kernel) (sa139 hS) h1) ?_
  refine Eq.trans (ev_ci (show zcode 173 43 = some (0, 44, 0, 1, []) by decide +kernel) (by decide)) ?_
  refine Eq.trans (ev_sub (show zcode 173 44 = some (12, 45, 0, 0, []) by decide +kernel) h2) ?_
  refine Eq.trans (ev_pi (show zcode 173 45 = some (57, 48, 12, 21, []) by decide +kernel) (so130 hS)) ?_
  refine Eq.trans (ev_lda (show zcode 173 48 = some (6, 49, 0, 0, []) by decide +kernel) rfl (by decide)) ?_
  refine Eq.trans (ev_dup (show zcode 173 49 = some (36, 50, 0, 0, []) by decide +kernel) (by decide)) ?_
  refine Eq.trans (ev_gi (show zcode 173 50 = some (55, 53, 12, 18, []) by decide +kernel) (so130 hS)) ?_
  refine Eq.trans (ev_ci (show zcode 173 53 = some (0, 54, 0, 1, []) by decide +kernel) (by decide)) ?_
  refine Eq.trans (ev_add (show zcode 173 54 = some (11, 55, 0, 0, []) by decide +kernel) h3) ?_
  refine Eq.trans (ev_pi (show zcode 173 55 = some (57, 58, 12, 18, []) by decide +kernel) (so130 hS)) ?_
  refine Eq.trans (ev_ci (show zcode 173 58 = some (0, 59, 0, 1, []) by decide +kernel) (by decide)) ?_
  exact ev_rz (show zcode 173 59 = some (72, 60, 3, 0, []) by decide +kernel) (by decide)
theorem b173_60 {T : zT} {V : zM}  (hS : zStr T)  : ev 173 60 [(2, 130)] [] T V = (zcall 174 [(2, 130)] T V).bind fun x => ev 173 64 [(2, 130)] (z_push x.1 []) x.2.1 x.2.2 := by
  refine Eq.trans (ev_lda (show zcode 173 60 = some (6, 61, 0, 0, []) by decide +kernel) rfl (by decide)) ?_
  exact ev_cvirt (show zcode 173 61 = some (76, 64, 174, 1, [12]) by decide +kernel) (args := []) (rest := []) rfl (so130 hS) rfl (show 0 ≤ 8 by decide) ⟨by decide, show 1 ≤ 1 by decide⟩
theorem b173_64 {T : zT} {V : zM}  : ev 173 64 [(2, 130)] [] T V = some ((0, 0), T, V) := by
  refine Eq.trans (ev_ci (show zcode 173 64 = some (0, 65, 0, 0, []) by decide +kernel) (by decide)) ?_
  exact ev_rz (show zcode 173 65 = some (72, 66, 3, 0, []) by decide +kernel) (by decide)
/-! 174: TwoWayWallModel.faults()V -/
theorem e174 {T : zT} {V : zM}  : zcall 174 [(2, 130)] T V = ev 174 0 [(2, 130)] [] T V := rfl
theorem b174_0 {T : zT} {V : zM}  (hS : zStr T)  : ev 174 0 [(2, 130)] [] T V = (zcall 171 [(2, 130)] T V).bind fun x => ev 174 4 [(2, 130)] (z_push x.1 []) x.2.1 x.2.2 := by
  refine Eq.trans (ev_lda (show zcode 174 0 = some (6, 1, 0, 0, []) by decide +kernel) rfl (by decide)) ?_
  exact ev_cvirt (show zcode 174 1 = some (76, 4, 171, 1, [12]) by decide +kernel) (args := []) (rest := []) rfl (so130 hS) rfl (show 0 ≤ 8 by decide) ⟨by decide, show 1 ≤ 1 by decide⟩
theorem b174_4 {T : zT} {V : zM} {y0 : Int} : ev 174 4 [(2, 130)] [(0, y0)] T V = if y0 = 0 then ev 174 20 [(2, 130)] [] T V else ev 174 7 [(2, 130)] [] T V := by
  exact ev_eq (show zcode 174 4 = some (40, 7, 20, 0, []) by decide +kernel)
theorem b174_7 {T : zT} {V : zM}  (hS : zStr T) (h1 : (0 : Int) ≤ (V 130 18) ∧ (V 130 18) < 401) : ev 174 7 [(2, 130)] [] T V = ev 174 20 [(2, 130)] [] T (zwr V 130 19 (V 141 (V 130 18))) := by
  refine Eq.trans (ev_lda (show zcode 174 7 = some (6, 8, 0, 0, []) by decide +kernel) rfl (by decide)) ?_
  refine Eq.trans (ev_lda (show zcode 174 8 = some (6, 9, 0, 0, []) by decide +kernel) rfl (by decide)) ?_
  refine Eq.trans (ev_gq (show zcode 174 9 = some (56, 12, 12, 16, []) by decide +kernel) (so130 hS) (sp130_16 hS)) ?_
  refine Eq.trans (ev_lda (show zcode 174 12 = some (6, 13, 0, 0, []) by decide +kernel) rfl (by decide)) ?_
  refine Eq.trans (ev_gi (show zcode 174 13 = some (55, 16, 12, 18, []) by decide +kernel) (so130 hS)) ?_
  refine Eq.trans (ev_ia (show zcode 174 16 = some (60, 17, 0, 0, []) by decide +kernel) (sa141 hS) h1) ?_
  exact ev_pi (show zcode 174 17 = some (57, 20, 12, 19, []) by decide +kernel) (so130 hS)
theorem b174_20 {T : zT} {V : zM}  : ev 174 20 [(2, 130)] [] T V = some ((9, 0), T, V) := by
  exact ev_rn (show zcode 174 20 = some (73, 21, 0, 0, []) by decide +kernel)
/-! 175: TwoWayWallModel.number(II)Z -/
theorem e175 {T : zT} {V : zM} {x1 : Int} {x2 : Int} : zcall 175 [(2, 130), (0, x1), (0, x2)] T V = ev 175 0 [(2, 130), (0, x1), (0, x2)] [] T V := rfl
theorem b175_0 {T : zT} {V : zM} {x1 : Int} {x2 : Int} (hS : zStr T)  : ev 175 0 [(2, 130), (0, x1), (0, x2)] [] T V = (zcall 171 [(2, 130)] T V).bind fun x => ev 175 4 [(2, 130), (0, x1), (0, x2)] (z_push x.1 []) x.2.1 x.2.2 := by
  refine Eq.trans (ev_lda (show zcode 175 0 = some (6, 1, 0, 0, []) by decide +kernel) rfl (by decide)) ?_
  exact ev_cvirt (show zcode 175 1 = some (76, 4, 171, 1, [12]) by decide +kernel) (args := []) (rest := []) rfl (so130 hS) rfl (show 0 ≤ 8 by decide) ⟨by decide, show 1 ≤ 1 by decide⟩
theorem b175_4 {T : zT} {V : zM} {x1 : Int} {x2 : Int} {y0 : Int} : ev 175 4 [(2, 130), (0, x1), (0, x2)] [(0, y0)] T V = if y0 = 0 then ev 175 63 [(2, 130), (0, x1), (0, x2)] [] T V else ev 175 7 [(2, 130), (0, x1), (0, x2)] [] T V := by
  exact ev_eq (show zcode 175 4 = some (40, 7, 63, 0, []) by decide +kernel)
theorem b175_7 {T : zT} {V : zM} {x1 : Int} {x2 : Int} (hS : zStr T) (h1 : (0 : Int) ≤ (V 130 18) ∧ (V 130 18) < 401) : ev 175 7 [(2, 130), (0, x1), (0, x2)] [] T V = if (V 139 (V 130 18)) = 90 then ev 175 21 [(2, 130), (0, x1), (0, x2)] [] T V else ev 175 63 [(2, 130), (0, x1), (0, x2)] [] T V := by
  refine Eq.trans (ev_lda (show zcode 175 7 = some (6, 8, 0, 0, []) by decide +kernel) rfl (by decide)) ?_
  refine Eq.trans (ev_gq (show zcode 175 8 = some (56, 11, 12, 14, []) by decide +kernel) (so130 hS) (sp130_14 hS)) ?_
  refine Eq.trans (ev_lda (show zcode 175 11 = some (6, 12, 0, 0, []) by decide +kernel) rfl (by decide)) ?_
  refine Eq.trans (ev_gi (show zcode 175 12 = some (55, 15, 12, 18, []) by decide +kernel) (so130 hS)) ?_
  refine Eq.trans (ev_ia (show zcode 175 15 = some (60, 16, 0, 0, []) by decide +kernel) (sa139 hS) h1) ?_
  refine Eq.trans (ev_ci (show zcode 175 16 = some (0, 18, 0, 90, []) by decide +kernel) (by decide)) ?_
  exact ev_cne (show zcode 175 18 = some (47, 21, 63, 0, []) by decide +kernel)
theorem b175_21 {T : zT} {V : zM} {x1 : Int} {x2 : Int} (hS : zStr T) (h1 : (0 : Int) ≤ (V 130 18) ∧ (V 130 18) < 401) : ev 175 21 [(2, 130), (0, x1), (0, x2)] [] T V = (zcall 150 [(0, (V 140 (V 130 18))), (0, x1), (0, x2)] T V).bind fun x => ev 175 35 [(2, 130), (0, x1), (0, x2)] (z_push x.1 []) x.2.1 x.2.2 := by
  refine Eq.trans (ev_lda (show zcode 175 21 = some (6, 22, 0, 0, []) by decide +kernel) rfl (by decide)) ?_
  refine Eq.trans (ev_gq (show zcode 175 22 = some (56, 25, 12, 15, []) by decide +kernel) (so130 hS) (sp130_15 hS)) ?_
  refine Eq.trans (ev_lda (show zcode 175 25 = some (6, 26, 0, 0, []) by decide +kernel) rfl (by decide)) ?_
  refine Eq.trans (ev_gi (show zcode 175 26 = some (55, 29, 12, 18, []) by decide +kernel) (so130 hS)) ?_
  refine Eq.trans (ev_ia (show zcode 175 29 = some (60, 30, 0, 0, []) by decide +kernel) (sa140 hS) h1) ?_
  refine Eq.trans (ev_ldi (show zcode 175 30 = some (4, 31, 1, 0, []) by decide +kernel) rfl) ?_
  refine Eq.trans (ev_ldi (show zcode 175 31 = some (4, 32, 2, 0, []) by decide +kernel) rfl) ?_
  exact ev_cstat (show zcode 175 32 = some (74, 35, 150, 3, []) by decide +kernel) (args := [(0, (V 140 (V 130 18))), (0, x1), (0, x2)]) (rest := []) rfl rfl (show 0 ≤ 8 by decide) ⟨by decide, show 3 ≤ 3 by decide⟩
theorem b175_35 {T : zT} {V : zM} {x1 : Int} {x2 : Int} {y0 : Int} : ev 175 35 [(2, 130), (0, x1), (0, x2)] [(0, y0)] T V = if y0 = 0 then ev 175 63 [(2, 130), (0, x1), (0, x2)] [] T V else ev 175 38 [(2, 130), (0, x1), (0, x2)] [] T V := by
  exact ev_eq (show zcode 175 35 = some (40, 38, 63, 0, []) by decide +kernel)
theorem b175_38 {T : zT} {V : zM} {x1 : Int} {x2 : Int} (hS : zStr T) (h1 : (0 : Int) ≤ (V 130 18) ∧ (V 130 18) < 401) (h2 : -2147483648 ≤ (((zwr V 130 21 (V 140 (V 130 18))) 130 18) + 1) ∧ (((zwr V 130 21 (V 140 (V 130 18))) 130 18) + 1) ≤ 2147483647) : ev 175 38 [(2, 130), (0, x1), (0, x2)] [] T V = some ((0, 1), T, (zwr (zwr V 130 21 (V 140 (V 130 18))) 130 18 (((zwr V 130 21 (V 140 (V 130 18))) 130 18) + 1))) := by
  refine Eq.trans (ev_lda (show zcode 175 38 = some (6, 39, 0, 0, []) by decide +kernel) rfl (by decide)) ?_
  refine Eq.trans (ev_lda (show zcode 175 39 = some (6, 40, 0, 0, []) by decide +kernel) rfl (by decide)) ?_
  refine Eq.trans (ev_gq (show zcode 175 40 = some (56, 43, 12, 15, []) by decide +kernel) (so130 hS) (sp130_15 hS)) ?_
  refine Eq.trans (ev_lda (show zcode 175 43 = some (6, 44, 0, 0, []) by decide +kernel) rfl (by decide)) ?_
  refine Eq.trans (ev_gi (show zcode 175 44 = some (55, 47, 12, 18, []) by decide +kernel) (so130 hS)) ?_
  refine Eq.trans (ev_ia (show zcode 175 47 = some (60, 48, 0, 0, []) by decide +kernel) (sa140 hS) h1) ?_
  refine Eq.trans (ev_pi (show zcode 175 48 = some (57, 51, 12, 21, []) by decide +kernel) (so130 hS)) ?_
  refine Eq.trans (ev_lda (show zcode 175 51 = some (6, 52, 0, 0, []) by decide +kernel) rfl (by decide)) ?_
  refine Eq.trans (ev_dup (show zcode 175 52 = some (36, 53, 0, 0, []) by decide +kernel) (by decide)) ?_
  refine Eq.trans (ev_gi (show zcode 175 53 = some (55, 56, 12, 18, []) by decide +kernel) (so130 hS)) ?_
  refine Eq.trans (ev_ci (show zcode 175 56 = some (0, 57, 0, 1, []) by decide +kernel) (by decide)) ?_
  refine Eq.trans (ev_add (show zcode 175 57 = some (11, 58, 0, 0, []) by decide +kernel) h2) ?_
  refine Eq.trans (ev_pi (show zcode 175 58 = some (57, 61, 12, 18, []) by decide +kernel) (so130 hS)) ?_
  refine Eq.trans (ev_ci (show zcode 175 61 = some (0, 62, 0, 1, []) by decide +kernel) (by decide)) ?_
  exact ev_rz (show zcode 175 62 = some (72, 63, 3, 0, []) by decide +kernel) (by decide)
theorem b175_63 {T : zT} {V : zM} {x1 : Int} {x2 : Int} (hS : zStr T)  : ev 175 63 [(2, 130), (0, x1), (0, x2)] [] T V = (zcall 174 [(2, 130)] T V).bind fun x => ev 175 67 [(2, 130), (0, x1), (0, x2)] (z_push x.1 []) x.2.1 x.2.2 := by
  refine Eq.trans (ev_lda (show zcode 175 63 = some (6, 64, 0, 0, []) by decide +kernel) rfl (by decide)) ?_
  exact ev_cvirt (show zcode 175 64 = some (76, 67, 174, 1, [12]) by decide +kernel) (args := []) (rest := []) rfl (so130 hS) rfl (show 0 ≤ 8 by decide) ⟨by decide, show 1 ≤ 1 by decide⟩
theorem b175_67 {T : zT} {V : zM} {x1 : Int} {x2 : Int} : ev 175 67 [(2, 130), (0, x1), (0, x2)] [] T V = some ((0, 0), T, V) := by
  refine Eq.trans (ev_ci (show zcode 175 67 = some (0, 68, 0, 0, []) by decide +kernel) (by decide)) ?_
  exact ev_rz (show zcode 175 68 = some (72, 69, 3, 0, []) by decide +kernel) (by decide)
/-! 176: TwoWayWallModel.lettersOf()I -/
theorem e176 {T : zT} {V : zM}  : zcall 176 [(2, 130)] T V = ev 176 0 [(2, 130), (9, 0), (9, 0)] [] T V := rfl
theorem b176_0 {T : zT} {V : zM}  (hS : zStr T) (h1 : (0 : Int) ≤ (V 130 18) ∧ (V 130 18) < 401) : ev 176 0 [(2, 130), (9, 0), (9, 0)] [] T V = ev 176 12 [(2, 130), (0, 0), (0, (V 141 (V 130 18)))] [] T V := by
  refine Eq.trans (ev_ci (show zcode 176 0 = some (0, 1, 0, 0, []) by decide +kernel) (by decide)) ?_
  refine Eq.trans (ev_sti (show zcode 176 1 = some (7, 2, 1, 0, []) by decide +kernel) ⟨show 1 < 3 by decide, Or.inr (show ¬ (2 : Nat) = 1 by decide)⟩) ?_
  refine Eq.trans (ev_lda (show zcode 176 2 = some (6, 3, 0, 0, []) by decide +kernel) rfl (by decide)) ?_
  refine Eq.trans (ev_gq (show zcode 176 3 = some (56, 6, 12, 16, []) by decide +kernel) (so130 hS) (sp130_16 hS)) ?_
  refine Eq.trans (ev_lda (show zcode 176 6 = some (6, 7, 0, 0, []) by decide +kernel) rfl (by decide)) ?_
  refine Eq.trans (ev_gi (show zcode 176 7 = some (55, 10, 12, 18, []) by decide +kernel) (so130 hS)) ?_
  refine Eq.trans (ev_ia (show zcode 176 10 = some (60, 11, 0, 0, []) by decide +kernel) (sa141 hS) h1) ?_
  exact ev_sti (show zcode 176 11 = some (7, 12, 2, 0, []) by decide +kernel) ⟨show 2 < 3 by decide, Or.inr (show ¬ (0 : Nat) = 1 by decide)⟩
theorem b176_12 {T : zT} {V : zM} {x1 : Int} {x2 : Int} (hS : zStr T)  : ev 176 12 [(2, 130), (0, x1), (0, x2)] [] T V = if (V 130 20) ≤ x2 then ev 176 41 [(2, 130), (0, x1), (0, x2)] [] T V else ev 176 20 [(2, 130), (0, x1), (0, x2)] [] T V := by
  refine Eq.trans (ev_ldi (show zcode 176 12 = some (4, 13, 2, 0, []) by decide +kernel) rfl) ?_
  refine Eq.trans (ev_lda (show zcode 176 13 = some (6, 14, 0, 0, []) by decide +kernel) rfl (by decide)) ?_
  refine Eq.trans (ev_gi (show zcode 176 14 = some (55, 17, 12, 20, []) by decide +kernel) (so130 hS)) ?_
  exact ev_cge (show zcode 176 17 = some (49, 20, 41, 0, []) by decide +kernel)
theorem b176_20 {T : zT} {V : zM} {x1 : Int} {x2 : Int} (hS : zStr T) (h1 : (0 : Int) ≤ x2 ∧ x2 < 400) : ev 176 20 [(2, 130), (0, x1), (0, x2)] [] T V = (zcall 166 [(0, (V 137 x2))] T V).bind fun x => ev 176 29 [(2, 130), (0, x1), (0, x2)] (z_push x.1 []) x.2.1 x.2.2 := by
  refine Eq.trans (ev_lda (show zcode 176 20 = some (6, 21, 0, 0, []) by decide +kernel) rfl (by decide)) ?_
  refine Eq.trans (ev_gq (show zcode 176 21 = some (56, 24, 12, 10, []) by decide +kernel) (so130 hS) (sp130_10 hS)) ?_
  refine Eq.trans (ev_ldi (show zcode 176 24 = some (4, 25, 2, 0, []) by decide +kernel) rfl) ?_
  refine Eq.trans (ev_ba (show zcode 176 25 = some (62, 26, 0, 0, []) by decide +kernel) (sa137 hS) h1) ?_
  exact ev_cstat (show zcode 176 26 = some (74, 29, 166, 1, []) by decide +kernel) (args := [(0, (V 137 x2))]) (rest := []) rfl rfl (show 0 ≤ 8 by decide) ⟨by decide, show 1 ≤ 1 by decide⟩
theorem b176_29 {T : zT} {V : zM} {x1 : Int} {x2 : Int} {y0 : Int} : ev 176 29 [(2, 130), (0, x1), (0, x2)] [(0, y0)] T V = if y0 = 0 then ev 176 41 [(2, 130), (0, x1), (0, x2)] [] T V else ev 176 32 [(2, 130), (0, x1), (0, x2)] [] T V := by
  exact ev_eq (show zcode 176 29 = some (40, 32, 41, 0, []) by decide +kernel)
theorem b176_32 {T : zT} {V : zM} {x1 : Int} {x2 : Int} (h1 : -2147483648 ≤ (x1 + 1) ∧ (x1 + 1) ≤ 2147483647) (h2 : -2147483648 ≤ (x2 + 1) ∧ (x2 + 1) ≤ 2147483647) : ev 176 32 [(2, 130), (0, x1), (0, x2)] [] T V = ev 176 12 [(2, 130), (0, (x1 + 1)), (0, (x2 + 1))] [] T V := by
  refine Eq.trans (ev_inc (show zcode 176 32 = some (10, 35, 1, 1, []) by decide +kernel) rfl h1 (Or.inr (show ¬ (2 : Nat) = 1 by decide))) ?_
  refine Eq.trans (ev_inc (show zcode 176 35 = some (10, 38, 2, 1, []) by decide +kernel) rfl h2 (Or.inr (show ¬ (0 : Nat) = 1 by decide))) ?_
  exact ev_goto (show zcode 176 38 = some (53, 41, 12, 0, []) by decide +kernel)
theorem b176_41 {T : zT} {V : zM} {x1 : Int} {x2 : Int} : ev 176 41 [(2, 130), (0, x1), (0, x2)] [] T V = some ((0, x1), T, V) := by
  refine Eq.trans (ev_ldi (show zcode 176 41 = some (4, 42, 1, 0, []) by decide +kernel) rfl) ?_
  exact ev_ri (show zcode 176 42 = some (72, 43, 0, 0, []) by decide +kernel)
/-! 177: TwoWayWallModel.digits(II)Z -/
theorem e177 {T : zT} {V : zM} {x1 : Int} {x2 : Int} : zcall 177 [(2, 130), (0, x1), (0, x2)] T V = ev 177 0 [(2, 130), (0, x1), (0, x2), (9, 0), (9, 0), (9, 0), (9, 0), (9, 0)] [] T V := rfl
theorem b177_0 {T : zT} {V : zM} {x1 : Int} {x2 : Int} (hS : zStr T)  : ev 177 0 [(2, 130), (0, x1), (0, x2), (9, 0), (9, 0), (9, 0), (9, 0), (9, 0)] [] T V = (zcall 171 [(2, 130)] T V).bind fun x => ev 177 4 [(2, 130), (0, x1), (0, x2), (9, 0), (9, 0), (9, 0), (9, 0), (9, 0)] (z_push x.1 []) x.2.1 x.2.2 := by
  refine Eq.trans (ev_lda (show zcode 177 0 = some (6, 1, 0, 0, []) by decide +kernel) rfl (by decide)) ?_
  exact ev_cvirt (show zcode 177 1 = some (76, 4, 171, 1, [12]) by decide +kernel) (args := []) (rest := []) rfl (so130 hS) rfl (show 0 ≤ 8 by decide) ⟨by decide, show 1 ≤ 1 by decide⟩
theorem b177_4 {T : zT} {V : zM} {x1 : Int} {x2 : Int} {y0 : Int} : ev 177 4 [(2, 130), (0, x1), (0, x2), (9, 0), (9, 0), (9, 0), (9, 0), (9, 0)] [(0, y0)] T V = if y0 = 0 then ev 177 25 [(2, 130), (0, x1), (0, x2), (9, 0), (9, 0), (9, 0), (9, 0), (9, 0)] [] T V else ev 177 7 [(2, 130), (0, x1), (0, x2), (9, 0), (9, 0), (9, 0), (9, 0), (9, 0)] [] T V := by
  exact ev_eq (show zcode 177 4 = some (40, 7, 25, 0, []) by decide +kernel)
theorem b177_7 {T : zT} {V : zM} {x1 : Int} {x2 : Int} (hS : zStr T) (h1 : (0 : Int) ≤ (V 130 18) ∧ (V 130 18) < 401) : ev 177 7 [(2, 130), (0, x1), (0, x2), (9, 0), (9, 0), (9, 0), (9, 0), (9, 0)] [] T V = if (V 139 (V 130 18)) = 90 then ev 177 21 [(2, 130), (0, x1), (0, x2), (9, 0), (9, 0), (9, 0), (9, 0), (9, 0)] [] T V else ev 177 25 [(2, 130), (0, x1), (0, x2), (9, 0), (9, 0), (9, 0), (9, 0), (9, 0)] [] T V := by
  refine Eq.trans (ev_lda (show zcode 177 7 = some (6, 8, 0, 0, []) by decide +kernel) rfl (by decide)) ?_
  refine Eq.trans (ev_gq (show zcode 177 8 = some (56, 11, 12, 14, []) by decide +kernel) (so130 hS) (sp130_14 hS)) ?_
  refine Eq.trans (ev_lda (show zcode 177 11 = some (6, 12, 0, 0, []) by decide +kernel) rfl (by decide)) ?_
  refine Eq.trans (ev_gi (show zcode 177 12 = some (55, 15, 12, 18, []) by decide +kernel) (so130 hS)) ?_
  refine Eq.trans (ev_ia (show zcode 177 15 = some (60, 16, 0, 0, []) by decide +kernel) (sa139 hS) h1) ?_
  refine Eq.trans (ev_ci (show zcode 177 16 = some (0, 18, 0, 90, []) by decide +kernel) (by decide)) ?_
  exact ev_cne (show zcode 177 18 = some (47, 21, 25, 0, []) by decide +kernel)
theorem b177_21 {T : zT} {V : zM} {x1 : Int} {x2 : Int} : ev 177 21 [(2, 130), (0, x1), (0, x2), (9, 0), (9, 0), (9, 0), (9, 0), (9, 0)] [] T V = ev 177 26 [(2, 130), (0, x1), (0, x2), (9, 0), (9, 0), (9, 0), (9, 0), (9, 0)] [(0, 1)] T V := by
  refine Eq.trans (ev_ci (show zcode 177 21 = some (0, 22, 0, 1, []) by decide +kernel) (by decide)) ?_
  exact ev_goto (show zcode 177 22 = some (53, 25, 26, 0, []) by decide +kernel)
theorem b177_25 {T : zT} {V : zM} {x1 : Int} {x2 : Int} : ev 177 25 [(2, 130), (0, x1), (0, x2), (9, 0), (9, 0), (9, 0), (9, 0), (9, 0)] [] T V = ev 177 26 [(2, 130), (0, x1), (0, x2), (9, 0), (9, 0), (9, 0), (9, 0), (9, 0)] [(0, 0)] T V := by
  exact ev_ci (show zcode 177 25 = some (0, 26, 0, 0, []) by decide +kernel) (by decide)
theorem b177_26 {T : zT} {V : zM} {x1 : Int} {x2 : Int} {y0 : Int} : ev 177 26 [(2, 130), (0, x1), (0, x2), (9, 0), (9, 0), (9, 0), (9, 0), (9, 0)] [(0, y0)] T V = if y0 = 0 then ev 177 49 [(2, 130), (0, x1), (0, x2), (0, y0), (0, 0), (0, 0), (9, 0), (9, 0)] [] T V else ev 177 37 [(2, 130), (0, x1), (0, x2), (0, y0), (0, 0), (0, 0), (9, 0), (9, 0)] [] T V := by
  refine Eq.trans (ev_sti (show zcode 177 26 = some (7, 27, 3, 0, []) by decide +kernel) ⟨show 3 < 8 by decide, Or.inr (show ¬ (0 : Nat) = 1 by decide)⟩) ?_
  refine Eq.trans (ev_ci (show zcode 177 27 = some (0, 28, 0, 0, []) by decide +kernel) (by decide)) ?_
  refine Eq.trans (ev_sti (show zcode 177 28 = some (7, 30, 4, 0, []) by decide +kernel) ⟨show 4 < 8 by decide, Or.inr (show ¬ (0 : Nat) = 1 by decide)⟩) ?_
  refine Eq.trans (ev_ci (show zcode 177 30 = some (0, 31, 0, 0, []) by decide +kernel) (by decide)) ?_
  refine Eq.trans (ev_sti (show zcode 177 31 = some (7, 33, 5, 0, []) by decide +kernel) ⟨show 5 < 8 by decide, Or.inr (show ¬ (0 : Nat) = 1 by decide)⟩) ?_
  refine Eq.trans (ev_ldi (show zcode 177 33 = some (4, 34, 3, 0, []) by decide +kernel) rfl) ?_
  exact ev_eq (show zcode 177 34 = some (40, 37, 49, 0, []) by decide +kernel)
theorem b177_37 {T : zT} {V : zM} {x1 : Int} {x2 : Int} {x3 : Int} {x4 : Int} {x5 : Int} (hS : zStr T) (h1 : (0 : Int) ≤ (V 130 18) ∧ (V 130 18) < 401) : ev 177 37 [(2, 130), (0, x1), (0, x2), (0, x3), (0, x4), (0, x5), (9, 0), (9, 0)] [] T V = ev 177 53 [(2, 130), (0, x1), (0, x2), (0, x3), (0, x4), (0, x5), (9, 0), (9, 0)] [(0, (V 141 (V 130 18)))] T V := by
  refine Eq.trans (ev_lda (show zcode 177 37 = some (6, 38, 0, 0, []) by decide +kernel) rfl (by decide)) ?_
  refine Eq.trans (ev_gq (show zcode 177 38 = some (56, 41, 12, 16, []) by decide +kernel) (so130 hS) (sp130_16 hS)) ?_
  refine Eq.trans (ev_lda (show zcode 177 41 = some (6, 42, 0, 0, []) by decide +kernel) rfl (by decide)) ?_
  refine Eq.trans (ev_gi (show zcode 177 42 = some (55, 45, 12, 18, []) by decide +kernel) (so130 hS)) ?_
  refine Eq.trans (ev_ia (show zcode 177 45 = some (60, 46, 0, 0, []) by decide +kernel) (sa141 hS) h1) ?_
  exact ev_goto (show zcode 177 46 = some (53, 49, 53, 0, []) by decide +kernel)
theorem b177_49 {T : zT} {V : zM} {x1 : Int} {x2 : Int} {x3 : Int} {x4 : Int} {x5 : Int} (hS : zStr T)  : ev 177 49 [(2, 130), (0, x1), (0, x2), (0, x3), (0, x4), (0, x5), (9, 0), (9, 0)] [] T V = ev 177 53 [(2, 130), (0, x1), (0, x2), (0, x3), (0, x4), (0, x5), (9, 0), (9, 0)] [(0, (V 130 20))] T V := by
  refine Eq.trans (ev_lda (show zcode 177 49 = some (6, 50, 0, 0, []) by decide +kernel) rfl (by decide)) ?_
  exact ev_gi (show zcode 177 50 = some (55, 53, 12, 20, []) by decide +kernel) (so130 hS)
theorem b177_53 {T : zT} {V : zM} {x1 : Int} {x2 : Int} {x3 : Int} {x4 : Int} {x5 : Int} {y0 : Int} : ev 177 53 [(2, 130), (0, x1), (0, x2), (0, x3), (0, x4), (0, x5), (9, 0), (9, 0)] [(0, y0)] T V = ev 177 55 [(2, 130), (0, x1), (0, x2), (0, x3), (0, x4), (0, x5), (0, y0), (9, 0)] [] T V := by
  exact ev_sti (show zcode 177 53 = some (7, 55, 6, 0, []) by decide +kernel) ⟨show 6 < 8 by decide, Or.inr (show ¬ (0 : Nat) = 1 by decide)⟩
theorem b177_55 {T : zT} {V : zM} {x1 : Int} {x2 : Int} {x3 : Int} {x4 : Int} {x5 : Int} {x6 : Int} {v7 : zV} (hS : zStr T)  : ev 177 55 [(2, 130), (0, x1), (0, x2), (0, x3), (0, x4), (0, x5), (0, x6), v7] [] T V = if (V 130 20) ≤ x6 then ev 177 148 [(2, 130), (0, x1), (0, x2), (0, x3), (0, x4), (0, x5), (0, x6), v7] [] T V else ev 177 64 [(2, 130), (0, x1), (0, x2), (0, x3), (0, x4), (0, x5), (0, x6), v7] [] T V := by
  refine Eq.trans (ev_ldi (show zcode 177 55 = some (4, 57, 6, 0, []) by decide +kernel) rfl) ?_
  refine Eq.trans (ev_lda (show zcode 177 57 = some (6, 58, 0, 0, []) by decide +kernel) rfl (by decide)) ?_
  refine Eq.trans (ev_gi (show zcode 177 58 = some (55, 61, 12, 20, []) by decide +kernel) (so130 hS)) ?_
  exact ev_cge (show zcode 177 61 = some (49, 64, 148, 0, []) by decide +kernel)
theorem b177_64 {T : zT} {V : zM} {x1 : Int} {x2 : Int} {x3 : Int} {x4 : Int} {x5 : Int} {x6 : Int} {v7 : zV} (hS : zStr T) (h1 : (0 : Int) ≤ x6 ∧ x6 < 400) : ev 177 64 [(2, 130), (0, x1), (0, x2), (0, x3), (0, x4), (0, x5), (0, x6), v7] [] T V = (zcall 167 [(0, (V 137 x6))] T V).bind fun x => ev 177 74 [(2, 130), (0, x1), (0, x2), (0, x3), (0, x4), (0, x5), (0, x6), v7] (z_push x.1 []) x.2.1 x.2.2 := by
  refine Eq.trans (ev_lda (show zcode 177 64 = some (6, 65, 0, 0, []) by decide +kernel) rfl (by decide)) ?_
  refine Eq.trans (ev_gq (show zcode 177 65 = some (56, 68, 12, 10, []) by decide +kernel) (so130 hS) (sp130_10 hS)) ?_
  refine Eq.trans (ev_ldi (show zcode 177 68 = some (4, 70, 6, 0, []) by decide +kernel) rfl) ?_
  refine Eq.trans (ev_ba (show zcode 177 70 = some (62, 71, 0, 0, []) by decide +kernel) (sa137 hS) h1) ?_
  exact ev_cstat (show zcode 177 71 = some (74, 74, 167, 1, []) by decide +kernel) (args := [(0, (V 137 x6))]) (rest := []) rfl rfl (show 0 ≤ 8 by decide) ⟨by decide, show 1 ≤ 1 by decide⟩
theorem b177_74 {T : zT} {V : zM} {x1 : Int} {x2 : Int} {x3 : Int} {x4 : Int} {x5 : Int} {x6 : Int} {v7 : zV} {y0 : Int} : ev 177 74 [(2, 130), (0, x1), (0, x2), (0, x3), (0, x4), (0, x5), (0, x6), v7] [(0, y0)] T V = if y0 = 0 then ev 177 148 [(2, 130), (0, x1), (0, x2), (0, x3), (0, x4), (0, x5), (0, x6), v7] [] T V else ev 177 77 [(2, 130), (0, x1), (0, x2), (0, x3), (0, x4), (0, x5), (0, x6), v7] [] T V := by
  exact ev_eq (show zcode 177 74 = some (40, 77, 148, 0, []) by decide +kernel)
theorem b177_77 {T : zT} {V : zM} {x1 : Int} {x2 : Int} {x3 : Int} {x4 : Int} {x5 : Int} {x6 : Int} {v7 : zV} : ev 177 77 [(2, 130), (0, x1), (0, x2), (0, x3), (0, x4), (0, x5), (0, x6), v7] [] T V = if x3 = 0 then ev 177 148 [(2, 130), (0, x1), (0, x2), (0, x3), (0, x4), (0, x5), (0, x6), v7] [] T V else ev 177 81 [(2, 130), (0, x1), (0, x2), (0, x3), (0, x4), (0, x5), (0, x6), v7] [] T V := by
  refine Eq.trans (ev_ldi (show zcode 177 77 = some (4, 78, 3, 0, []) by decide +kernel) rfl) ?_
  exact ev_eq (show zcode 177 78 = some (40, 81, 148, 0, []) by decide +kernel)
theorem b177_81 {T : zT} {V : zM} {x1 : Int} {x2 : Int} {x3 : Int} {x4 : Int} {x5 : Int} {x6 : Int} {v7 : zV} (hS : zStr T) (h1 : (0 : Int) ≤ x6 ∧ x6 < 400) (h2 : -2147483648 ≤ ((V 137 x6) - 49) ∧ ((V 137 x6) - 49) ≤ 2147483647) : ev 177 81 [(2, 130), (0, x1), (0, x2), (0, x3), (0, x4), (0, x5), (0, x6), v7] [] T V = (zcall 150 [(0, ((V 137 x6) - 49)), (0, 0), (0, 6)] T V).bind fun x => ev 177 101 [(2, 130), (0, x1), (0, x2), (0, x3), (0, x4), (0, x5), (0, x6), (0, ((V 137 x6) - 49))] (z_push x.1 []) x.2.1 x.2.2 := by
  refine Eq.trans (ev_lda (show zcode 177 81 = some (6, 82, 0, 0, []) by decide +kernel) rfl (by decide)) ?_
  refine Eq.trans (ev_gq (show zcode 177 82 = some (56, 85, 12, 10, []) by decide +kernel) (so130 hS) (sp130_10 hS)) ?_
  refine Eq.trans (ev_ldi (show zcode 177 85 = some (4, 87, 6, 0, []) by decide +kernel) rfl) ?_
  refine Eq.trans (ev_ba (show zcode 177 87 = some (62, 88, 0, 0, []) by decide +kernel) (sa137 hS) h1) ?_
  refine Eq.trans (ev_ci (show zcode 177 88 = some (0, 90, 0, 49, []) by decide +kernel) (by decide)) ?_
  refine Eq.trans (ev_sub (show zcode 177 90 = some (12, 91, 0, 0, []) by decide +kernel) h2) ?_
  refine Eq.trans (ev_sti (show zcode 177 91 = some (7, 93, 7, 0, []) by decide +kernel) ⟨show 7 < 8 by decide, Or.inr (show ¬ (0 : Nat) = 1 by decide)⟩) ?_
  refine Eq.trans (ev_ldi (show zcode 177 93 = some (4, 95, 7, 0, []) by decide +kernel) rfl) ?_
  refine Eq.trans (ev_ci (show zcode 177 95 = some (0, 96, 0, 0, []) by decide +kernel) (by decide)) ?_
  refine Eq.trans (ev_ci (show zcode 177 96 = some (0, 98, 0, 6, []) by decide +kernel) (by decide)) ?_
  exact ev_cstat (show zcode 177 98 = some (74, 101, 150, 3, []) by decide +kernel) (args := [(0, ((V 137 x6) - 49)), (0, 0), (0, 6)]) (rest := []) rfl rfl (show 0 ≤ 8 by decide) ⟨by decide, show 3 ≤ 3 by decide⟩
theorem b177_101 {T : zT} {V : zM} {x1 : Int} {x2 : Int} {x3 : Int} {x4 : Int} {x5 : Int} {x6 : Int} {x7 : Int} {y0 : Int} : ev 177 101 [(2, 130), (0, x1), (0, x2), (0, x3), (0, x4), (0, x5), (0, x6), (0, x7)] [(0, y0)] T V = if y0 = 0 then ev 177 120 [(2, 130), (0, x1), (0, x2), (0, x3), (0, x4), (0, x5), (0, x6), (0, x7)] [] T V else ev 177 104 [(2, 130), (0, x1), (0, x2), (0, x3), (0, x4), (0, x5), (0, x6), (0, x7)] [] T V := by
  exact ev_eq (show zcode 177 101 = some (40, 104, 120, 0, []) by decide +kernel)
theorem b177_104 {T : zT} {V : zM} {x1 : Int} {x2 : Int} {x3 : Int} {x4 : Int} {x5 : Int} {x6 : Int} {x7 : Int} (h1 : (0 : Int) ≤ x7 ∧ x7 < 32) : ev 177 104 [(2, 130), (0, x1), (0, x2), (0, x3), (0, x4), (0, x5), (0, x6), (0, x7)] [] T V = if (zand ((zor x4 x1) / 2 ^ (x7).toNat) 1) = 0 then ev 177 116 [(2, 130), (0, x1), (0, x2), (0, x3), (0, x4), (0, x5), (0, x6), (0, x7)] [] T V else ev 177 120 [(2, 130), (0, x1), (0, x2), (0, x3), (0, x4), (0, x5), (0, x6), (0, x7)] [] T V := by
  refine Eq.trans (ev_ldi (show zcode 177 104 = some (4, 106, 4, 0, []) by decide +kernel) rfl) ?_
  refine Eq.trans (ev_ldi (show zcode 177 106 = some (4, 107, 1, 0, []) by decide +kernel) rfl) ?_
  refine Eq.trans (ev_or (show zcode 177 107 = some (15, 108, 0, 0, []) by decide +kernel)) ?_
  refine Eq.trans (ev_ldi (show zcode 177 108 = some (4, 110, 7, 0, []) by decide +kernel) rfl) ?_
  refine Eq.trans (ev_shr (show zcode 177 110 = some (21, 111, 0, 0, []) by decide +kernel) h1) ?_
  refine Eq.trans (ev_ci (show zcode 177 111 = some (0, 112, 0, 1, []) by decide +kernel) (by decide)) ?_
  refine Eq.trans (ev_and (show zcode 177 112 = some (14, 113, 0, 0, []) by decide +kernel)) ?_
  exact ev_ne (show zcode 177 113 = some (41, 116, 120, 0, []) by decide +kernel)
theorem b177_116 {T : zT} {V : zM} {x1 : Int} {x2 : Int} {x3 : Int} {x4 : Int} {x5 : Int} {x6 : Int} {x7 : Int} : ev 177 116 [(2, 130), (0, x1), (0, x2), (0, x3), (0, x4), (0, x5), (0, x6), (0, x7)] [] T V = ev 177 121 [(2, 130), (0, x1), (0, x2), (0, x3), (0, x4), (0, x5), (0, x6), (0, x7)] [(0, 1)] T V := by
  refine Eq.trans (ev_ci (show zcode 177 116 = some (0, 117, 0, 1, []) by decide +kernel) (by decide)) ?_
  exact ev_goto (show zcode 177 117 = some (53, 120, 121, 0, []) by decide +kernel)
theorem b177_120 {T : zT} {V : zM} {x1 : Int} {x2 : Int} {x3 : Int} {x4 : Int} {x5 : Int} {x6 : Int} {x7 : Int} : ev 177 120 [(2, 130), (0, x1), (0, x2), (0, x3), (0, x4), (0, x5), (0, x6), (0, x7)] [] T V = ev 177 121 [(2, 130), (0, x1), (0, x2), (0, x3), (0, x4), (0, x5), (0, x6), (0, x7)] [(0, 0)] T V := by
  exact ev_ci (show zcode 177 120 = some (0, 121, 0, 0, []) by decide +kernel) (by decide)
theorem b177_121 {T : zT} {V : zM} {x1 : Int} {x2 : Int} {x3 : Int} {x4 : Int} {x5 : Int} {x6 : Int} {x7 : Int} {y0 : Int} : ev 177 121 [(2, 130), (0, x1), (0, x2), (0, x3), (0, x4), (0, x5), (0, x6), (0, x7)] [(0, y0)] T V = if y0 = 0 then ev 177 135 [(2, 130), (0, x1), (0, x2), (0, y0), (0, x4), (0, x5), (0, x6), (0, x7)] [(0, x4)] T V else ev 177 128 [(2, 130), (0, x1), (0, x2), (0, y0), (0, x4), (0, x5), (0, x6), (0, x7)] [(0, x4)] T V := by
  refine Eq.trans (ev_sti (show zcode 177 121 = some (7, 122, 3, 0, []) by decide +kernel) ⟨show 3 < 8 by decide, Or.inr (show ¬ (0 : Nat) = 1 by decide)⟩) ?_
  refine Eq.trans (ev_ldi (show zcode 177 122 = some (4, 124, 4, 0, []) by decide +kernel) rfl) ?_
  refine Eq.trans (ev_ldi (show zcode 177 124 = some (4, 125, 3, 0, []) by decide +kernel) rfl) ?_
  exact ev_eq (show zcode 177 125 = some (40, 128, 135, 0, []) by decide +kernel)
theorem b177_128 {T : zT} {V : zM} {x1 : Int} {x2 : Int} {x3 : Int} {x4 : Int} {x5 : Int} {x6 : Int} {x7 : Int} {y0 : Int} (h1 : (0 : Int) ≤ x7 ∧ x7 ≤ 30) : ev 177 128 [(2, 130), (0, x1), (0, x2), (0, x3), (0, x4), (0, x5), (0, x6), (0, x7)] [(0, y0)] T V = ev 177 136 [(2, 130), (0, x1), (0, x2), (0, x3), (0, x4), (0, x5), (0, x6), (0, x7)] [(0, ((2 : Int) ^ (x7).toNat)), (0, y0)] T V := by
  refine Eq.trans (ev_ci (show zcode 177 128 = some (0, 129, 0, 1, []) by decide +kernel) (by decide)) ?_
  refine Eq.trans (ev_ldi (show zcode 177 129 = some (4, 131, 7, 0, []) by decide +kernel) rfl) ?_
  refine Eq.trans (ev_shl1 (show zcode 177 131 = some (20, 132, 0, 0, []) by decide +kernel) h1) ?_
  exact ev_goto (show zcode 177 132 = some (53, 135, 136, 0, []) by decide +kernel)
theorem b177_135 {T : zT} {V : zM} {x1 : Int} {x2 : Int} {x3 : Int} {x4 : Int} {x5 : Int} {x6 : Int} {x7 : Int} {y0 : Int} : ev 177 135 [(2, 130), (0, x1), (0, x2), (0, x3), (0, x4), (0, x5), (0, x6), (0, x7)] [(0, y0)] T V = ev 177 136 [(2, 130), (0, x1), (0, x2), (0, x3), (0, x4), (0, x5), (0, x6), (0, x7)] [(0, 0), (0, y0)] T V := by
  exact ev_ci (show zcode 177 135 = some (0, 136, 0, 0, []) by decide +kernel) (by decide)
theorem b177_136 {T : zT} {V : zM} {x1 : Int} {x2 : Int} {x3 : Int} {x4 : Int} {x5 : Int} {x6 : Int} {x7 : Int} {y0 : Int} {y1 : Int} (h1 : -2147483648 ≤ (x5 + 1) ∧ (x5 + 1) ≤ 2147483647) (h2 : -2147483648 ≤ (x6 + 1) ∧ (x6 + 1) ≤ 2147483647) : ev 177 136 [(2, 130), (0, x1), (0, x2), (0, x3), (0, x4), (0, x5), (0, x6), (0, x7)] [(0, y1), (0, y0)] T V = ev 177 55 [(2, 130), (0, x1), (0, x2), (0, x3), (0, (zor y0 y1)), (0, (x5 + 1)), (0, (x6 + 1)), (0, x7)] [] T V := by
  refine Eq.trans (ev_or (show zcode 177 136 = some (15, 137, 0, 0, []) by decide +kernel)) ?_
  refine Eq.trans (ev_sti (show zcode 177 137 = some (7, 139, 4, 0, []) by decide +kernel) ⟨show 4 < 8 by decide, Or.inr (show ¬ (0 : Nat) = 1 by decide)⟩) ?_
  refine Eq.trans (ev_inc (show zcode 177 139 = some (10, 142, 5, 1, []) by decide +kernel) rfl h1 (Or.inr (show ¬ (0 : Nat) = 1 by decide))) ?_
  refine Eq.trans (ev_inc (show zcode 177 142 = some (10, 145, 6, 1, []) by decide +kernel) rfl h2 (Or.inr (show ¬ (0 : Nat) = 1 by decide))) ?_
  exact ev_goto (show zcode 177 145 = some (53, 148, 55, 0, []) by decide +kernel)
theorem b177_148 {T : zT} {V : zM} {x1 : Int} {x2 : Int} {x3 : Int} {x4 : Int} {x5 : Int} {x6 : Int} {v7 : zV} : ev 177 148 [(2, 130), (0, x1), (0, x2), (0, x3), (0, x4), (0, x5), (0, x6), v7] [] T V = if x3 = 0 then ev 177 162 [(2, 130), (0, x1), (0, x2), (0, x3), (0, x4), (0, x5), (0, x6), v7] [] T V else ev 177 152 [(2, 130), (0, x1), (0, x2), (0, x3), (0, x4), (0, x5), (0, x6), v7] [] T V := by
  refine Eq.trans (ev_ldi (show zcode 177 148 = some (4, 149, 3, 0, []) by decide +kernel) rfl) ?_
  exact ev_eq (show zcode 177 149 = some (40, 152, 162, 0, []) by decide +kernel)
theorem b177_152 {T : zT} {V : zM} {x1 : Int} {x2 : Int} {x3 : Int} {x4 : Int} {x5 : Int} {x6 : Int} {v7 : zV} : ev 177 152 [(2, 130), (0, x1), (0, x2), (0, x3), (0, x4), (0, x5), (0, x6), v7] [] T V = if x2 ≤ 0 then ev 177 168 [(2, 130), (0, x1), (0, x2), (0, x3), (0, x4), (0, x5), (0, x6), v7] [] T V else ev 177 156 [(2, 130), (0, x1), (0, x2), (0, x3), (0, x4), (0, x5), (0, x6), v7] [] T V := by
  refine Eq.trans (ev_ldi (show zcode 177 152 = some (4, 153, 2, 0, []) by decide +kernel) rfl) ?_
  exact ev_le (show zcode 177 153 = some (45, 156, 168, 0, []) by decide +kernel)
theorem b177_156 {T : zT} {V : zM} {x1 : Int} {x2 : Int} {x3 : Int} {x4 : Int} {x5 : Int} {x6 : Int} {v7 : zV} : ev 177 156 [(2, 130), (0, x1), (0, x2), (0, x3), (0, x4), (0, x5), (0, x6), v7] [] T V = if x5 = x2 then ev 177 168 [(2, 130), (0, x1), (0, x2), (0, x3), (0, x4), (0, x5), (0, x6), v7] [] T V else ev 177 162 [(2, 130), (0, x1), (0, x2), (0, x3), (0, x4), (0, x5), (0, x6), v7] [] T V := by
  refine Eq.trans (ev_ldi (show zcode 177 156 = some (4, 158, 5, 0, []) by decide +kernel) rfl) ?_
  refine Eq.trans (ev_ldi (show zcode 177 158 = some (4, 159, 2, 0, []) by decide +kernel) rfl) ?_
  exact ev_ceq (show zcode 177 159 = some (46, 162, 168, 0, []) by decide +kernel)
theorem b177_162 {T : zT} {V : zM} {x1 : Int} {x2 : Int} {x3 : Int} {x4 : Int} {x5 : Int} {x6 : Int} {v7 : zV} (hS : zStr T)  : ev 177 162 [(2, 130), (0, x1), (0, x2), (0, x3), (0, x4), (0, x5), (0, x6), v7] [] T V = (zcall 174 [(2, 130)] T V).bind fun x => ev 177 166 [(2, 130), (0, x1), (0, x2), (0, x3), (0, x4), (0, x5), (0, x6), v7] (z_push x.1 []) x.2.1 x.2.2 := by
  refine Eq.trans (ev_lda (show zcode 177 162 = some (6, 163, 0, 0, []) by decide +kernel) rfl (by decide)) ?_
  exact ev_cvirt (show zcode 177 163 = some (76, 166, 174, 1, [12]) by decide +kernel) (args := []) (rest := []) rfl (so130 hS) rfl (show 0 ≤ 8 by decide) ⟨by decide, show 1 ≤ 1 by decide⟩
theorem b177_166 {T : zT} {V : zM} {x1 : Int} {x2 : Int} {x3 : Int} {x4 : Int} {x5 : Int} {x6 : Int} {v7 : zV} : ev 177 166 [(2, 130), (0, x1), (0, x2), (0, x3), (0, x4), (0, x5), (0, x6), v7] [] T V = some ((0, 0), T, V) := by
  refine Eq.trans (ev_ci (show zcode 177 166 = some (0, 167, 0, 0, []) by decide +kernel) (by decide)) ?_
  exact ev_rz (show zcode 177 167 = some (72, 168, 3, 0, []) by decide +kernel) (by decide)
theorem b177_168 {T : zT} {V : zM} {x1 : Int} {x2 : Int} {x3 : Int} {x4 : Int} {x5 : Int} {x6 : Int} {v7 : zV} (hS : zStr T) (h1 : -2147483648 ≤ (((zwr V 130 21 x4) 130 18) + 1) ∧ (((zwr V 130 21 x4) 130 18) + 1) ≤ 2147483647) : ev 177 168 [(2, 130), (0, x1), (0, x2), (0, x3), (0, x4), (0, x5), (0, x6), v7] [] T V = some ((0, 1), T, (zwr (zwr V 130 21 x4) 130 18 (((zwr V 130 21 x4) 130 18) + 1))) := by
  refine Eq.trans (ev_lda (show zcode 177 168 = some (6, 169, 0, 0, []) by decide +kernel) rfl (by decide)) ?_
  refine Eq.trans (ev_ldi (show zcode 177 169 = some (4, 171, 4, 0, []) by decide +kernel) rfl) ?_
  refine Eq.trans (ev_pi (show zcode 177 171 = some (57, 174, 12, 21, []) by decide +kernel) (so130 hS)) ?_
  refine Eq.trans (ev_lda (show zcode 177 174 = some (6, 175, 0, 0, []) by decide +kernel) rfl (by decide)) ?_
  refine Eq.trans (ev_dup (show zcode 177 175 = some (36, 176, 0, 0, []) by decide +kernel) (by decide)) ?_
  refine Eq.trans (ev_gi (show zcode 177 176 = some (55, 179, 12, 18, []) by decide +kernel) (so130 hS)) ?_
  refine Eq.trans (ev_ci (show zcode 177 179 = some (0, 180, 0, 1, []) by decide +kernel) (by decide)) ?_
  refine Eq.trans (ev_add (show zcode 177 180 = some (11, 181, 0, 0, []) by decide +kernel) h1) ?_
  refine Eq.trans (ev_pi (show zcode 177 181 = some (57, 184, 12, 18, []) by decide +kernel) (so130 hS)) ?_
  refine Eq.trans (ev_ci (show zcode 177 184 = some (0, 185, 0, 1, []) by decide +kernel) (by decide)) ?_
  exact ev_rz (show zcode 177 185 = some (72, 186, 3, 0, []) by decide +kernel) (by decide)
/-! 178: TwoWayWallModel.oneLetter()Z -/
theorem e178 {T : zT} {V : zM}  : zcall 178 [(2, 130)] T V = ev 178 0 [(2, 130)] [] T V := rfl
theorem b178_0 {T : zT} {V : zM}  (hS : zStr T)  : ev 178 0 [(2, 130)] [] T V = (zcall 171 [(2, 130)] T V).bind fun x => ev 178 4 [(2, 130)] (z_push x.1 []) x.2.1 x.2.2 := by
  refine Eq.trans (ev_lda (show zcode 178 0 = some (6, 1, 0, 0, []) by decide +kernel) rfl (by decide)) ?_
  exact ev_cvirt (show zcode 178 1 = some (76, 4, 171, 1, [12]) by decide +kernel) (args := []) (rest := []) rfl (so130 hS) rfl (show 0 ≤ 8 by decide) ⟨by decide, show 1 ≤ 1 by decide⟩
theorem b178_4 {T : zT} {V : zM} {y0 : Int} : ev 178 4 [(2, 130)] [(0, y0)] T V = if y0 = 0 then ev 178 59 [(2, 130)] [] T V else ev 178 7 [(2, 130)] [] T V := by
  exact ev_eq (show zcode 178 4 = some (40, 7, 59, 0, []) by decide +kernel)
theorem b178_7 {T : zT} {V : zM}  (hS : zStr T)  : ev 178 7 [(2, 130)] [] T V = if (V 130 17) ≤ (V 130 18) then ev 178 59 [(2, 130)] [] T V else ev 178 18 [(2, 130)] [] T V := by
  refine Eq.trans (ev_lda (show zcode 178 7 = some (6, 8, 0, 0, []) by decide +kernel) rfl (by decide)) ?_
  refine Eq.trans (ev_gi (show zcode 178 8 = some (55, 11, 12, 18, []) by decide +kernel) (so130 hS)) ?_
  refine Eq.trans (ev_lda (show zcode 178 11 = some (6, 12, 0, 0, []) by decide +kernel) rfl (by decide)) ?_
  refine Eq.trans (ev_gi (show zcode 178 12 = some (55, 15, 12, 17, []) by decide +kernel) (so130 hS)) ?_
  exact ev_cge (show zcode 178 15 = some (49, 18, 59, 0, []) by decide +kernel)
theorem b178_18 {T : zT} {V : zM}  (hS : zStr T)  : ev 178 18 [(2, 130)] [] T V = (zcall 176 [(2, 130)] T V).bind fun x => ev 178 22 [(2, 130)] (z_push x.1 []) x.2.1 x.2.2 := by
  refine Eq.trans (ev_lda (show zcode 178 18 = some (6, 19, 0, 0, []) by decide +kernel) rfl (by decide)) ?_
  exact ev_cvirt (show zcode 178 19 = some (76, 22, 176, 1, [12]) by decide +kernel) (args := []) (rest := []) rfl (so130 hS) rfl (show 0 ≤ 8 by decide) ⟨by decide, show 1 ≤ 3 by decide⟩
theorem b178_22 {T : zT} {V : zM} {y0 : Int} : ev 178 22 [(2, 130)] [(0, y0)] T V = if y0 = 1 then ev 178 26 [(2, 130)] [] T V else ev 178 59 [(2, 130)] [] T V := by
  refine Eq.trans (ev_ci (show zcode 178 22 = some (0, 23, 0, 1, []) by decide +kernel) (by decide)) ?_
  exact ev_cne (show zcode 178 23 = some (47, 26, 59, 0, []) by decide +kernel)
theorem b178_26 {T : zT} {V : zM}  (hS : zStr T) (h1 : (0 : Int) ≤ (V 130 18) ∧ (V 130 18) < 401) (h2 : (0 : Int) ≤ (V 141 (V 130 18)) ∧ (V 141 (V 130 18)) < 400) (h3 : -2147483648 ≤ ((V 137 (V 141 (V 130 18))) - 97) ∧ ((V 137 (V 141 (V 130 18))) - 97) ≤ 2147483647) (h4 : -2147483648 ≤ (((zwr V 130 21 ((V 137 (V 141 (V 130 18))) - 97)) 130 18) + 1) ∧ (((zwr V 130 21 ((V 137 (V 141 (V 130 18))) - 97)) 130 18) + 1) ≤ 2147483647) : ev 178 26 [(2, 130)] [] T V = some ((0, 1), T, (zwr (zwr V 130 21 ((V 137 (V 141 (V 130 18))) - 97)) 130 18 (((zwr V 130 21 ((V 137 (V 141 (V 130 18))) - 97)) 130 18) + 1))) := by
  refine Eq.trans (ev_lda (show zcode 178 26 = some (6, 27, 0, 0, []) by decide +kernel) rfl (by decide)) ?_
  refine Eq.trans (ev_lda (show zcode 178 27 = some (6, 28, 0, 0, []) by decide +kernel) rfl (by decide)) ?_
  refine Eq.trans (ev_gq (show zcode 178 28 = some (56, 31, 12, 10, []) by decide +kernel) (so130 hS) (sp130_10 hS)) ?_
  refine Eq.trans (ev_lda (show zcode 178 31 = some (6, 32, 0, 0, []) by decide +kernel) rfl (by decide)) ?_
  refine Eq.trans (ev_gq (show zcode 178 32 = some (56, 35, 12, 16, []) by decide +kernel) (so130 hS) (sp130_16 hS)) ?_
  refine Eq.trans (ev_lda (show zcode 178 35 = some (6, 36, 0, 0, []) by decide +kernel) rfl (by decide)) ?_
  refine Eq.trans (ev_gi (show zcode 178 36 = some (55, 39, 12, 18, []) by decide +kernel) (so130 hS)) ?_
  refine Eq.trans (ev_ia (show zcode 178 39 = some (60, 40, 0, 0, []) by decide +kernel) (sa141 hS) h1) ?_
  refine Eq.trans (ev_ba (show zcode 178 40 = some (62, 41, 0, 0, []) by decide +kernel) (sa137 hS) h2) ?_
  refine Eq.trans (ev_ci (show zcode 178 41 = some (0, 43, 0, 97, []) by decide +kernel) (by decide)) ?_
  refine Eq.trans (ev_sub (show zcode 178 43 = some (12, 44, 0, 0, []) by decide +kernel) h3) ?_
  refine Eq.trans (ev_pi (show zcode 178 44 = some (57, 47, 12, 21, []) by decide +kernel) (so130 hS)) ?_
  refine Eq.trans (ev_lda (show zcode 178 47 = some (6, 48, 0, 0, []) by decide +kernel) rfl (by decide)) ?_
  refine Eq.trans (ev_dup (show zcode 178 48 = some (36, 49, 0, 0, []) by decide +kernel) (by decide)) ?_
  refine Eq.trans (ev_gi (show zcode 178 49 = some (55, 52, 12, 18, []) by decide +kernel) (so130 hS)) ?_
  refine Eq.trans (ev_ci (show zcode 178 52 = some (0, 53, 0, 1, []) by decide +kernel) (by decide)) ?_
  refine Eq.trans (ev_add (show zcode 178 53 = some (11, 54, 0, 0, []) by decide +kernel) h4) ?_
  refine Eq.trans (ev_pi (show zcode 178 54 = some (57, 57, 12, 18, []) by decide +kernel) (so130 hS)) ?_
  refine Eq.trans (ev_ci (show zcode 178 57 = some (0, 58, 0, 1, []) by decide +kernel) (by decide)) ?_
  exact ev_rz (show zcode 178 58 = some (72, 59, 3, 0, []) by decide +kernel) (by decide)
theorem b178_59 {T : zT} {V : zM}  (hS : zStr T)  : ev 178 59 [(2, 130)] [] T V = (zcall 174 [(2, 130)] T V).bind fun x => ev 178 63 [(2, 130)] (z_push x.1 []) x.2.1 x.2.2 := by
  refine Eq.trans (ev_lda (show zcode 178 59 = some (6, 60, 0, 0, []) by decide +kernel) rfl (by decide)) ?_
  exact ev_cvirt (show zcode 178 60 = some (76, 63, 174, 1, [12]) by decide +kernel) (args := []) (rest := []) rfl (so130 hS) rfl (show 0 ≤ 8 by decide) ⟨by decide, show 1 ≤ 1 by decide⟩
theorem b178_63 {T : zT} {V : zM}  : ev 178 63 [(2, 130)] [] T V = some ((0, 0), T, V) := by
  refine Eq.trans (ev_ci (show zcode 178 63 = some (0, 64, 0, 0, []) by decide +kernel) (by decide)) ?_
  exact ev_rz (show zcode 178 64 = some (72, 65, 3, 0, []) by decide +kernel) (by decide)
/-! 179: TwoWayWallModel.readLetter()V -/
theorem e179 {T : zT} {V : zM}  : zcall 179 [(2, 130)] T V = ev 179 0 [(2, 130), (9, 0), (9, 0), (9, 0), (9, 0)] [] T V := rfl
theorem b179_0 {T : zT} {V : zM}  (hS : zStr T)  : ev 179 0 [(2, 130), (9, 0), (9, 0), (9, 0), (9, 0)] [] T V = (zcall 173 [(2, 130)] T V).bind fun x => ev 179 4 [(2, 130), (9, 0), (9, 0), (9, 0), (9, 0)] (z_push x.1 []) x.2.1 x.2.2 := by
  refine Eq.trans (ev_lda (show zcode 179 0 = some (6, 1, 0, 0, []) by decide +kernel) rfl (by decide)) ?_
  exact ev_cvirt (show zcode 179 1 = some (76, 4, 173, 1, [12]) by decide +kernel) (args := []) (rest := []) rfl (so130 hS) rfl (show 0 ≤ 8 by decide) ⟨by decide, show 1 ≤ 1 by decide⟩
theorem b179_4 {T : zT} {V : zM} {y0 : Int} : ev 179 4 [(2, 130), (9, 0), (9, 0), (9, 0), (9, 0)] [(0, y0)] T V = if y0 = 0 then ev 179 7 [(2, 130), (9, 0), (9, 0), (9, 0), (9, 0)] [] T V else ev 179 8 [(2, 130), (9, 0), (9, 0), (9, 0), (9, 0)] [] T V := by
  exact ev_ne (show zcode 179 4 = some (41, 7, 8, 0, []) by decide +kernel)
theorem b179_7 {T : zT} {V : zM}  : ev 179 7 [(2, 130), (9, 0), (9, 0), (9, 0), (9, 0)] [] T V = some ((9, 0), T, V) := by
  exact ev_rn (show zcode 179 7 = some (73, 8, 0, 0, []) by decide +kernel)
theorem b179_8 {T : zT} {V : zM}  (hS : zStr T)  : ev 179 8 [(2, 130), (9, 0), (9, 0), (9, 0), (9, 0)] [] T V = (zcall 178 [(2, 130)] T V).bind fun x => ev 179 17 [(2, 130), (0, (V 130 21)), (9, 0), (9, 0), (9, 0)] (z_push x.1 []) x.2.1 x.2.2 := by
  refine Eq.trans (ev_lda (show zcode 179 8 = some (6, 9, 0, 0, []) by decide +kernel) rfl (by decide)) ?_
  refine Eq.trans (ev_gi (show zcode 179 9 = some (55, 12, 12, 21, []) by decide +kernel) (so130 hS)) ?_
  refine Eq.trans (ev_sti (show zcode 179 12 = some (7, 13, 1, 0, []) by decide +kernel) ⟨show 1 < 5 by decide, Or.inr (show ¬ (2 : Nat) = 1 by decide)⟩) ?_
  refine Eq.trans (ev_lda (show zcode 179 13 = some (6, 14, 0, 0, []) by decide +kernel) rfl (by decide)) ?_
  exact ev_cvirt (show zcode 179 14 = some (76, 17, 178, 1, [12]) by decide +kernel) (args := []) (rest := []) rfl (so130 hS) rfl (show 0 ≤ 8 by decide) ⟨by decide, show 1 ≤ 1 by decide⟩
theorem b179_17 {T : zT} {V : zM} {x1 : Int} {y0 : Int} : ev 179 17 [(2, 130), (0, x1), (9, 0), (9, 0), (9, 0)] [(0, y0)] T V = if y0 = 0 then ev 179 20 [(2, 130), (0, x1), (9, 0), (9, 0), (9, 0)] [] T V else ev 179 21 [(2, 130), (0, x1), (9, 0), (9, 0), (9, 0)] [] T V := by
  exact ev_ne (show zcode 179 17 = some (41, 20, 21, 0, []) by decide +kernel)
theorem b179_20 {T : zT} {V : zM} {x1 : Int} : ev 179 20 [(2, 130), (0, x1), (9, 0), (9, 0), (9, 0)] [] T V = some ((9, 0), T, V) := by
  exact ev_rn (show zcode 179 20 = some (73, 21, 0, 0, []) by decide +kernel)
theorem b179_21 {T : zT} {V : zM} {x1 : Int} (hS : zStr T) (h1 : -2147483648 ≤ (26 * x1) ∧ (26 * x1) ≤ 2147483647) (h2 : -2147483648 ≤ ((26 * x1) + (V 130 21)) ∧ ((26 * x1) + (V 130 21)) ≤ 2147483647) (h3 : -2147483648 ≤ (3 * ((26 * x1) + (V 130 21))) ∧ (3 * ((26 * x1) + (V 130 21))) ≤ 2147483647) (h4 : -2147483648 ≤ (0 + (3 * ((26 * x1) + (V 130 21)))) ∧ (0 + (3 * ((26 * x1) + (V 130 21)))) ≤ 2147483647) : ev 179 21 [(2, 130), (0, x1), (9, 0), (9, 0), (9, 0)] [] T V = (zcall 177 [(2, 130), (0, 0), (0, 0)] T V).bind fun x => ev 179 41 [(2, 130), (0, x1), (0, (0 + (3 * ((26 * x1) + (V 130 21))))), (9, 0), (9, 0)] (z_push x.1 []) x.2.1 x.2.2 := by
  refine Eq.trans (ev_ci (show zcode 179 21 = some (0, 22, 0, 0, []) by decide +kernel) (by decide)) ?_
  refine Eq.trans (ev_ci (show zcode 179 22 = some (0, 23, 0, 3, []) by decide +kernel) (by decide)) ?_
  refine Eq.trans (ev_ci (show zcode 179 23 = some (0, 25, 0, 26, []) by decide +kernel) (by decide)) ?_
  refine Eq.trans (ev_ldi (show zcode 179 25 = some (4, 26, 1, 0, []) by decide +kernel) rfl) ?_
  refine Eq.trans (ev_mul (show zcode 179 26 = some (13, 27, 0, 0, []) by decide +kernel) h1) ?_
  refine Eq.trans (ev_lda (show zcode 179 27 = some (6, 28, 0, 0, []) by decide +kernel) rfl (by decide)) ?_
  refine Eq.trans (ev_gi (show zcode 179 28 = some (55, 31, 12, 21, []) by decide +kernel) (so130 hS)) ?_
  refine Eq.trans (ev_add (show zcode 179 31 = some (11, 32, 0, 0, []) by decide +kernel) h2) ?_
  refine Eq.trans (ev_mul (show zcode 179 32 = some (13, 33, 0, 0, []) by decide +kernel) h3) ?_
  refine Eq.trans (ev_add (show zcode 179 33 = some (11, 34, 0, 0, []) by decide +kernel) h4) ?_
  refine Eq.trans (ev_sti (show zcode 179 34 = some (7, 35, 2, 0, []) by decide +kernel) ⟨show 2 < 5 by decide, Or.inr (show ¬ (0 : Nat) = 1 by decide)⟩) ?_
  refine Eq.trans (ev_lda (show zcode 179 35 = some (6, 36, 0, 0, []) by decide +kernel) rfl (by decide)) ?_
  refine Eq.trans (ev_ci (show zcode 179 36 = some (0, 37, 0, 0, []) by decide +kernel) (by decide)) ?_
  refine Eq.trans (ev_ci (show zcode 179 37 = some (0, 38, 0, 0, []) by decide +kernel) (by decide)) ?_
  exact ev_cvirt (show zcode 179 38 = some (76, 41, 177, 3, [12]) by decide +kernel) (args := [(0, 0), (0, 0)]) (rest := []) rfl (so130 hS) rfl (show 0 ≤ 8 by decide) ⟨by decide, show 3 ≤ 8 by decide⟩
theorem b179_41 {T : zT} {V : zM} {x1 : Int} {x2 : Int} {y0 : Int} : ev 179 41 [(2, 130), (0, x1), (0, x2), (9, 0), (9, 0)] [(0, y0)] T V = if y0 = 0 then ev 179 44 [(2, 130), (0, x1), (0, x2), (9, 0), (9, 0)] [] T V else ev 179 45 [(2, 130), (0, x1), (0, x2), (9, 0), (9, 0)] [] T V := by
  exact ev_ne (show zcode 179 41 = some (41, 44, 45, 0, []) by decide +kernel)
theorem b179_44 {T : zT} {V : zM} {x1 : Int} {x2 : Int} : ev 179 44 [(2, 130), (0, x1), (0, x2), (9, 0), (9, 0)] [] T V = some ((9, 0), T, V) := by
  exact ev_rn (show zcode 179 44 = some (73, 45, 0, 0, []) by decide +kernel)
theorem b179_45 {T : zT} {V : zM} {x1 : Int} {x2 : Int} (hS : zStr T)  : ev 179 45 [(2, 130), (0, x1), (0, x2), (9, 0), (9, 0)] [] T V = (zcall 170 [(2, 130), (0, 7)] T V).bind fun x => ev 179 59 [(2, 130), (0, x1), (0, x2), (0, (V 130 21)), (0, 0)] (z_push x.1 []) x.2.1 x.2.2 := by
  refine Eq.trans (ev_lda (show zcode 179 45 = some (6, 46, 0, 0, []) by decide +kernel) rfl (by decide)) ?_
  refine Eq.trans (ev_gi (show zcode 179 46 = some (55, 49, 12, 21, []) by decide +kernel) (so130 hS)) ?_
  refine Eq.trans (ev_sti (show zcode 179 49 = some (7, 50, 3, 0, []) by decide +kernel) ⟨show 3 < 5 by decide, Or.inr (show ¬ (0 : Nat) = 1 by decide)⟩) ?_
  refine Eq.trans (ev_ci (show zcode 179 50 = some (0, 51, 0, 0, []) by decide +kernel) (by decide)) ?_
  refine Eq.trans (ev_sti (show zcode 179 51 = some (7, 53, 4, 0, []) by decide +kernel) ⟨show 4 < 5 by decide, Or.inr (show ¬ (0 : Nat) = 1 by decide)⟩) ?_
  refine Eq.trans (ev_lda (show zcode 179 53 = some (6, 54, 0, 0, []) by decide +kernel) rfl (by decide)) ?_
  refine Eq.trans (ev_ci (show zcode 179 54 = some (0, 56, 0, 7, []) by decide +kernel) (by decide)) ?_
  exact ev_cvirt (show zcode 179 56 = some (76, 59, 170, 2, [12]) by decide +kernel) (args := [(0, 7)]) (rest := []) rfl (so130 hS) rfl (show 0 ≤ 8 by decide) ⟨by decide, show 2 ≤ 3 by decide⟩
theorem b179_59 {T : zT} {V : zM} {x1 : Int} {x2 : Int} {x3 : Int} {x4 : Int} {y0 : Int} : ev 179 59 [(2, 130), (0, x1), (0, x2), (0, x3), (0, x4)] [(0, y0)] T V = if y0 = 0 then ev 179 78 [(2, 130), (0, x1), (0, x2), (0, x3), (0, x4)] [] T V else ev 179 62 [(2, 130), (0, x1), (0, x2), (0, x3), (0, x4)] [] T V := by
  exact ev_eq (show zcode 179 59 = some (40, 62, 78, 0, []) by decide +kernel)
theorem b179_62 {T : zT} {V : zM} {x1 : Int} {x2 : Int} {x3 : Int} {x4 : Int} (hS : zStr T)  : ev 179 62 [(2, 130), (0, x1), (0, x2), (0, x3), (0, x4)] [] T V = (zcall 177 [(2, 130), (0, x3), (0, 0)] T V).bind fun x => ev 179 68 [(2, 130), (0, x1), (0, x2), (0, x3), (0, x4)] (z_push x.1 []) x.2.1 x.2.2 := by
  refine Eq.trans (ev_lda (show zcode 179 62 = some (6, 63, 0, 0, []) by decide +kernel) rfl (by decide)) ?_
  refine Eq.trans (ev_ldi (show zcode 179 63 = some (4, 64, 3, 0, []) by decide +kernel) rfl) ?_
  refine Eq.trans (ev_ci (show zcode 179 64 = some (0, 65, 0, 0, []) by decide +kernel) (by decide)) ?_
  exact ev_cvirt (show zcode 179 65 = some (76, 68, 177, 3, [12]) by decide +kernel) (args := [(0, x3), (0, 0)]) (rest := []) rfl (so130 hS) rfl (show 0 ≤ 8 by decide) ⟨by decide, show 3 ≤ 8 by decide⟩
theorem b179_68 {T : zT} {V : zM} {x1 : Int} {x2 : Int} {x3 : Int} {x4 : Int} {y0 : Int} : ev 179 68 [(2, 130), (0, x1), (0, x2), (0, x3), (0, x4)] [(0, y0)] T V = if y0 = 0 then ev 179 71 [(2, 130), (0, x1), (0, x2), (0, x3), (0, x4)] [] T V else ev 179 72 [(2, 130), (0, x1), (0, x2), (0, x3), (0, x4)] [] T V := by
  exact ev_ne (show zcode 179 68 = some (41, 71, 72, 0, []) by decide +kernel)
theorem b179_71 {T : zT} {V : zM} {x1 : Int} {x2 : Int} {x3 : Int} {x4 : Int} : ev 179 71 [(2, 130), (0, x1), (0, x2), (0, x3), (0, x4)] [] T V = some ((9, 0), T, V) := by
  exact ev_rn (show zcode 179 71 = some (73, 72, 0, 0, []) by decide +kernel)
theorem b179_72 {T : zT} {V : zM} {x1 : Int} {x2 : Int} {x3 : Int} {x4 : Int} (hS : zStr T)  : ev 179 72 [(2, 130), (0, x1), (0, x2), (0, x3), (0, x4)] [] T V = ev 179 78 [(2, 130), (0, x1), (0, x2), (0, x3), (0, (V 130 21))] [] T V := by
  refine Eq.trans (ev_lda (show zcode 179 72 = some (6, 73, 0, 0, []) by decide +kernel) rfl (by decide)) ?_
  refine Eq.trans (ev_gi (show zcode 179 73 = some (55, 76, 12, 21, []) by decide +kernel) (so130 hS)) ?_
  exact ev_sti (show zcode 179 76 = some (7, 78, 4, 0, []) by decide +kernel) ⟨show 4 < 5 by decide, Or.inr (show ¬ (0 : Nat) = 1 by decide)⟩
theorem b179_78 {T : zT} {V : zM} {x1 : Int} {x2 : Int} {x3 : Int} {x4 : Int} (hS : zStr T) (h1 : (0 : Int) ≤ x2 ∧ x2 < 300) (h2 : -2147483648 ≤ (x2 + 1) ∧ (x2 + 1) ≤ 2147483647) (h3 : (0 : Int) ≤ (x2 + 1) ∧ (x2 + 1) < 300) (h4 : -2147483648 ≤ (x2 + 2) ∧ (x2 + 2) ≤ 2147483647) (h5 : (0 : Int) ≤ (x2 + 2) ∧ (x2 + 2) < 300) : ev 179 78 [(2, 130), (0, x1), (0, x2), (0, x3), (0, x4)] [] T V = some ((9, 0), T, (zwr (zwr (zwr V 135 x2 1) 135 (x2 + 1) x3) 135 (x2 + 2) x4)) := by
  refine Eq.trans (ev_lda (show zcode 179 78 = some (6, 79, 0, 0, []) by decide +kernel) rfl (by decide)) ?_
  refine Eq.trans (ev_gq (show zcode 179 79 = some (56, 82, 12, 7, []) by decide +kernel) (so130 hS) (sp130_7 hS)) ?_
  refine Eq.trans (ev_ldi (show zcode 179 82 = some (4, 83, 2, 0, []) by decide +kernel) rfl) ?_
  refine Eq.trans (ev_ci (show zcode 179 83 = some (0, 84, 0, 1, []) by decide +kernel) (by decide)) ?_
  refine Eq.trans (ev_is (show zcode 179 84 = some (64, 85, 0, 0, []) by decide +kernel) (sa135 hS) h1) ?_
  refine Eq.trans (ev_lda (show zcode 179 85 = some (6, 86, 0, 0, []) by decide +kernel) rfl (by decide)) ?_
  refine Eq.trans (ev_gq (show zcode 179 86 = some (56, 89, 12, 7, []) by decide +kernel) (so130 hS) (sp130_7 hS)) ?_
  refine Eq.trans (ev_ldi (show zcode 179 89 = some (4, 90, 2, 0, []) by decide +kernel) rfl) ?_
  refine Eq.trans (ev_ci (show zcode 179 90 = some (0, 91, 0, 1, []) by decide +kernel) (by decide)) ?_
  refine Eq.trans (ev_add (show zcode 179 91 = some (11, 92, 0, 0, []) by decide +kernel) h2) ?_
  refine Eq.trans (ev_ldi (show zcode 179 92 = some (4, 93, 3, 0, []) by decide +kernel) rfl) ?_
  refine Eq.trans (ev_is (show zcode 179 93 = some (64, 94, 0, 0, []) by decide +kernel) (sa135 hS) h3) ?_
  refine Eq.trans (ev_lda (show zcode 179 94 = some (6, 95, 0, 0, []) by decide +kernel) rfl (by decide)) ?_
  refine Eq.trans (ev_gq (show zcode 179 95 = some (56, 98, 12, 7, []) by decide +kernel) (so130 hS) (sp130_7 hS)) ?_
  refine Eq.trans (ev_ldi (show zcode 179 98 = some (4, 99, 2, 0, []) by decide +kernel) rfl) ?_
  refine Eq.trans (ev_ci (show zcode 179 99 = some (0, 100, 0, 2, []) by decide +kernel) (by decide)) ?_
  refine Eq.trans (ev_add (show zcode 179 100 = some (11, 101, 0, 0, []) by decide +kernel) h4) ?_
  refine Eq.trans (ev_ldi (show zcode 179 101 = some (4, 103, 4, 0, []) by decide +kernel) rfl) ?_
  refine Eq.trans (ev_is (show zcode 179 103 = some (64, 104, 0, 0, []) by decide +kernel) (sa135 hS) h5) ?_
  exact ev_rn (show zcode 179 104 = some (73, 105, 0, 0, []) by decide +kernel)
/-! 180: TwoWayWallModel.sign(C)I -/
theorem e180 {T : zT} {V : zM} {x0 : Int} : zcall 180 [(0, x0)] T V = ev 180 0 [(0, x0)] [] T V := rfl
theorem b180_0 {T : zT} {V : zM} {x0 : Int} (h1 : -2147483648 ≤ (100 + x0) ∧ (100 + x0) ≤ 2147483647) : ev 180 0 [(0, x0)] [] T V = some ((0, (100 + x0)), T, V) := by
  refine Eq.trans (ev_ci (show zcode 180 0 = some (0, 2, 0, 100, []) by decide +kernel) (by decide)) ?_
  refine Eq.trans (ev_ldi (show zcode 180 2 = some (4, 3, 0, 0, []) by decide +kernel) rfl) ?_
  refine Eq.trans (ev_add (show zcode 180 3 = some (11, 4, 0, 0, []) by decide +kernel) h1) ?_
  exact ev_ri (show zcode 180 4 = some (72, 5, 0, 0, []) by decide +kernel)
/-! 181: TwoWayWallModel.fault()I -/
theorem e181 {T : zT} {V : zM}  : zcall 181 [(2, 130)] T V = ev 181 0 [(2, 130)] [] T V := rfl
theorem b181_0 {T : zT} {V : zM}  (hS : zStr T)  : ev 181 0 [(2, 130)] [] T V = some ((0, (V 130 13)), T, V) := by
  refine Eq.trans (ev_lda (show zcode 181 0 = some (6, 1, 0, 0, []) by decide +kernel) rfl (by decide)) ?_
  refine Eq.trans (ev_gi (show zcode 181 1 = some (55, 4, 12, 13, []) by decide +kernel) (so130 hS)) ?_
  exact ev_ri (show zcode 181 4 = some (72, 5, 0, 0, []) by decide +kernel)
/-! 182: TwoWayWallModel.letter(III)I -/
theorem e182 {T : zT} {V : zM} {x1 : Int} {x2 : Int} {x3 : Int} : zcall 182 [(2, 130), (0, x1), (0, x2), (0, x3)] T V = ev 182 0 [(2, 130), (0, x1), (0, x2), (0, x3)] [] T V := rfl
theorem b182_0 {T : zT} {V : zM} {x1 : Int} {x2 : Int} {x3 : Int} : ev 182 0 [(2, 130), (0, x1), (0, x2), (0, x3)] [] T V = (zcall 183 [(0, x1)] T V).bind fun x => ev 182 4 [(2, 130), (0, x1), (0, x2), (0, x3)] (z_push x.1 []) x.2.1 x.2.2 := by
  refine Eq.trans (ev_ldi (show zcode 182 0 = some (4, 1, 1, 0, []) by decide +kernel) rfl) ?_
  exact ev_cstat (show zcode 182 1 = some (74, 4, 183, 1, []) by decide +kernel) (args := [(0, x1)]) (rest := []) rfl rfl (show 0 ≤ 8 by decide) ⟨by decide, show 1 ≤ 1 by decide⟩
theorem b182_4 {T : zT} {V : zM} {x1 : Int} {x2 : Int} {x3 : Int} {y0 : Int} : ev 182 4 [(2, 130), (0, x1), (0, x2), (0, x3)] [(0, y0)] T V = if y0 = 0 then ev 182 33 [(2, 130), (0, x1), (0, x2), (0, x3)] [] T V else ev 182 7 [(2, 130), (0, x1), (0, x2), (0, x3)] [] T V := by
  exact ev_eq (show zcode 182 4 = some (40, 7, 33, 0, []) by decide +kernel)
theorem b182_7 {T : zT} {V : zM} {x1 : Int} {x2 : Int} {x3 : Int} : ev 182 7 [(2, 130), (0, x1), (0, x2), (0, x3)] [] T V = (zcall 184 [(0, x2)] T V).bind fun x => ev 182 11 [(2, 130), (0, x1), (0, x2), (0, x3)] (z_push x.1 []) x.2.1 x.2.2 := by
  refine Eq.trans (ev_ldi (show zcode 182 7 = some (4, 8, 2, 0, []) by decide +kernel) rfl) ?_
  exact ev_cstat (show zcode 182 8 = some (74, 11, 184, 1, []) by decide +kernel) (args := [(0, x2)]) (rest := []) rfl rfl (show 0 ≤ 8 by decide) ⟨by decide, show 1 ≤ 1 by decide⟩
theorem b182_11 {T : zT} {V : zM} {x1 : Int} {x2 : Int} {x3 : Int} {y0 : Int} : ev 182 11 [(2, 130), (0, x1), (0, x2), (0, x3)] [(0, y0)] T V = if y0 = 0 then ev 182 33 [(2, 130), (0, x1), (0, x2), (0, x3)] [] T V else ev 182 14 [(2, 130), (0, x1), (0, x2), (0, x3)] [] T V := by
  exact ev_eq (show zcode 182 11 = some (40, 14, 33, 0, []) by decide +kernel)
theorem b182_14 {T : zT} {V : zM} {x1 : Int} {x2 : Int} {x3 : Int} : ev 182 14 [(2, 130), (0, x1), (0, x2), (0, x3)] [] T V = (zcall 150 [(0, x3), (0, 0), (0, 1)] T V).bind fun x => ev 182 20 [(2, 130), (0, x1), (0, x2), (0, x3)] (z_push x.1 []) x.2.1 x.2.2 := by
  refine Eq.trans (ev_ldi (show zcode 182 14 = some (4, 15, 3, 0, []) by decide +kernel) rfl) ?_
  refine Eq.trans (ev_ci (show zcode 182 15 = some (0, 16, 0, 0, []) by decide +kernel) (by decide)) ?_
  refine Eq.trans (ev_ci (show zcode 182 16 = some (0, 17, 0, 1, []) by decide +kernel) (by decide)) ?_
  exact ev_cstat (show zcode 182 17 = some (74, 20, 150, 3, []) by decide +kernel) (args := [(0, x3), (0, 0), (0, 1)]) (rest := []) rfl rfl (show 0 ≤ 8 by decide) ⟨by decide, show 3 ≤ 3 by decide⟩
theorem b182_20 {T : zT} {V : zM} {x1 : Int} {x2 : Int} {x3 : Int} {y0 : Int} : ev 182 20 [(2, 130), (0, x1), (0, x2), (0, x3)] [(0, y0)] T V = if y0 = 0 then ev 182 33 [(2, 130), (0, x1), (0, x2), (0, x3)] [] T V else ev 182 23 [(2, 130), (0, x1), (0, x2), (0, x3)] [] T V := by
  exact ev_eq (show zcode 182 20 = some (40, 23, 33, 0, []) by decide +kernel)
theorem b182_23 {T : zT} {V : zM} {x1 : Int} {x2 : Int} {x3 : Int} (hS : zStr T)  : ev 182 23 [(2, 130), (0, x1), (0, x2), (0, x3)] [] T V = (zcall 185 [(2, 130), (0, x1), (0, x2), (0, 0)] T V).bind fun x => ev 182 30 [(2, 130), (0, x1), (0, x2), (0, x3)] (z_push x.1 []) x.2.1 x.2.2 := by
  refine Eq.trans (ev_lda (show zcode 182 23 = some (6, 24, 0, 0, []) by decide +kernel) rfl (by decide)) ?_
  refine Eq.trans (ev_ldi (show zcode 182 24 = some (4, 25, 1, 0, []) by decide +kernel) rfl) ?_
  refine Eq.trans (ev_ldi (show zcode 182 25 = some (4, 26, 2, 0, []) by decide +kernel) rfl) ?_
  refine Eq.trans (ev_ci (show zcode 182 26 = some (0, 27, 0, 0, []) by decide +kernel) (by decide)) ?_
  exact ev_cvirt (show zcode 182 27 = some (76, 30, 185, 4, [12]) by decide +kernel) (args := [(0, x1), (0, x2), (0, 0)]) (rest := []) rfl (so130 hS) rfl (show 0 ≤ 8 by decide) ⟨by decide, show 4 ≤ 4 by decide⟩
theorem b182_30 {T : zT} {V : zM} {x1 : Int} {x2 : Int} {x3 : Int} {y0 : Int} : ev 182 30 [(2, 130), (0, x1), (0, x2), (0, x3)] [(0, y0)] T V = if y0 = 0 then ev 182 33 [(2, 130), (0, x1), (0, x2), (0, x3)] [] T V else ev 182 35 [(2, 130), (0, x1), (0, x2), (0, x3)] [] T V := by
  exact ev_ne (show zcode 182 30 = some (41, 33, 35, 0, []) by decide +kernel)
theorem b182_33 {T : zT} {V : zM} {x1 : Int} {x2 : Int} {x3 : Int} : ev 182 33 [(2, 130), (0, x1), (0, x2), (0, x3)] [] T V = some ((0, (-1)), T, V) := by
  refine Eq.trans (ev_ci (show zcode 182 33 = some (0, 34, 0, (-1), []) by decide +kernel) (by decide)) ?_
  exact ev_ri (show zcode 182 34 = some (72, 35, 0, 0, []) by decide +kernel)
theorem b182_35 {T : zT} {V : zM} {x1 : Int} {x2 : Int} {x3 : Int} (hS : zStr T) (h1 : -2147483648 ≤ (1 + x3) ∧ (1 + x3) ≤ 2147483647) : ev 182 35 [(2, 130), (0, x1), (0, x2), (0, x3)] [] T V = (zcall 185 [(2, 130), (0, x1), (0, x2), (0, (1 + x3))] T V).bind fun x => ev 182 44 [(2, 130), (0, x1), (0, x2), (0, x3)] (z_push x.1 []) x.2.1 x.2.2 := by
  refine Eq.trans (ev_lda (show zcode 182 35 = some (6, 36, 0, 0, []) by decide +kernel) rfl (by decide)) ?_
  refine Eq.trans (ev_ldi (show zcode 182 36 = some (4, 37, 1, 0, []) by decide +kernel) rfl) ?_
  refine Eq.trans (ev_ldi (show zcode 182 37 = some (4, 38, 2, 0, []) by decide +kernel) rfl) ?_
  refine Eq.trans (ev_ci (show zcode 182 38 = some (0, 39, 0, 1, []) by decide +kernel) (by decide)) ?_
  refine Eq.trans (ev_ldi (show zcode 182 39 = some (4, 40, 3, 0, []) by decide +kernel) rfl) ?_
  refine Eq.trans (ev_add (show zcode 182 40 = some (11, 41, 0, 0, []) by decide +kernel) h1) ?_
  exact ev_cvirt (show zcode 182 41 = some (76, 44, 185, 4, [12]) by decide +kernel) (args := [(0, x1), (0, x2), (0, (1 + x3))]) (rest := []) rfl (so130 hS) rfl (show 0 ≤ 8 by decide) ⟨by decide, show 4 ≤ 4 by decide⟩
theorem b182_44 {T : zT} {V : zM} {x1 : Int} {x2 : Int} {x3 : Int} {y0 : Int} : ev 182 44 [(2, 130), (0, x1), (0, x2), (0, x3)] [(0, y0)] T V = some ((0, y0), T, V) := by
  exact ev_ri (show zcode 182 44 = some (72, 45, 0, 0, []) by decide +kernel)
/-! 183: TwoWayWallModel.isTongue(I)Z -/
theorem e183 {T : zT} {V : zM} {x0 : Int} : zcall 183 [(0, x0)] T V = ev 183 0 [(0, x0)] [] T V := rfl
theorem b183_0 {T : zT} {V : zM} {x0 : Int} : ev 183 0 [(0, x0)] [] T V = (zcall 150 [(0, x0), (0, 0), (0, 1)] T V).bind fun x => ev 183 6 [(0, x0)] (z_push x.1 []) x.2.1 x.2.2 := by
  refine Eq.trans (ev_ldi (show zcode 183 0 = some (4, 1, 0, 0, []) by decide +kernel) rfl) ?_
  refine Eq.trans (ev_ci (show zcode 183 1 = some (0, 2, 0, 0, []) by decide +kernel) (by decide)) ?_
  refine Eq.trans (ev_ci (show zcode 183 2 = some (0, 3, 0, 1, []) by decide +kernel) (by decide)) ?_
  exact ev_cstat (show zcode 183 3 = some (74, 6, 150, 3, []) by decide +kernel) (args := [(0, x0), (0, 0), (0, 1)]) (rest := []) rfl rfl (show 0 ≤ 8 by decide) ⟨by decide, show 3 ≤ 3 by decide⟩
theorem b183_6 {T : zT} {V : zM} {x0 : Int} {y0 : Int} (h1 : (0 : Int) ≤ y0 ∧ y0 ≤ 1) : ev 183 6 [(0, x0)] [(0, y0)] T V = some ((0, y0), T, V) := by
  exact ev_rz (show zcode 183 6 = some (72, 7, 3, 0, []) by decide +kernel) h1
/-! 184: TwoWayWallModel.isLetter(I)Z -/
theorem e184 {T : zT} {V : zM} {x0 : Int} : zcall 184 [(0, x0)] T V = ev 184 0 [(0, x0)] [] T V := rfl
theorem b184_0 {T : zT} {V : zM} {x0 : Int} : ev 184 0 [(0, x0)] [] T V = (zcall 150 [(0, x0), (0, 0), (0, 25)] T V).bind fun x => ev 184 7 [(0, x0)] (z_push x.1 []) x.2.1 x.2.2 := by
  refine Eq.trans (ev_ldi (show zcode 184 0 = some (4, 1, 0, 0, []) by decide +kernel) rfl) ?_
  refine Eq.trans (ev_ci (show zcode 184 1 = some (0, 2, 0, 0, []) by decide +kernel) (by decide)) ?_
  refine Eq.trans (ev_ci (show zcode 184 2 = some (0, 4, 0, 25, []) by decide +kernel) (by decide)) ?_
  exact ev_cstat (show zcode 184 4 = some (74, 7, 150, 3, []) by decide +kernel) (args := [(0, x0), (0, 0), (0, 25)]) (rest := []) rfl rfl (show 0 ≤ 8 by decide) ⟨by decide, show 3 ≤ 3 by decide⟩
theorem b184_7 {T : zT} {V : zM} {x0 : Int} {y0 : Int} (h1 : (0 : Int) ≤ y0 ∧ y0 ≤ 1) : ev 184 7 [(0, x0)] [(0, y0)] T V = some ((0, y0), T, V) := by
  exact ev_rz (show zcode 184 7 = some (72, 8, 3, 0, []) by decide +kernel) h1
/-! 185: TwoWayWallModel.letterOf(III)I -/
theorem e185 {T : zT} {V : zM} {x1 : Int} {x2 : Int} {x3 : Int} : zcall 185 [(2, 130), (0, x1), (0, x2), (0, x3)] T V = ev 185 0 [(2, 130), (0, x1), (0, x2), (0, x3)] [] T V := rfl
theorem b185_0 {T : zT} {V : zM} {x1 : Int} {x2 : Int} {x3 : Int} (hS : zStr T) (h1 : -2147483648 ≤ (26 * x1) ∧ (26 * x1) ≤ 2147483647) (h2 : -2147483648 ≤ ((26 * x1) + x2) ∧ ((26 * x1) + x2) ≤ 2147483647) (h3 : -2147483648 ≤ (3 * ((26 * x1) + x2)) ∧ (3 * ((26 * x1) + x2)) ≤ 2147483647) (h4 : -2147483648 ≤ (0 + (3 * ((26 * x1) + x2))) ∧ (0 + (3 * ((26 * x1) + x2))) ≤ 2147483647) (h5 : -2147483648 ≤ ((0 + (3 * ((26 * x1) + x2))) + x3) ∧ ((0 + (3 * ((26 * x1) + x2))) + x3) ≤ 2147483647) (h6 : (0 : Int) ≤ ((0 + (3 * ((26 * x1) + x2))) + x3) ∧ ((0 + (3 * ((26 * x1) + x2))) + x3) < 428) : ev 185 0 [(2, 130), (0, x1), (0, x2), (0, x3)] [] T V = some ((0, (V 132 ((0 + (3 * ((26 * x1) + x2))) + x3))), T, V) := by
  refine Eq.trans (ev_lda (show zcode 185 0 = some (6, 1, 0, 0, []) by decide +kernel) rfl (by decide)) ?_
  refine Eq.trans (ev_gq (show zcode 185 1 = some (56, 4, 12, 4, []) by decide +kernel) (so130 hS) (sp130_4 hS)) ?_
  refine Eq.trans (ev_ci (show zcode 185 4 = some (0, 5, 0, 0, []) by decide +kernel) (by decide)) ?_
  refine Eq.trans (ev_ci (show zcode 185 5 = some (0, 6, 0, 3, []) by decide +kernel) (by decide)) ?_
  refine Eq.trans (ev_ci (show zcode 185 6 = some (0, 8, 0, 26, []) by decide +kernel) (by decide)) ?_
  refine Eq.trans (ev_ldi (show zcode 185 8 = some (4, 9, 1, 0, []) by decide +kernel) rfl) ?_
  refine Eq.trans (ev_mul (show zcode 185 9 = some (13, 10, 0, 0, []) by decide +kernel) h1) ?_
  refine Eq.trans (ev_ldi (show zcode 185 10 = some (4, 11, 2, 0, []) by decide +kernel) rfl) ?_
  refine Eq.trans (ev_add (show zcode 185 11 = some (11, 12, 0, 0, []) by decide +kernel) h2) ?_
  refine Eq.trans (ev_mul (show zcode 185 12 = some (13, 13, 0, 0, []) by decide +kernel) h3) ?_
  refine Eq.trans (ev_add (show zcode 185 13 = some (11, 14, 0, 0, []) by decide +kernel) h4) ?_
  refine Eq.trans (ev_ldi (show zcode 185 14 = some (4, 15, 3, 0, []) by decide +kernel) rfl) ?_
  refine Eq.trans (ev_add (show zcode 185 15 = some (11, 16, 0, 0, []) by decide +kernel) h5) ?_
  refine Eq.trans (ev_ia (show zcode 185 16 = some (60, 17, 0, 0, []) by decide +kernel) (sa132 hS) h6) ?_
  exact ev_ri (show zcode 185 17 = some (72, 18, 0, 0, []) by decide +kernel)
/-! 186: TwoWayWallModel.word(III)I -/
theorem e186 {T : zT} {V : zM} {x1 : Int} {x2 : Int} {x3 : Int} : zcall 186 [(2, 130), (0, x1), (0, x2), (0, x3)] T V = ev 186 0 [(2, 130), (0, x1), (0, x2), (0, x3)] [] T V := rfl
theorem b186_0 {T : zT} {V : zM} {x1 : Int} {x2 : Int} {x3 : Int} : ev 186 0 [(2, 130), (0, x1), (0, x2), (0, x3)] [] T V = (zcall 183 [(0, x1)] T V).bind fun x => ev 186 4 [(2, 130), (0, x1), (0, x2), (0, x3)] (z_push x.1 []) x.2.1 x.2.2 := by
  refine Eq.trans (ev_ldi (show zcode 186 0 = some (4, 1, 1, 0, []) by decide +kernel) rfl) ?_
  exact ev_cstat (show zcode 186 1 = some (74, 4, 183, 1, []) by decide +kernel) (args := [(0, x1)]) (rest := []) rfl rfl (show 0 ≤ 8 by decide) ⟨by decide, show 1 ≤ 1 by decide⟩
theorem b186_4 {T : zT} {V : zM} {x1 : Int} {x2 : Int} {x3 : Int} {y0 : Int} : ev 186 4 [(2, 130), (0, x1), (0, x2), (0, x3)] [(0, y0)] T V = if y0 = 0 then ev 186 37 [(2, 130), (0, x1), (0, x2), (0, x3)] [] T V else ev 186 7 [(2, 130), (0, x1), (0, x2), (0, x3)] [] T V := by
  exact ev_eq (show zcode 186 4 = some (40, 7, 37, 0, []) by decide +kernel)
theorem b186_7 {T : zT} {V : zM} {x1 : Int} {x2 : Int} {x3 : Int} (hS : zStr T) (h1 : -2147483648 ≤ (284 + x1) ∧ (284 + x1) ≤ 2147483647) (h2 : (0 : Int) ≤ (284 + x1) ∧ (284 + x1) < 428) (h3 : -2147483648 ≤ ((V 132 (284 + x1)) - 1) ∧ ((V 132 (284 + x1)) - 1) ≤ 2147483647) : ev 186 7 [(2, 130), (0, x1), (0, x2), (0, x3)] [] T V = (zcall 150 [(0, x2), (0, 0), (0, ((V 132 (284 + x1)) - 1))] T V).bind fun x => ev 186 24 [(2, 130), (0, x1), (0, x2), (0, x3)] (z_push x.1 []) x.2.1 x.2.2 := by
  refine Eq.trans (ev_ldi (show zcode 186 7 = some (4, 8, 2, 0, []) by decide +kernel) rfl) ?_
  refine Eq.trans (ev_ci (show zcode 186 8 = some (0, 9, 0, 0, []) by decide +kernel) (by decide)) ?_
  refine Eq.trans (ev_lda (show zcode 186 9 = some (6, 10, 0, 0, []) by decide +kernel) rfl (by decide)) ?_
  refine Eq.trans (ev_gq (show zcode 186 10 = some (56, 13, 12, 4, []) by decide +kernel) (so130 hS) (sp130_4 hS)) ?_
  refine Eq.trans (ev_ci (show zcode 186 13 = some (0, 16, 0, 284, []) by decide +kernel) (by decide)) ?_
  refine Eq.trans (ev_ldi (show zcode 186 16 = some (4, 17, 1, 0, []) by decide +kernel) rfl) ?_
  refine Eq.trans (ev_add (show zcode 186 17 = some (11, 18, 0, 0, []) by decide +kernel) h1) ?_
  refine Eq.trans (ev_ia (show zcode 186 18 = some (60, 19, 0, 0, []) by decide +kernel) (sa132 hS) h2) ?_
  refine Eq.trans (ev_ci (show zcode 186 19 = some (0, 20, 0, 1, []) by decide +kernel) (by decide)) ?_
  refine Eq.trans (ev_sub (show zcode 186 20 = some (12, 21, 0, 0, []) by decide +kernel) h3) ?_
  exact ev_cstat (show zcode 186 21 = some (74, 24, 150, 3, []) by decide +kernel) (args := [(0, x2), (0, 0), (0, ((V 132 (284 + x1)) - 1))]) (rest := []) rfl rfl (show 0 ≤ 8 by decide) ⟨by decide, show 3 ≤ 3 by decide⟩
theorem b186_24 {T : zT} {V : zM} {x1 : Int} {x2 : Int} {x3 : Int} {y0 : Int} : ev 186 24 [(2, 130), (0, x1), (0, x2), (0, x3)] [(0, y0)] T V = if y0 = 0 then ev 186 37 [(2, 130), (0, x1), (0, x2), (0, x3)] [] T V else ev 186 27 [(2, 130), (0, x1), (0, x2), (0, x3)] [] T V := by
  exact ev_eq (show zcode 186 24 = some (40, 27, 37, 0, []) by decide +kernel)
theorem b186_27 {T : zT} {V : zM} {x1 : Int} {x2 : Int} {x3 : Int} : ev 186 27 [(2, 130), (0, x1), (0, x2), (0, x3)] [] T V = (zcall 150 [(0, x3), (0, 0), (0, 7)] T V).bind fun x => ev 186 34 [(2, 130), (0, x1), (0, x2), (0, x3)] (z_push x.1 []) x.2.1 x.2.2 := by
  refine Eq.trans (ev_ldi (show zcode 186 27 = some (4, 28, 3, 0, []) by decide +kernel) rfl) ?_
  refine Eq.trans (ev_ci (show zcode 186 28 = some (0, 29, 0, 0, []) by decide +kernel) (by decide)) ?_
  refine Eq.trans (ev_ci (show zcode 186 29 = some (0, 31, 0, 7, []) by decide +kernel) (by decide)) ?_
  exact ev_cstat (show zcode 186 31 = some (74, 34, 150, 3, []) by decide +kernel) (args := [(0, x3), (0, 0), (0, 7)]) (rest := []) rfl rfl (show 0 ≤ 8 by decide) ⟨by decide, show 3 ≤ 3 by decide⟩
theorem b186_34 {T : zT} {V : zM} {x1 : Int} {x2 : Int} {x3 : Int} {y0 : Int} : ev 186 34 [(2, 130), (0, x1), (0, x2), (0, x3)] [(0, y0)] T V = if y0 = 0 then ev 186 37 [(2, 130), (0, x1), (0, x2), (0, x3)] [] T V else ev 186 39 [(2, 130), (0, x1), (0, x2), (0, x3)] [] T V := by
  exact ev_ne (show zcode 186 34 = some (41, 37, 39, 0, []) by decide +kernel)
theorem b186_37 {T : zT} {V : zM} {x1 : Int} {x2 : Int} {x3 : Int} : ev 186 37 [(2, 130), (0, x1), (0, x2), (0, x3)] [] T V = some ((0, (-1)), T, V) := by
  refine Eq.trans (ev_ci (show zcode 186 37 = some (0, 38, 0, (-1), []) by decide +kernel) (by decide)) ?_
  exact ev_ri (show zcode 186 38 = some (72, 39, 0, 0, []) by decide +kernel)
theorem b186_39 {T : zT} {V : zM} {x1 : Int} {x2 : Int} {x3 : Int} : ev 186 39 [(2, 130), (0, x1), (0, x2), (0, x3)] [] T V = if x3 < 2 then ev 186 57 [(2, 130), (0, x1), (0, x2), (0, x3)] [] T V else ev 186 44 [(2, 130), (0, x1), (0, x2), (0, x3)] [] T V := by
  refine Eq.trans (ev_ldi (show zcode 186 39 = some (4, 40, 3, 0, []) by decide +kernel) rfl) ?_
  refine Eq.trans (ev_ci (show zcode 186 40 = some (0, 41, 0, 2, []) by decide +kernel) (by decide)) ?_
  exact ev_clt (show zcode 186 41 = some (48, 44, 57, 0, []) by decide +kernel)
theorem b186_44 {T : zT} {V : zM} {x1 : Int} {x2 : Int} {x3 : Int} (hS : zStr T) (h1 : -2147483648 ≤ (x3 - 2) ∧ (x3 - 2) ≤ 2147483647) : ev 186 44 [(2, 130), (0, x1), (0, x2), (0, x3)] [] T V = (zcall 187 [(2, 130), (0, x1), (0, x2), (0, 1)] T V).bind fun x => ev 186 54 [(2, 130), (0, x1), (0, x2), (0, x3)] (z_push x.1 [(0, (x3 - 2))]) x.2.1 x.2.2 := by
  refine Eq.trans (ev_ldi (show zcode 186 44 = some (4, 45, 3, 0, []) by decide +kernel) rfl) ?_
  refine Eq.trans (ev_ci (show zcode 186 45 = some (0, 46, 0, 2, []) by decide +kernel) (by decide)) ?_
  refine Eq.trans (ev_sub (show zcode 186 46 = some (12, 47, 0, 0, []) by decide +kernel) h1) ?_
  refine Eq.trans (ev_lda (show zcode 186 47 = some (6, 48, 0, 0, []) by decide +kernel) rfl (by decide)) ?_
  refine Eq.trans (ev_ldi (show zcode 186 48 = some (4, 49, 1, 0, []) by decide +kernel) rfl) ?_
  refine Eq.trans (ev_ldi (show zcode 186 49 = some (4, 50, 2, 0, []) by decide +kernel) rfl) ?_
  refine Eq.trans (ev_ci (show zcode 186 50 = some (0, 51, 0, 1, []) by decide +kernel) (by decide)) ?_
  exact ev_cvirt (show zcode 186 51 = some (76, 54, 187, 4, [12]) by decide +kernel) (args := [(0, x1), (0, x2), (0, 1)]) (rest := [(0, (x3 - 2))]) rfl (so130 hS) rfl (show 1 ≤ 8 by decide) ⟨by decide, show 4 ≤ 4 by decide⟩
theorem b186_54 {T : zT} {V : zM} {x1 : Int} {x2 : Int} {x3 : Int} {y0 : Int} {y1 : Int} : ev 186 54 [(2, 130), (0, x1), (0, x2), (0, x3)] [(0, y1), (0, y0)] T V = if y1 ≤ y0 then ev 186 67 [(2, 130), (0, x1), (0, x2), (0, x3)] [] T V else ev 186 57 [(2, 130), (0, x1), (0, x2), (0, x3)] [] T V := by
  exact ev_cge (show zcode 186 54 = some (49, 57, 67, 0, []) by decide +kernel)
theorem b186_57 {T : zT} {V : zM} {x1 : Int} {x2 : Int} {x3 : Int} (hS : zStr T)  : ev 186 57 [(2, 130), (0, x1), (0, x2), (0, x3)] [] T V = (zcall 187 [(2, 130), (0, x1), (0, x2), (0, x3)] T V).bind fun x => ev 186 64 [(2, 130), (0, x1), (0, x2), (0, x3)] (z_push x.1 []) x.2.1 x.2.2 := by
  refine Eq.trans (ev_lda (show zcode 186 57 = some (6, 58, 0, 0, []) by decide +kernel) rfl (by decide)) ?_
  refine Eq.trans (ev_ldi (show zcode 186 58 = some (4, 59, 1, 0, []) by decide +kernel) rfl) ?_
  refine Eq.trans (ev_ldi (show zcode 186 59 = some (4, 60, 2, 0, []) by decide +kernel) rfl) ?_
  refine Eq.trans (ev_ldi (show zcode 186 60 = some (4, 61, 3, 0, []) by decide +kernel) rfl) ?_
  exact ev_cvirt (show zcode 186 61 = some (76, 64, 187, 4, [12]) by decide +kernel) (args := [(0, x1), (0, x2), (0, x3)]) (rest := []) rfl (so130 hS) rfl (show 0 ≤ 8 by decide) ⟨by decide, show 4 ≤ 4 by decide⟩
theorem b186_64 {T : zT} {V : zM} {x1 : Int} {x2 : Int} {x3 : Int} {y0 : Int} : ev 186 64 [(2, 130), (0, x1), (0, x2), (0, x3)] [(0, y0)] T V = ev 186 68 [(2, 130), (0, x1), (0, x2), (0, x3)] [(0, y0)] T V := by
  exact ev_goto (show zcode 186 64 = some (53, 67, 68, 0, []) by decide +kernel)
theorem b186_67 {T : zT} {V : zM} {x1 : Int} {x2 : Int} {x3 : Int} : ev 186 67 [(2, 130), (0, x1), (0, x2), (0, x3)] [] T V = ev 186 68 [(2, 130), (0, x1), (0, x2), (0, x3)] [(0, (-1))] T V := by
  exact ev_ci (show zcode 186 67 = some (0, 68, 0, (-1), []) by decide +kernel) (by decide)
theorem b186_68 {T : zT} {V : zM} {x1 : Int} {x2 : Int} {x3 : Int} {y0 : Int} : ev 186 68 [(2, 130), (0, x1), (0, x2), (0, x3)] [(0, y0)] T V = some ((0, y0), T, V) := by
  exact ev_ri (show zcode 186 68 = some (72, 69, 0, 0, []) by decide +kernel)
/-! 187: TwoWayWallModel.wordOf(III)I -/
theorem e187 {T : zT} {V : zM} {x1 : Int} {x2 : Int} {x3 : Int} : zcall 187 [(2, 130), (0, x1), (0, x2), (0, x3)] T V = ev 187 0 [(2, 130), (0, x1), (0, x2), (0, x3)] [] T V := rfl
theorem b187_0 {T : zT} {V : zM} {x1 : Int} {x2 : Int} {x3 : Int} (hS : zStr T) (h1 : -2147483648 ≤ (8 * x1) ∧ (8 * x1) ≤ 2147483647) (h2 : -2147483648 ≤ ((8 * x1) + x2) ∧ ((8 * x1) + x2) ≤ 2147483647) (h3 : -2147483648 ≤ (8 * ((8 * x1) + x2)) ∧ (8 * ((8 * x1) + x2)) ≤ 2147483647) (h4 : -2147483648 ≤ (156 + (8 * ((8 * x1) + x2))) ∧ (156 + (8 * ((8 * x1) + x2))) ≤ 2147483647) (h5 : -2147483648 ≤ ((156 + (8 * ((8 * x1) + x2))) + x3) ∧ ((156 + (8 * ((8 * x1) + x2))) + x3) ≤ 2147483647) (h6 : (0 : Int) ≤ ((156 + (8 * ((8 * x1) + x2))) + x3) ∧ ((156 + (8 * ((8 * x1) + x2))) + x3) < 428) : ev 187 0 [(2, 130), (0, x1), (0, x2), (0, x3)] [] T V = some ((0, (V 132 ((156 + (8 * ((8 * x1) + x2))) + x3))), T, V) := by
  refine Eq.trans (ev_lda (show zcode 187 0 = some (6, 1, 0, 0, []) by decide +kernel) rfl (by decide)) ?_
  refine Eq.trans (ev_gq (show zcode 187 1 = some (56, 4, 12, 4, []) by decide +kernel) (so130 hS) (sp130_4 hS)) ?_
  refine Eq.trans (ev_ci (show zcode 187 4 = some (0, 7, 0, 156, []) by decide +kernel) (by decide)) ?_
  refine Eq.trans (ev_ci (show zcode 187 7 = some (0, 9, 0, 8, []) by decide +kernel) (by decide)) ?_
  refine Eq.trans (ev_ci (show zcode 187 9 = some (0, 11, 0, 8, []) by decide +kernel) (by decide)) ?_
  refine Eq.trans (ev_ldi (show zcode 187 11 = some (4, 12, 1, 0, []) by decide +kernel) rfl) ?_
  refine Eq.trans (ev_mul (show zcode 187 12 = some (13, 13, 0, 0, []) by decide +kernel) h1) ?_
  refine Eq.trans (ev_ldi (show zcode 187 13 = some (4, 14, 2, 0, []) by decide +kernel) rfl) ?_
  refine Eq.trans (ev_add (show zcode 187 14 = some (11, 15, 0, 0, []) by decide +kernel) h2) ?_
  refine Eq.trans (ev_mul (show zcode 187 15 = some (13, 16, 0, 0, []) by decide +kernel) h3) ?_
  refine Eq.trans (ev_add (show zcode 187 16 = some (11, 17, 0, 0, []) by decide +kernel) h4) ?_
  refine Eq.trans (ev_ldi (show zcode 187 17 = some (4, 18, 3, 0, []) by decide +kernel) rfl) ?_
  refine Eq.trans (ev_add (show zcode 187 18 = some (11, 19, 0, 0, []) by decide +kernel) h5) ?_
  refine Eq.trans (ev_ia (show zcode 187 19 = some (60, 20, 0, 0, []) by decide +kernel) (sa132 hS) h6) ?_
  exact ev_ri (show zcode 187 20 = some (72, 21, 0, 0, []) by decide +kernel)
/-! 188: TwoWayWallModel.reads(II)I -/
theorem e188 {T : zT} {V : zM} {x1 : Int} {x2 : Int} : zcall 188 [(2, 130), (0, x1), (0, x2)] T V = ev 188 0 [(2, 130), (0, x1), (0, x2)] [] T V := rfl
theorem b188_0 {T : zT} {V : zM} {x1 : Int} {x2 : Int} : ev 188 0 [(2, 130), (0, x1), (0, x2)] [] T V = (zcall 183 [(0, x1)] T V).bind fun x => ev 188 4 [(2, 130), (0, x1), (0, x2)] (z_push x.1 []) x.2.1 x.2.2 := by
  refine Eq.trans (ev_ldi (show zcode 188 0 = some (4, 1, 1, 0, []) by decide +kernel) rfl) ?_
  exact ev_cstat (show zcode 188 1 = some (74, 4, 183, 1, []) by decide +kernel) (args := [(0, x1)]) (rest := []) rfl rfl (show 0 ≤ 8 by decide) ⟨by decide, show 1 ≤ 1 by decide⟩
theorem b188_4 {T : zT} {V : zM} {x1 : Int} {x2 : Int} {y0 : Int} : ev 188 4 [(2, 130), (0, x1), (0, x2)] [(0, y0)] T V = if y0 = 0 then ev 188 29 [(2, 130), (0, x1), (0, x2)] [] T V else ev 188 7 [(2, 130), (0, x1), (0, x2)] [] T V := by
  exact ev_eq (show zcode 188 4 = some (40, 7, 29, 0, []) by decide +kernel)
theorem b188_7 {T : zT} {V : zM} {x1 : Int} {x2 : Int} : ev 188 7 [(2, 130), (0, x1), (0, x2)] [] T V = (zcall 150 [(0, x2), (0, 0), (0, 127)] T V).bind fun x => ev 188 14 [(2, 130), (0, x1), (0, x2)] (z_push x.1 []) x.2.1 x.2.2 := by
  refine Eq.trans (ev_ldi (show zcode 188 7 = some (4, 8, 2, 0, []) by decide +kernel) rfl) ?_
  refine Eq.trans (ev_ci (show zcode 188 8 = some (0, 9, 0, 0, []) by decide +kernel) (by decide)) ?_
  refine Eq.trans (ev_ci (show zcode 188 9 = some (0, 11, 0, 127, []) by decide +kernel) (by decide)) ?_
  exact ev_cstat (show zcode 188 11 = some (74, 14, 150, 3, []) by decide +kernel) (args := [(0, x2), (0, 0), (0, 127)]) (rest := []) rfl rfl (show 0 ≤ 8 by decide) ⟨by decide, show 3 ≤ 3 by decide⟩
theorem b188_14 {T : zT} {V : zM} {x1 : Int} {x2 : Int} {y0 : Int} : ev 188 14 [(2, 130), (0, x1), (0, x2)] [(0, y0)] T V = if y0 = 0 then ev 188 29 [(2, 130), (0, x1), (0, x2)] [] T V else ev 188 17 [(2, 130), (0, x1), (0, x2)] [] T V := by
  exact ev_eq (show zcode 188 14 = some (40, 17, 29, 0, []) by decide +kernel)
theorem b188_17 {T : zT} {V : zM} {x1 : Int} {x2 : Int} (hS : zStr T)  : ev 188 17 [(2, 130), (0, x1), (0, x2)] [] T V = (zcall 189 [(2, 130), (0, x1), (0, x2)] T V).bind fun x => ev 188 23 [(2, 130), (0, x1), (0, x2)] (z_push x.1 []) x.2.1 x.2.2 := by
  refine Eq.trans (ev_lda (show zcode 188 17 = some (6, 18, 0, 0, []) by decide +kernel) rfl (by decide)) ?_
  refine Eq.trans (ev_ldi (show zcode 188 18 = some (4, 19, 1, 0, []) by decide +kernel) rfl) ?_
  refine Eq.trans (ev_ldi (show zcode 188 19 = some (4, 20, 2, 0, []) by decide +kernel) rfl) ?_
  exact ev_cvirt (show zcode 188 20 = some (76, 23, 189, 3, [12]) by decide +kernel) (args := [(0, x1), (0, x2)]) (rest := []) rfl (so130 hS) rfl (show 0 ≤ 8 by decide) ⟨by decide, show 3 ≤ 5 by decide⟩
theorem b188_23 {T : zT} {V : zM} {x1 : Int} {x2 : Int} {y0 : Int} : ev 188 23 [(2, 130), (0, x1), (0, x2)] [(0, y0)] T V = (zcall 190 [(0, y0)] T V).bind fun x => ev 188 26 [(2, 130), (0, x1), (0, x2)] (z_push x.1 []) x.2.1 x.2.2 := by
  exact ev_cstat (show zcode 188 23 = some (74, 26, 190, 1, []) by decide +kernel) (args := [(0, y0)]) (rest := []) rfl rfl (show 0 ≤ 8 by decide) ⟨by decide, show 1 ≤ 1 by decide⟩
theorem b188_26 {T : zT} {V : zM} {x1 : Int} {x2 : Int} {y0 : Int} : ev 188 26 [(2, 130), (0, x1), (0, x2)] [(0, y0)] T V = ev 188 30 [(2, 130), (0, x1), (0, x2)] [(0, y0)] T V := by
  exact ev_goto (show zcode 188 26 = some (53, 29, 30, 0, []) by decide +kernel)
theorem b188_29 {T : zT} {V : zM} {x1 : Int} {x2 : Int} : ev 188 29 [(2, 130), (0, x1), (0, x2)] [] T V = ev 188 30 [(2, 130), (0, x1), (0, x2)] [(0, (-1))] T V := by
  exact ev_ci (show zcode 188 29 = some (0, 30, 0, (-1), []) by decide +kernel) (by decide)
theorem b188_30 {T : zT} {V : zM} {x1 : Int} {x2 : Int} {y0 : Int} : ev 188 30 [(2, 130), (0, x1), (0, x2)] [(0, y0)] T V = some ((0, y0), T, V) := by
  exact ev_ri (show zcode 188 30 = some (72, 31, 0, 0, []) by decide +kernel)
/-! 189: TwoWayWallModel.signOf(II)I -/
theorem e189 {T : zT} {V : zM} {x1 : Int} {x2 : Int} : zcall 189 [(2, 130), (0, x1), (0, x2)] T V = ev 189 0 [(2, 130), (0, x1), (0, x2), (9, 0), (9, 0)] [] T V := rfl
theorem b189_0 {T : zT} {V : zM} {x1 : Int} {x2 : Int} : ev 189 0 [(2, 130), (0, x1), (0, x2), (9, 0), (9, 0)] [] T V = if x1 = 1 then ev 189 7 [(2, 130), (0, x1), (0, x2), (0, x2), (9, 0)] [] T V else ev 189 51 [(2, 130), (0, x1), (0, x2), (0, x2), (9, 0)] [] T V := by
  refine Eq.trans (ev_ldi (show zcode 189 0 = some (4, 1, 2, 0, []) by decide +kernel) rfl) ?_
  refine Eq.trans (ev_sti (show zcode 189 1 = some (7, 2, 3, 0, []) by decide +kernel) ⟨show 3 < 5 by decide, Or.inr (show ¬ (0 : Nat) = 1 by decide)⟩) ?_
  refine Eq.trans (ev_ldi (show zcode 189 2 = some (4, 3, 1, 0, []) by decide +kernel) rfl) ?_
  refine Eq.trans (ev_ci (show zcode 189 3 = some (0, 4, 0, 1, []) by decide +kernel) (by decide)) ?_
  exact ev_cne (show zcode 189 4 = some (47, 7, 51, 0, []) by decide +kernel)
theorem b189_7 {T : zT} {V : zM} {x1 : Int} {x2 : Int} {x3 : Int} : ev 189 7 [(2, 130), (0, x1), (0, x2), (0, x3), (9, 0)] [] T V = ev 189 12 [(2, 130), (0, x1), (0, x2), (0, 0), (0, 0)] [] T V := by
  refine Eq.trans (ev_ci (show zcode 189 7 = some (0, 8, 0, 0, []) by decide +kernel) (by decide)) ?_
  refine Eq.trans (ev_sti (show zcode 189 8 = some (7, 9, 3, 0, []) by decide +kernel) ⟨show 3 < 5 by decide, Or.inr (show ¬ (0 : Nat) = 1 by decide)⟩) ?_
  refine Eq.trans (ev_ci (show zcode 189 9 = some (0, 10, 0, 0, []) by decide +kernel) (by decide)) ?_
  exact ev_sti (show zcode 189 10 = some (7, 12, 4, 0, []) by decide +kernel) ⟨show 4 < 5 by decide, Or.inr (show ¬ (0 : Nat) = 1 by decide)⟩
theorem b189_12 {T : zT} {V : zM} {x1 : Int} {x2 : Int} {x3 : Int} {x4 : Int} : ev 189 12 [(2, 130), (0, x1), (0, x2), (0, x3), (0, x4)] [] T V = if 7 ≤ x4 then ev 189 51 [(2, 130), (0, x1), (0, x2), (0, x3), (0, x4)] [] T V else ev 189 19 [(2, 130), (0, x1), (0, x2), (0, x3), (0, x4)] [] T V := by
  refine Eq.trans (ev_ldi (show zcode 189 12 = some (4, 14, 4, 0, []) by decide +kernel) rfl) ?_
  refine Eq.trans (ev_ci (show zcode 189 14 = some (0, 16, 0, 7, []) by decide +kernel) (by decide)) ?_
  exact ev_cge (show zcode 189 16 = some (49, 19, 51, 0, []) by decide +kernel)
theorem b189_19 {T : zT} {V : zM} {x1 : Int} {x2 : Int} {x3 : Int} {x4 : Int} (h1 : (0 : Int) ≤ x4 ∧ x4 < 32) : ev 189 19 [(2, 130), (0, x1), (0, x2), (0, x3), (0, x4)] [] T V = if (zand (x2 / 2 ^ (x4).toNat) 1) = 1 then ev 189 29 [(2, 130), (0, x1), (0, x2), (0, x3), (0, x4)] [] T V else ev 189 45 [(2, 130), (0, x1), (0, x2), (0, x3), (0, x4)] [] T V := by
  refine Eq.trans (ev_ldi (show zcode 189 19 = some (4, 20, 2, 0, []) by decide +kernel) rfl) ?_
  refine Eq.trans (ev_ldi (show zcode 189 20 = some (4, 22, 4, 0, []) by decide +kernel) rfl) ?_
  refine Eq.trans (ev_shr (show zcode 189 22 = some (21, 23, 0, 0, []) by decide +kernel) h1) ?_
  refine Eq.trans (ev_ci (show zcode 189 23 = some (0, 24, 0, 1, []) by decide +kernel) (by decide)) ?_
  refine Eq.trans (ev_and (show zcode 189 24 = some (14, 25, 0, 0, []) by decide +kernel)) ?_
  refine Eq.trans (ev_ci (show zcode 189 25 = some (0, 26, 0, 1, []) by decide +kernel) (by decide)) ?_
  exact ev_cne (show zcode 189 26 = some (47, 29, 45, 0, []) by decide +kernel)
theorem b189_29 {T : zT} {V : zM} {x1 : Int} {x2 : Int} {x3 : Int} {x4 : Int} (hS : zStr T) (h1 : -2147483648 ≤ (286 + x4) ∧ (286 + x4) ≤ 2147483647) (h2 : (0 : Int) ≤ (286 + x4) ∧ (286 + x4) < 428) (h3 : (0 : Int) ≤ (V 132 (286 + x4)) ∧ (V 132 (286 + x4)) ≤ 30) : ev 189 29 [(2, 130), (0, x1), (0, x2), (0, x3), (0, x4)] [] T V = ev 189 45 [(2, 130), (0, x1), (0, x2), (0, (zor x3 ((2 : Int) ^ ((V 132 (286 + x4))).toNat))), (0, x4)] [] T V := by
  refine Eq.trans (ev_ldi (show zcode 189 29 = some (4, 30, 3, 0, []) by decide +kernel) rfl) ?_
  refine Eq.trans (ev_ci (show zcode 189 30 = some (0, 31, 0, 1, []) by decide +kernel) (by decide)) ?_
  refine Eq.trans (ev_lda (show zcode 189 31 = some (6, 32, 0, 0, []) by decide +kernel) rfl (by decide)) ?_
  refine Eq.trans (ev_gq (show zcode 189 32 = some (56, 35, 12, 4, []) by decide +kernel) (so130 hS) (sp130_4 hS)) ?_
  refine Eq.trans (ev_ci (show zcode 189 35 = some (0, 38, 0, 286, []) by decide +kernel) (by decide)) ?_
  refine Eq.trans (ev_ldi (show zcode 189 38 = some (4, 40, 4, 0, []) by decide +kernel) rfl) ?_
  refine Eq.trans (ev_add (show zcode 189 40 = some (11, 41, 0, 0, []) by decide +kernel) h1) ?_
  refine Eq.trans (ev_ia (show zcode 189 41 = some (60, 42, 0, 0, []) by decide +kernel) (sa132 hS) h2) ?_
  refine Eq.trans (ev_shl1 (show zcode 189 42 = some (20, 43, 0, 0, []) by decide +kernel) h3) ?_
  refine Eq.trans (ev_or (show zcode 189 43 = some (15, 44, 0, 0, []) by decide +kernel)) ?_
  exact ev_sti (show zcode 189 44 = some (7, 45, 3, 0, []) by decide +kernel) ⟨show 3 < 5 by decide, Or.inr (show ¬ (0 : Nat) = 1 by decide)⟩
theorem b189_45 {T : zT} {V : zM} {x1 : Int} {x2 : Int} {x3 : Int} {x4 : Int} (h1 : -2147483648 ≤ (x4 + 1) ∧ (x4 + 1) ≤ 2147483647) : ev 189 45 [(2, 130), (0, x1), (0, x2), (0, x3), (0, x4)] [] T V = ev 189 12 [(2, 130), (0, x1), (0, x2), (0, x3), (0, (x4 + 1))] [] T V := by
  refine Eq.trans (ev_inc (show zcode 189 45 = some (10, 48, 4, 1, []) by decide +kernel) rfl h1 (Or.inr (show ¬ (0 : Nat) = 1 by decide))) ?_
  exact ev_goto (show zcode 189 48 = some (53, 51, 12, 0, []) by decide +kernel)
theorem b189_51 {T : zT} {V : zM} {x1 : Int} {x2 : Int} {x3 : Int} {v4 : zV} : ev 189 51 [(2, 130), (0, x1), (0, x2), (0, x3), v4] [] T V = ev 189 54 [(2, 130), (0, x1), (0, x2), (0, x3), (0, 0)] [] T V := by
  refine Eq.trans (ev_ci (show zcode 189 51 = some (0, 52, 0, 0, []) by decide +kernel) (by decide)) ?_
  exact ev_sti (show zcode 189 52 = some (7, 54, 4, 0, []) by decide +kernel) ⟨show 4 < 5 by decide, Or.inr (show ¬ (0 : Nat) = 1 by decide)⟩
theorem b189_54 {T : zT} {V : zM} {x1 : Int} {x2 : Int} {x3 : Int} {x4 : Int} : ev 189 54 [(2, 130), (0, x1), (0, x2), (0, x3), (0, x4)] [] T V = if 26 ≤ x4 then ev 189 116 [(2, 130), (0, x1), (0, x2), (0, x3), (0, x4)] [] T V else ev 189 61 [(2, 130), (0, x1), (0, x2), (0, x3), (0, x4)] [] T V := by
  refine Eq.trans (ev_ldi (show zcode 189 54 = some (4, 56, 4, 0, []) by decide +kernel) rfl) ?_
  refine Eq.trans (ev_ci (show zcode 189 56 = some (0, 58, 0, 26, []) by decide +kernel) (by decide)) ?_
  exact ev_cge (show zcode 189 58 = some (49, 61, 116, 0, []) by decide +kernel)
theorem b189_61 {T : zT} {V : zM} {x1 : Int} {x2 : Int} {x3 : Int} {x4 : Int} (hS : zStr T)  : ev 189 61 [(2, 130), (0, x1), (0, x2), (0, x3), (0, x4)] [] T V = (zcall 185 [(2, 130), (0, x1), (0, x4), (0, 0)] T V).bind fun x => ev 189 69 [(2, 130), (0, x1), (0, x2), (0, x3), (0, x4)] (z_push x.1 []) x.2.1 x.2.2 := by
  refine Eq.trans (ev_lda (show zcode 189 61 = some (6, 62, 0, 0, []) by decide +kernel) rfl (by decide)) ?_
  refine Eq.trans (ev_ldi (show zcode 189 62 = some (4, 63, 1, 0, []) by decide +kernel) rfl) ?_
  refine Eq.trans (ev_ldi (show zcode 189 63 = some (4, 65, 4, 0, []) by decide +kernel) rfl) ?_
  refine Eq.trans (ev_ci (show zcode 189 65 = some (0, 66, 0, 0, []) by decide +kernel) (by decide)) ?_
  exact ev_cvirt (show zcode 189 66 = some (76, 69, 185, 4, [12]) by decide +kernel) (args := [(0, x1), (0, x4), (0, 0)]) (rest := []) rfl (so130 hS) rfl (show 0 ≤ 8 by decide) ⟨by decide, show 4 ≤ 4 by decide⟩
theorem b189_69 {T : zT} {V : zM} {x1 : Int} {x2 : Int} {x3 : Int} {x4 : Int} {y0 : Int} : ev 189 69 [(2, 130), (0, x1), (0, x2), (0, x3), (0, x4)] [(0, y0)] T V = if y0 = 1 then ev 189 73 [(2, 130), (0, x1), (0, x2), (0, x3), (0, x4)] [] T V else ev 189 110 [(2, 130), (0, x1), (0, x2), (0, x3), (0, x4)] [] T V := by
  refine Eq.trans (ev_ci (show zcode 189 69 = some (0, 70, 0, 1, []) by decide +kernel) (by decide)) ?_
  exact ev_cne (show zcode 189 70 = some (47, 73, 110, 0, []) by decide +kernel)
theorem b189_73 {T : zT} {V : zM} {x1 : Int} {x2 : Int} {x3 : Int} {x4 : Int} (hS : zStr T)  : ev 189 73 [(2, 130), (0, x1), (0, x2), (0, x3), (0, x4)] [] T V = (zcall 185 [(2, 130), (0, x1), (0, x4), (0, 1)] T V).bind fun x => ev 189 82 [(2, 130), (0, x1), (0, x2), (0, x3), (0, x4)] (z_push x.1 [(0, x3)]) x.2.1 x.2.2 := by
  refine Eq.trans (ev_ldi (show zcode 189 73 = some (4, 74, 3, 0, []) by decide +kernel) rfl) ?_
  refine Eq.trans (ev_lda (show zcode 189 74 = some (6, 75, 0, 0, []) by decide +kernel) rfl (by decide)) ?_
  refine Eq.trans (ev_ldi (show zcode 189 75 = some (4, 76, 1, 0, []) by decide +kernel) rfl) ?_
  refine Eq.trans (ev_ldi (show zcode 189 76 = some (4, 78, 4, 0, []) by decide +kernel) rfl) ?_
  refine Eq.trans (ev_ci (show zcode 189 78 = some (0, 79, 0, 1, []) by decide +kernel) (by decide)) ?_
  exact ev_cvirt (show zcode 189 79 = some (76, 82, 185, 4, [12]) by decide +kernel) (args := [(0, x1), (0, x4), (0, 1)]) (rest := [(0, x3)]) rfl (so130 hS) rfl (show 1 ≤ 8 by decide) ⟨by decide, show 4 ≤ 4 by decide⟩
theorem b189_82 {T : zT} {V : zM} {x1 : Int} {x2 : Int} {x3 : Int} {x4 : Int} {y0 : Int} {y1 : Int} (hS : zStr T)  : ev 189 82 [(2, 130), (0, x1), (0, x2), (0, x3), (0, x4)] [(0, y1), (0, y0)] T V = (zcall 185 [(2, 130), (0, x1), (0, x4), (0, 1)] T V).bind fun x => ev 189 91 [(2, 130), (0, x1), (0, x2), (0, x3), (0, x4)] (z_push x.1 [(0, (zand y0 y1))]) x.2.1 x.2.2 := by
  refine Eq.trans (ev_and (show zcode 189 82 = some (14, 83, 0, 0, []) by decide +kernel)) ?_
  refine Eq.trans (ev_lda (show zcode 189 83 = some (6, 84, 0, 0, []) by decide +kernel) rfl (by decide)) ?_
  refine Eq.trans (ev_ldi (show zcode 189 84 = some (4, 85, 1, 0, []) by decide +kernel) rfl) ?_
  refine Eq.trans (ev_ldi (show zcode 189 85 = some (4, 87, 4, 0, []) by decide +kernel) rfl) ?_
  refine Eq.trans (ev_ci (show zcode 189 87 = some (0, 88, 0, 1, []) by decide +kernel) (by decide)) ?_
  exact ev_cvirt (show zcode 189 88 = some (76, 91, 185, 4, [12]) by decide +kernel) (args := [(0, x1), (0, x4), (0, 1)]) (rest := [(0, (zand y0 y1))]) rfl (so130 hS) rfl (show 1 ≤ 8 by decide) ⟨by decide, show 4 ≤ 4 by decide⟩
theorem b189_91 {T : zT} {V : zM} {x1 : Int} {x2 : Int} {x3 : Int} {x4 : Int} {y0 : Int} {y1 : Int} : ev 189 91 [(2, 130), (0, x1), (0, x2), (0, x3), (0, x4)] [(0, y1), (0, y0)] T V = if y0 = y1 then ev 189 94 [(2, 130), (0, x1), (0, x2), (0, x3), (0, x4)] [] T V else ev 189 110 [(2, 130), (0, x1), (0, x2), (0, x3), (0, x4)] [] T V := by
  exact ev_cne (show zcode 189 91 = some (47, 94, 110, 0, []) by decide +kernel)
theorem b189_94 {T : zT} {V : zM} {x1 : Int} {x2 : Int} {x3 : Int} {x4 : Int} (hS : zStr T)  : ev 189 94 [(2, 130), (0, x1), (0, x2), (0, x3), (0, x4)] [] T V = (zcall 185 [(2, 130), (0, x1), (0, x4), (0, 2)] T V).bind fun x => ev 189 103 [(2, 130), (0, x1), (0, x2), (0, x3), (0, x4)] (z_push x.1 [(0, x3)]) x.2.1 x.2.2 := by
  refine Eq.trans (ev_ldi (show zcode 189 94 = some (4, 95, 3, 0, []) by decide +kernel) rfl) ?_
  refine Eq.trans (ev_lda (show zcode 189 95 = some (6, 96, 0, 0, []) by decide +kernel) rfl (by decide)) ?_
  refine Eq.trans (ev_ldi (show zcode 189 96 = some (4, 97, 1, 0, []) by decide +kernel) rfl) ?_
  refine Eq.trans (ev_ldi (show zcode 189 97 = some (4, 99, 4, 0, []) by decide +kernel) rfl) ?_
  refine Eq.trans (ev_ci (show zcode 189 99 = some (0, 100, 0, 2, []) by decide +kernel) (by decide)) ?_
  exact ev_cvirt (show zcode 189 100 = some (76, 103, 185, 4, [12]) by decide +kernel) (args := [(0, x1), (0, x4), (0, 2)]) (rest := [(0, x3)]) rfl (so130 hS) rfl (show 1 ≤ 8 by decide) ⟨by decide, show 4 ≤ 4 by decide⟩
theorem b189_103 {T : zT} {V : zM} {x1 : Int} {x2 : Int} {x3 : Int} {x4 : Int} {y0 : Int} {y1 : Int} : ev 189 103 [(2, 130), (0, x1), (0, x2), (0, x3), (0, x4)] [(0, y1), (0, y0)] T V = if (zand y0 y1) = 0 then ev 189 107 [(2, 130), (0, x1), (0, x2), (0, x3), (0, x4)] [] T V else ev 189 110 [(2, 130), (0, x1), (0, x2), (0, x3), (0, x4)] [] T V := by
  refine Eq.trans (ev_and (show zcode 189 103 = some (14, 104, 0, 0, []) by decide +kernel)) ?_
  exact ev_ne (show zcode 189 104 = some (41, 107, 110, 0, []) by decide +kernel)
theorem b189_107 {T : zT} {V : zM} {x1 : Int} {x2 : Int} {x3 : Int} {x4 : Int} : ev 189 107 [(2, 130), (0, x1), (0, x2), (0, x3), (0, x4)] [] T V = some ((0, x4), T, V) := by
  refine Eq.trans (ev_ldi (show zcode 189 107 = some (4, 109, 4, 0, []) by decide +kernel) rfl) ?_
  exact ev_ri (show zcode 189 109 = some (72, 110, 0, 0, []) by decide +kernel)
theorem b189_110 {T : zT} {V : zM} {x1 : Int} {x2 : Int} {x3 : Int} {x4 : Int} (h1 : -2147483648 ≤ (x4 + 1) ∧ (x4 + 1) ≤ 2147483647) : ev 189 110 [(2, 130), (0, x1), (0, x2), (0, x3), (0, x4)] [] T V = ev 189 54 [(2, 130), (0, x1), (0, x2), (0, x3), (0, (x4 + 1))] [] T V := by
  refine Eq.trans (ev_inc (show zcode 189 110 = some (10, 113, 4, 1, []) by decide +kernel) rfl h1 (Or.inr (show ¬ (0 : Nat) = 1 by decide))) ?_
  exact ev_goto (show zcode 189 113 = some (53, 116, 54, 0, []) by decide +kernel)
theorem b189_116 {T : zT} {V : zM} {x1 : Int} {x2 : Int} {x3 : Int} {x4 : Int} : ev 189 116 [(2, 130), (0, x1), (0, x2), (0, x3), (0, x4)] [] T V = some ((0, 26), T, V) := by
  refine Eq.trans (ev_ci (show zcode 189 116 = some (0, 118, 0, 26, []) by decide +kernel) (by decide)) ?_
  exact ev_ri (show zcode 189 118 = some (72, 119, 0, 0, []) by decide +kernel)
/-! 190: TwoWayWallModel.orNone(I)I -/
theorem e190 {T : zT} {V : zM} {x0 : Int} : zcall 190 [(0, x0)] T V = ev 190 0 [(0, x0)] [] T V := rfl
theorem b190_0 {T : zT} {V : zM} {x0 : Int} : ev 190 0 [(0, x0)] [] T V = if x0 = 26 then ev 190 6 [(0, x0)] [] T V else ev 190 10 [(0, x0)] [] T V := by
  refine Eq.trans (ev_ldi (show zcode 190 0 = some (4, 1, 0, 0, []) by decide +kernel) rfl) ?_
  refine Eq.trans (ev_ci (show zcode 190 1 = some (0, 3, 0, 26, []) by decide +kernel) (by decide)) ?_
  exact ev_cne (show zcode 190 3 = some (47, 6, 10, 0, []) by decide +kernel)
theorem b190_6 {T : zT} {V : zM} {x0 : Int} : ev 190 6 [(0, x0)] [] T V = ev 190 11 [(0, x0)] [(0, (-1))] T V := by
  refine Eq.trans (ev_ci (show zcode 190 6 = some (0, 7, 0, (-1), []) by decide +kernel) (by decide)) ?_
  exact ev_goto (show zcode 190 7 = some (53, 10, 11, 0, []) by decide +kernel)
theorem b190_10 {T : zT} {V : zM} {x0 : Int} : ev 190 10 [(0, x0)] [] T V = ev 190 11 [(0, x0)] [(0, x0)] T V := by
  exact ev_ldi (show zcode 190 10 = some (4, 11, 0, 0, []) by decide +kernel) rfl
theorem b190_11 {T : zT} {V : zM} {x0 : Int} {y0 : Int} : ev 190 11 [(0, x0)] [(0, y0)] T V = some ((0, y0), T, V) := by
  exact ev_ri (show zcode 190 11 = some (72, 12, 0, 0, []) by decide +kernel)
/-! 191: TwoWayWallModel.read(II)I -/
theorem e191 {T : zT} {V : zM} {x1 : Int} {x2 : Int} : zcall 191 [(2, 130), (0, x1), (0, x2)] T V = ev 191 0 [(2, 130), (0, x1), (0, x2)] [] T V := rfl
theorem b191_0 {T : zT} {V : zM} {x1 : Int} {x2 : Int} : ev 191 0 [(2, 130), (0, x1), (0, x2)] [] T V = (zcall 183 [(0, x1)] T V).bind fun x => ev 191 4 [(2, 130), (0, x1), (0, x2)] (z_push x.1 []) x.2.1 x.2.2 := by
  refine Eq.trans (ev_ldi (show zcode 191 0 = some (4, 1, 1, 0, []) by decide +kernel) rfl) ?_
  exact ev_cstat (show zcode 191 1 = some (74, 4, 183, 1, []) by decide +kernel) (args := [(0, x1)]) (rest := []) rfl rfl (show 0 ≤ 8 by decide) ⟨by decide, show 1 ≤ 1 by decide⟩
theorem b191_4 {T : zT} {V : zM} {x1 : Int} {x2 : Int} {y0 : Int} : ev 191 4 [(2, 130), (0, x1), (0, x2)] [(0, y0)] T V = if y0 = 0 then ev 191 41 [(2, 130), (0, x1), (0, x2)] [] T V else ev 191 7 [(2, 130), (0, x1), (0, x2)] [] T V := by
  exact ev_eq (show zcode 191 4 = some (40, 7, 41, 0, []) by decide +kernel)
theorem b191_7 {T : zT} {V : zM} {x1 : Int} {x2 : Int} (hS : zStr T)  : ev 191 7 [(2, 130), (0, x1), (0, x2)] [] T V = (zcall 157 [(2, 130), (0, x2)] T V).bind fun x => ev 191 12 [(2, 130), (0, x1), (0, x2)] (z_push x.1 []) x.2.1 x.2.2 := by
  refine Eq.trans (ev_lda (show zcode 191 7 = some (6, 8, 0, 0, []) by decide +kernel) rfl (by decide)) ?_
  refine Eq.trans (ev_ldi (show zcode 191 8 = some (4, 9, 2, 0, []) by decide +kernel) rfl) ?_
  exact ev_cvirt (show zcode 191 9 = some (76, 12, 157, 2, [12]) by decide +kernel) (args := [(0, x2)]) (rest := []) rfl (so130 hS) rfl (show 0 ≤ 8 by decide) ⟨by decide, show 2 ≤ 2 by decide⟩
theorem b191_12 {T : zT} {V : zM} {x1 : Int} {x2 : Int} {y0 : Int} : ev 191 12 [(2, 130), (0, x1), (0, x2)] [(0, y0)] T V = if y0 = 0 then ev 191 41 [(2, 130), (0, x1), (0, x2)] [] T V else ev 191 15 [(2, 130), (0, x1), (0, x2)] [] T V := by
  exact ev_eq (show zcode 191 12 = some (40, 15, 41, 0, []) by decide +kernel)
theorem b191_15 {T : zT} {V : zM} {x1 : Int} {x2 : Int} (hS : zStr T)  : ev 191 15 [(2, 130), (0, x1), (0, x2)] [] T V = (zcall 192 [(2, 130), (0, x1), (0, x2)] T V).bind fun x => ev 191 30 [(2, 130), (0, x1), (0, x2)] (z_push x.1 [(0, 300), (2, 132), (0, x1), (2, 130)]) x.2.1 x.2.2 := by
  refine Eq.trans (ev_lda (show zcode 191 15 = some (6, 16, 0, 0, []) by decide +kernel) rfl (by decide)) ?_
  refine Eq.trans (ev_ldi (show zcode 191 16 = some (4, 17, 1, 0, []) by decide +kernel) rfl) ?_
  refine Eq.trans (ev_lda (show zcode 191 17 = some (6, 18, 0, 0, []) by decide +kernel) rfl (by decide)) ?_
  refine Eq.trans (ev_gq (show zcode 191 18 = some (56, 21, 12, 4, []) by decide +kernel) (so130 hS) (sp130_4 hS)) ?_
  refine Eq.trans (ev_ci (show zcode 191 21 = some (0, 24, 0, 300, []) by decide +kernel) (by decide)) ?_
  refine Eq.trans (ev_lda (show zcode 191 24 = some (6, 25, 0, 0, []) by decide +kernel) rfl (by decide)) ?_
  refine Eq.trans (ev_ldi (show zcode 191 25 = some (4, 26, 1, 0, []) by decide +kernel) rfl) ?_
  refine Eq.trans (ev_ldi (show zcode 191 26 = some (4, 27, 2, 0, []) by decide +kernel) rfl) ?_
  exact ev_cvirt (show zcode 191 27 = some (76, 30, 192, 3, [12]) by decide +kernel) (args := [(0, x1), (0, x2)]) (rest := [(0, 300), (2, 132), (0, x1), (2, 130)]) rfl (so130 hS) rfl (show 4 ≤ 8 by decide) ⟨by decide, show 3 ≤ 3 by decide⟩
theorem b191_30 {T : zT} {V : zM} {x1 : Int} {x2 : Int} {y1 : Int} {y3 : Int} {y4 : Int} (hS : zStr T) (h1 : -2147483648 ≤ (y3 + y4) ∧ (y3 + y4) ≤ 2147483647) (h2 : (0 : Int) ≤ (y3 + y4) ∧ (y3 + y4) < 428) : ev 191 30 [(2, 130), (0, x1), (0, x2)] [(0, y4), (0, y3), (2, 132), (0, y1), (2, 130)] T V = (zcall 189 [(2, 130), (0, y1), (0, (V 132 (y3 + y4)))] T V).bind fun x => ev 191 35 [(2, 130), (0, x1), (0, x2)] (z_push x.1 []) x.2.1 x.2.2 := by
  refine Eq.trans (ev_add (show zcode 191 30 = some (11, 31, 0, 0, []) by decide +kernel) h1) ?_
  refine Eq.trans (ev_ia (show zcode 191 31 = some (60, 32, 0, 0, []) by decide +kernel) (sa132 hS) h2) ?_
  exact ev_cvirt (show zcode 191 32 = some (76, 35, 189, 3, [12]) by decide +kernel) (args := [(0, y1), (0, (V 132 (y3 + y4)))]) (rest := []) rfl (so130 hS) rfl (show 0 ≤ 8 by decide) ⟨by decide, show 3 ≤ 5 by decide⟩
theorem b191_35 {T : zT} {V : zM} {x1 : Int} {x2 : Int} {y0 : Int} : ev 191 35 [(2, 130), (0, x1), (0, x2)] [(0, y0)] T V = (zcall 190 [(0, y0)] T V).bind fun x => ev 191 38 [(2, 130), (0, x1), (0, x2)] (z_push x.1 []) x.2.1 x.2.2 := by
  exact ev_cstat (show zcode 191 35 = some (74, 38, 190, 1, []) by decide +kernel) (args := [(0, y0)]) (rest := []) rfl rfl (show 0 ≤ 8 by decide) ⟨by decide, show 1 ≤ 1 by decide⟩
theorem b191_38 {T : zT} {V : zM} {x1 : Int} {x2 : Int} {y0 : Int} : ev 191 38 [(2, 130), (0, x1), (0, x2)] [(0, y0)] T V = ev 191 42 [(2, 130), (0, x1), (0, x2)] [(0, y0)] T V := by
  exact ev_goto (show zcode 191 38 = some (53, 41, 42, 0, []) by decide +kernel)
theorem b191_41 {T : zT} {V : zM} {x1 : Int} {x2 : Int} : ev 191 41 [(2, 130), (0, x1), (0, x2)] [] T V = ev 191 42 [(2, 130), (0, x1), (0, x2)] [(0, (-1))] T V := by
  exact ev_ci (show zcode 191 41 = some (0, 42, 0, (-1), []) by decide +kernel) (by decide)
theorem b191_42 {T : zT} {V : zM} {x1 : Int} {x2 : Int} {y0 : Int} : ev 191 42 [(2, 130), (0, x1), (0, x2)] [(0, y0)] T V = some ((0, y0), T, V) := by
  exact ev_ri (show zcode 191 42 = some (72, 43, 0, 0, []) by decide +kernel)
/-! 192: TwoWayWallModel.cellOf(II)I -/
theorem e192 {T : zT} {V : zM} {x1 : Int} {x2 : Int} : zcall 192 [(2, 130), (0, x1), (0, x2)] T V = ev 192 0 [(2, 130), (0, x1), (0, x2)] [] T V := rfl
theorem b192_0 {T : zT} {V : zM} {x1 : Int} {x2 : Int} : ev 192 0 [(2, 130), (0, x1), (0, x2)] [] T V = if x1 = 0 then ev 192 4 [(2, 130), (0, x1), (0, x2)] [] T V else ev 192 8 [(2, 130), (0, x1), (0, x2)] [] T V := by
  refine Eq.trans (ev_ldi (show zcode 192 0 = some (4, 1, 1, 0, []) by decide +kernel) rfl) ?_
  exact ev_ne (show zcode 192 1 = some (41, 4, 8, 0, []) by decide +kernel)
theorem b192_4 {T : zT} {V : zM} {x1 : Int} {x2 : Int} : ev 192 4 [(2, 130), (0, x1), (0, x2)] [] T V = ev 192 20 [(2, 130), (0, x1), (0, x2)] [(0, x2)] T V := by
  refine Eq.trans (ev_ldi (show zcode 192 4 = some (4, 5, 2, 0, []) by decide +kernel) rfl) ?_
  exact ev_goto (show zcode 192 5 = some (53, 8, 20, 0, []) by decide +kernel)
theorem b192_8 {T : zT} {V : zM} {x1 : Int} {x2 : Int} (hS : zStr T) (h1 : -2147483648 ≤ ((V 132 427) - 1) ∧ ((V 132 427) - 1) ≤ 2147483647) (h2 : -2147483648 ≤ (((V 132 427) - 1) - x2) ∧ (((V 132 427) - 1) - x2) ≤ 2147483647) : ev 192 8 [(2, 130), (0, x1), (0, x2)] [] T V = ev 192 20 [(2, 130), (0, x1), (0, x2)] [(0, (((V 132 427) - 1) - x2))] T V := by
  refine Eq.trans (ev_lda (show zcode 192 8 = some (6, 9, 0, 0, []) by decide +kernel) rfl (by decide)) ?_
  refine Eq.trans (ev_gq (show zcode 192 9 = some (56, 12, 12, 4, []) by decide +kernel) (so130 hS) (sp130_4 hS)) ?_
  refine Eq.trans (ev_ci (show zcode 192 12 = some (0, 15, 0, 427, []) by decide +kernel) (by decide)) ?_
  refine Eq.trans (ev_ia (show zcode 192 15 = some (60, 16, 0, 0, []) by decide +kernel) (sa132 hS) (by decide)) ?_
  refine Eq.trans (ev_ci (show zcode 192 16 = some (0, 17, 0, 1, []) by decide +kernel) (by decide)) ?_
  refine Eq.trans (ev_sub (show zcode 192 17 = some (12, 18, 0, 0, []) by decide +kernel) h1) ?_
  refine Eq.trans (ev_ldi (show zcode 192 18 = some (4, 19, 2, 0, []) by decide +kernel) rfl) ?_
  exact ev_sub (show zcode 192 19 = some (12, 20, 0, 0, []) by decide +kernel) h2
theorem b192_20 {T : zT} {V : zM} {x1 : Int} {x2 : Int} {y0 : Int} : ev 192 20 [(2, 130), (0, x1), (0, x2)] [(0, y0)] T V = some ((0, y0), T, V) := by
  exact ev_ri (show zcode 192 20 = some (72, 21, 0, 0, []) by decide +kernel)
/-! 193: TwoWayWallModel.spoken(I)I -/
theorem e193 {T : zT} {V : zM} {x1 : Int} : zcall 193 [(2, 130), (0, x1)] T V = ev 193 0 [(2, 130), (0, x1), (9, 0), (9, 0), (9, 0)] [] T V := rfl
theorem b193_0 {T : zT} {V : zM} {x1 : Int} : ev 193 0 [(2, 130), (0, x1), (9, 0), (9, 0), (9, 0)] [] T V = (zcall 183 [(0, x1)] T V).bind fun x => ev 193 4 [(2, 130), (0, x1), (9, 0), (9, 0), (9, 0)] (z_push x.1 []) x.2.1 x.2.2 := by
  refine Eq.trans (ev_ldi (show zcode 193 0 = some (4, 1, 1, 0, []) by decide +kernel) rfl) ?_
  exact ev_cstat (show zcode 193 1 = some (74, 4, 183, 1, []) by decide +kernel) (args := [(0, x1)]) (rest := []) rfl rfl (show 0 ≤ 8 by decide) ⟨by decide, show 1 ≤ 1 by decide⟩
theorem b193_4 {T : zT} {V : zM} {x1 : Int} {y0 : Int} : ev 193 4 [(2, 130), (0, x1), (9, 0), (9, 0), (9, 0)] [(0, y0)] T V = if y0 = 0 then ev 193 7 [(2, 130), (0, x1), (9, 0), (9, 0), (9, 0)] [] T V else ev 193 9 [(2, 130), (0, x1), (9, 0), (9, 0), (9, 0)] [] T V := by
  exact ev_ne (show zcode 193 4 = some (41, 7, 9, 0, []) by decide +kernel)
theorem b193_7 {T : zT} {V : zM} {x1 : Int} : ev 193 7 [(2, 130), (0, x1), (9, 0), (9, 0), (9, 0)] [] T V = some ((0, (-1)), T, V) := by
  refine Eq.trans (ev_ci (show zcode 193 7 = some (0, 8, 0, (-1), []) by decide +kernel) (by decide)) ?_
  exact ev_ri (show zcode 193 8 = some (72, 9, 0, 0, []) by decide +kernel)
theorem b193_9 {T : zT} {V : zM} {x1 : Int} : ev 193 9 [(2, 130), (0, x1), (9, 0), (9, 0), (9, 0)] [] T V = ev 193 13 [(2, 130), (0, x1), (0, 0), (0, 0), (9, 0)] [] T V := by
  refine Eq.trans (ev_ci (show zcode 193 9 = some (0, 10, 0, 0, []) by decide +kernel) (by decide)) ?_
  refine Eq.trans (ev_sti (show zcode 193 10 = some (7, 11, 2, 0, []) by decide +kernel) ⟨show 2 < 5 by decide, Or.inr (show ¬ (0 : Nat) = 1 by decide)⟩) ?_
  refine Eq.trans (ev_ci (show zcode 193 11 = some (0, 12, 0, 0, []) by decide +kernel) (by decide)) ?_
  exact ev_sti (show zcode 193 12 = some (7, 13, 3, 0, []) by decide +kernel) ⟨show 3 < 5 by decide, Or.inr (show ¬ (0 : Nat) = 1 by decide)⟩
theorem b193_13 {T : zT} {V : zM} {x1 : Int} {x2 : Int} {x3 : Int} {v4 : zV} (hS : zStr T)  : ev 193 13 [(2, 130), (0, x1), (0, x2), (0, x3), v4] [] T V = if (V 132 427) < x3 then ev 193 97 [(2, 130), (0, x1), (0, x2), (0, x3), v4] [] T V else ev 193 25 [(2, 130), (0, x1), (0, x2), (0, x3), v4] [] T V := by
  refine Eq.trans (ev_ldi (show zcode 193 13 = some (4, 14, 3, 0, []) by decide +kernel) rfl) ?_
  refine Eq.trans (ev_lda (show zcode 193 14 = some (6, 15, 0, 0, []) by decide +kernel) rfl (by decide)) ?_
  refine Eq.trans (ev_gq (show zcode 193 15 = some (56, 18, 12, 4, []) by decide +kernel) (so130 hS) (sp130_4 hS)) ?_
  refine Eq.trans (ev_ci (show zcode 193 18 = some (0, 21, 0, 427, []) by decide +kernel) (by decide)) ?_
  refine Eq.trans (ev_ia (show zcode 193 21 = some (60, 22, 0, 0, []) by decide +kernel) (sa132 hS) (by decide)) ?_
  exact ev_cgt (show zcode 193 22 = some (50, 25, 97, 0, []) by decide +kernel)
theorem b193_25 {T : zT} {V : zM} {x1 : Int} {x2 : Int} {x3 : Int} {v4 : zV} : ev 193 25 [(2, 130), (0, x1), (0, x2), (0, x3), v4] [] T V = ev 193 28 [(2, 130), (0, x1), (0, x2), (0, x3), (0, x3)] [] T V := by
  refine Eq.trans (ev_ldi (show zcode 193 25 = some (4, 26, 3, 0, []) by decide +kernel) rfl) ?_
  exact ev_sti (show zcode 193 26 = some (7, 28, 4, 0, []) by decide +kernel) ⟨show 4 < 5 by decide, Or.inr (show ¬ (0 : Nat) = 1 by decide)⟩
theorem b193_28 {T : zT} {V : zM} {x1 : Int} {x2 : Int} {x3 : Int} {x4 : Int} (hS : zStr T)  : ev 193 28 [(2, 130), (0, x1), (0, x2), (0, x3), (0, x4)] [] T V = if (V 132 427) ≤ x4 then ev 193 73 [(2, 130), (0, x1), (0, x2), (0, x3), (0, x4)] [] T V else ev 193 41 [(2, 130), (0, x1), (0, x2), (0, x3), (0, x4)] [] T V := by
  refine Eq.trans (ev_ldi (show zcode 193 28 = some (4, 30, 4, 0, []) by decide +kernel) rfl) ?_
  refine Eq.trans (ev_lda (show zcode 193 30 = some (6, 31, 0, 0, []) by decide +kernel) rfl (by decide)) ?_
  refine Eq.trans (ev_gq (show zcode 193 31 = some (56, 34, 12, 4, []) by decide +kernel) (so130 hS) (sp130_4 hS)) ?_
  refine Eq.trans (ev_ci (show zcode 193 34 = some (0, 37, 0, 427, []) by decide +kernel) (by decide)) ?_
  refine Eq.trans (ev_ia (show zcode 193 37 = some (60, 38, 0, 0, []) by decide +kernel) (sa132 hS) (by decide)) ?_
  exact ev_cge (show zcode 193 38 = some (49, 41, 73, 0, []) by decide +kernel)
theorem b193_41 {T : zT} {V : zM} {x1 : Int} {x2 : Int} {x3 : Int} {x4 : Int} (hS : zStr T)  : ev 193 41 [(2, 130), (0, x1), (0, x2), (0, x3), (0, x4)] [] T V = (zcall 192 [(2, 130), (0, x1), (0, x4)] T V).bind fun x => ev 193 57 [(2, 130), (0, x1), (0, x2), (0, x3), (0, x4)] (z_push x.1 [(0, 300), (2, 132), (0, x1), (2, 130)]) x.2.1 x.2.2 := by
  refine Eq.trans (ev_lda (show zcode 193 41 = some (6, 42, 0, 0, []) by decide +kernel) rfl (by decide)) ?_
  refine Eq.trans (ev_ldi (show zcode 193 42 = some (4, 43, 1, 0, []) by decide +kernel) rfl) ?_
  refine Eq.trans (ev_lda (show zcode 193 43 = some (6, 44, 0, 0, []) by decide +kernel) rfl (by decide)) ?_
  refine Eq.trans (ev_gq (show zcode 193 44 = some (56, 47, 12, 4, []) by decide +kernel) (so130 hS) (sp130_4 hS)) ?_
  refine Eq.trans (ev_ci (show zcode 193 47 = some (0, 50, 0, 300, []) by decide +kernel) (by decide)) ?_
  refine Eq.trans (ev_lda (show zcode 193 50 = some (6, 51, 0, 0, []) by decide +kernel) rfl (by decide)) ?_
  refine Eq.trans (ev_ldi (show zcode 193 51 = some (4, 52, 1, 0, []) by decide +kernel) rfl) ?_
  refine Eq.trans (ev_ldi (show zcode 193 52 = some (4, 54, 4, 0, []) by decide +kernel) rfl) ?_
  exact ev_cvirt (show zcode 193 54 = some (76, 57, 192, 3, [12]) by decide +kernel) (args := [(0, x1), (0, x4)]) (rest := [(0, 300), (2, 132), (0, x1), (2, 130)]) rfl (so130 hS) rfl (show 4 ≤ 8 by decide) ⟨by decide, show 3 ≤ 3 by decide⟩
theorem b193_57 {T : zT} {V : zM} {x1 : Int} {x2 : Int} {x3 : Int} {x4 : Int} {y1 : Int} {y3 : Int} {y4 : Int} (hS : zStr T) (h1 : -2147483648 ≤ (y3 + y4) ∧ (y3 + y4) ≤ 2147483647) (h2 : (0 : Int) ≤ (y3 + y4) ∧ (y3 + y4) < 428) : ev 193 57 [(2, 130), (0, x1), (0, x2), (0, x3), (0, x4)] [(0, y4), (0, y3), (2, 132), (0, y1), (2, 130)] T V = (zcall 189 [(2, 130), (0, y1), (0, (V 132 (y3 + y4)))] T V).bind fun x => ev 193 62 [(2, 130), (0, x1), (0, x2), (0, x3), (0, x4)] (z_push x.1 []) x.2.1 x.2.2 := by
  refine Eq.trans (ev_add (show zcode 193 57 = some (11, 58, 0, 0, []) by decide +kernel) h1) ?_
  refine Eq.trans (ev_ia (show zcode 193 58 = some (60, 59, 0, 0, []) by decide +kernel) (sa132 hS) h2) ?_
  exact ev_cvirt (show zcode 193 59 = some (76, 62, 189, 3, [12]) by decide +kernel) (args := [(0, y1), (0, (V 132 (y3 + y4)))]) (rest := []) rfl (so130 hS) rfl (show 0 ≤ 8 by decide) ⟨by decide, show 3 ≤ 5 by decide⟩
theorem b193_62 {T : zT} {V : zM} {x1 : Int} {x2 : Int} {x3 : Int} {x4 : Int} {y0 : Int} : ev 193 62 [(2, 130), (0, x1), (0, x2), (0, x3), (0, x4)] [(0, y0)] T V = if y0 = 26 then ev 193 73 [(2, 130), (0, x1), (0, x2), (0, x3), (0, x4)] [] T V else ev 193 67 [(2, 130), (0, x1), (0, x2), (0, x3), (0, x4)] [] T V := by
  refine Eq.trans (ev_ci (show zcode 193 62 = some (0, 64, 0, 26, []) by decide +kernel) (by decide)) ?_
  exact ev_ceq (show zcode 193 64 = some (46, 67, 73, 0, []) by decide +kernel)
theorem b193_67 {T : zT} {V : zM} {x1 : Int} {x2 : Int} {x3 : Int} {x4 : Int} (h1 : -2147483648 ≤ (x4 + 1) ∧ (x4 + 1) ≤ 2147483647) : ev 193 67 [(2, 130), (0, x1), (0, x2), (0, x3), (0, x4)] [] T V = ev 193 28 [(2, 130), (0, x1), (0, x2), (0, x3), (0, (x4 + 1))] [] T V := by
  refine Eq.trans (ev_inc (show zcode 193 67 = some (10, 70, 4, 1, []) by decide +kernel) rfl h1 (Or.inr (show ¬ (0 : Nat) = 1 by decide))) ?_
  exact ev_goto (show zcode 193 70 = some (53, 73, 28, 0, []) by decide +kernel)
theorem b193_73 {T : zT} {V : zM} {x1 : Int} {x2 : Int} {x3 : Int} {x4 : Int} (hS : zStr T)  : ev 193 73 [(2, 130), (0, x1), (0, x2), (0, x3), (0, x4)] [] T V = (zcall 194 [(2, 130), (0, x1), (0, x3), (0, x4)] T V).bind fun x => ev 193 81 [(2, 130), (0, x1), (0, x2), (0, x3), (0, x4)] (z_push x.1 []) x.2.1 x.2.2 := by
  refine Eq.trans (ev_lda (show zcode 193 73 = some (6, 74, 0, 0, []) by decide +kernel) rfl (by decide)) ?_
  refine Eq.trans (ev_ldi (show zcode 193 74 = some (4, 75, 1, 0, []) by decide +kernel) rfl) ?_
  refine Eq.trans (ev_ldi (show zcode 193 75 = some (4, 76, 3, 0, []) by decide +kernel) rfl) ?_
  refine Eq.trans (ev_ldi (show zcode 193 76 = some (4, 78, 4, 0, []) by decide +kernel) rfl) ?_
  exact ev_cvirt (show zcode 193 78 = some (76, 81, 194, 4, [12]) by decide +kernel) (args := [(0, x1), (0, x3), (0, x4)]) (rest := []) rfl (so130 hS) rfl (show 0 ≤ 8 by decide) ⟨by decide, show 4 ≤ 7 by decide⟩
theorem b193_81 {T : zT} {V : zM} {x1 : Int} {x2 : Int} {x3 : Int} {x4 : Int} {y0 : Int} : ev 193 81 [(2, 130), (0, x1), (0, x2), (0, x3), (0, x4)] [(0, y0)] T V = if y0 = 0 then ev 193 84 [(2, 130), (0, x1), (0, x2), (0, x3), (0, x4)] [] T V else ev 193 86 [(2, 130), (0, x1), (0, x2), (0, x3), (0, x4)] [] T V := by
  exact ev_ne (show zcode 193 81 = some (41, 84, 86, 0, []) by decide +kernel)
theorem b193_84 {T : zT} {V : zM} {x1 : Int} {x2 : Int} {x3 : Int} {x4 : Int} : ev 193 84 [(2, 130), (0, x1), (0, x2), (0, x3), (0, x4)] [] T V = some ((0, 0), T, V) := by
  refine Eq.trans (ev_ci (show zcode 193 84 = some (0, 85, 0, 0, []) by decide +kernel) (by decide)) ?_
  exact ev_ri (show zcode 193 85 = some (72, 86, 0, 0, []) by decide +kernel)
theorem b193_86 {T : zT} {V : zM} {x1 : Int} {x2 : Int} {x3 : Int} {x4 : Int} (h1 : -2147483648 ≤ (x2 + 1) ∧ (x2 + 1) ≤ 2147483647) (h2 : -2147483648 ≤ (x4 + 1) ∧ (x4 + 1) ≤ 2147483647) : ev 193 86 [(2, 130), (0, x1), (0, x2), (0, x3), (0, x4)] [] T V = ev 193 13 [(2, 130), (0, x1), (0, (x2 + 1)), (0, (x4 + 1)), (0, x4)] [] T V := by
  refine Eq.trans (ev_inc (show zcode 193 86 = some (10, 89, 2, 1, []) by decide +kernel) rfl h1 (Or.inr (show ¬ (0 : Nat) = 1 by decide))) ?_
  refine Eq.trans (ev_ldi (show zcode 193 89 = some (4, 91, 4, 0, []) by decide +kernel) rfl) ?_
  refine Eq.trans (ev_ci (show zcode 193 91 = some (0, 92, 0, 1, []) by decide +kernel) (by decide)) ?_
  refine Eq.trans (ev_add (show zcode 193 92 = some (11, 93, 0, 0, []) by decide +kernel) h2) ?_
  refine Eq.trans (ev_sti (show zcode 193 93 = some (7, 94, 3, 0, []) by decide +kernel) ⟨show 3 < 5 by decide, Or.inr (show ¬ (0 : Nat) = 1 by decide)⟩) ?_
  exact ev_goto (show zcode 193 94 = some (53, 97, 13, 0, []) by decide +kernel)
theorem b193_97 {T : zT} {V : zM} {x1 : Int} {x2 : Int} {x3 : Int} {v4 : zV} : ev 193 97 [(2, 130), (0, x1), (0, x2), (0, x3), v4] [] T V = some ((0, x2), T, V) := by
  refine Eq.trans (ev_ldi (show zcode 193 97 = some (4, 98, 2, 0, []) by decide +kernel) rfl) ?_
  exact ev_ri (show zcode 193 98 = some (72, 99, 0, 0, []) by decide +kernel)
/-! 194: TwoWayWallModel.isWord(III)Z -/
theorem e194 {T : zT} {V : zM} {x1 : Int} {x2 : Int} {x3 : Int} : zcall 194 [(2, 130), (0, x1), (0, x2), (0, x3)] T V = ev 194 0 [(2, 130), (0, x1), (0, x2), (0, x3), (9, 0), (9, 0), (9, 0)] [] T V := rfl
theorem b194_0 {T : zT} {V : zM} {x1 : Int} {x2 : Int} {x3 : Int} : ev 194 0 [(2, 130), (0, x1), (0, x2), (0, x3), (9, 0), (9, 0), (9, 0)] [] T V = ev 194 3 [(2, 130), (0, x1), (0, x2), (0, x3), (0, 0), (9, 0), (9, 0)] [] T V := by
  refine Eq.trans (ev_ci (show zcode 194 0 = some (0, 1, 0, 0, []) by decide +kernel) (by decide)) ?_
  exact ev_sti (show zcode 194 1 = some (7, 3, 4, 0, []) by decide +kernel) ⟨show 4 < 7 by decide, Or.inr (show ¬ (0 : Nat) = 1 by decide)⟩
theorem b194_3 {T : zT} {V : zM} {x1 : Int} {x2 : Int} {x3 : Int} {x4 : Int} {v5 : zV} {v6 : zV} (hS : zStr T) (h1 : -2147483648 ≤ (284 + x1) ∧ (284 + x1) ≤ 2147483647) (h2 : (0 : Int) ≤ (284 + x1) ∧ (284 + x1) < 428) : ev 194 3 [(2, 130), (0, x1), (0, x2), (0, x3), (0, x4), v5, v6] [] T V = if (V 132 (284 + x1)) ≤ x4 then ev 194 118 [(2, 130), (0, x1), (0, x2), (0, x3), (0, x4), v5, v6] [] T V else ev 194 18 [(2, 130), (0, x1), (0, x2), (0, x3), (0, x4), v5, v6] [] T V := by
  refine Eq.trans (ev_ldi (show zcode 194 3 = some (4, 5, 4, 0, []) by decide +kernel) rfl) ?_
  refine Eq.trans (ev_lda (show zcode 194 5 = some (6, 6, 0, 0, []) by decide +kernel) rfl (by decide)) ?_
  refine Eq.trans (ev_gq (show zcode 194 6 = some (56, 9, 12, 4, []) by decide +kernel) (so130 hS) (sp130_4 hS)) ?_
  refine Eq.trans (ev_ci (show zcode 194 9 = some (0, 12, 0, 284, []) by decide +kernel) (by decide)) ?_
  refine Eq.trans (ev_ldi (show zcode 194 12 = some (4, 13, 1, 0, []) by decide +kernel) rfl) ?_
  refine Eq.trans (ev_add (show zcode 194 13 = some (11, 14, 0, 0, []) by decide +kernel) h1) ?_
  refine Eq.trans (ev_ia (show zcode 194 14 = some (60, 15, 0, 0, []) by decide +kernel) (sa132 hS) h2) ?_
  exact ev_cge (show zcode 194 15 = some (49, 18, 118, 0, []) by decide +kernel)
theorem b194_18 {T : zT} {V : zM} {x1 : Int} {x2 : Int} {x3 : Int} {x4 : Int} {v5 : zV} {v6 : zV} (hS : zStr T)  : ev 194 18 [(2, 130), (0, x1), (0, x2), (0, x3), (0, x4), v5, v6] [] T V = (zcall 187 [(2, 130), (0, x1), (0, x4), (0, 1)] T V).bind fun x => ev 194 26 [(2, 130), (0, x1), (0, x2), (0, x3), (0, x4), v5, v6] (z_push x.1 []) x.2.1 x.2.2 := by
  refine Eq.trans (ev_lda (show zcode 194 18 = some (6, 19, 0, 0, []) by decide +kernel) rfl (by decide)) ?_
  refine Eq.trans (ev_ldi (show zcode 194 19 = some (4, 20, 1, 0, []) by decide +kernel) rfl) ?_
  refine Eq.trans (ev_ldi (show zcode 194 20 = some (4, 22, 4, 0, []) by decide +kernel) rfl) ?_
  refine Eq.trans (ev_ci (show zcode 194 22 = some (0, 23, 0, 1, []) by decide +kernel) (by decide)) ?_
  exact ev_cvirt (show zcode 194 23 = some (76, 26, 187, 4, [12]) by decide +kernel) (args := [(0, x1), (0, x4), (0, 1)]) (rest := []) rfl (so130 hS) rfl (show 0 ≤ 8 by decide) ⟨by decide, show 4 ≤ 4 by decide⟩
theorem b194_26 {T : zT} {V : zM} {x1 : Int} {x2 : Int} {x3 : Int} {x4 : Int} {v5 : zV} {v6 : zV} {y0 : Int} (h1 : -2147483648 ≤ (x3 - x2) ∧ (x3 - x2) ≤ 2147483647) : ev 194 26 [(2, 130), (0, x1), (0, x2), (0, x3), (0, x4), v5, v6] [(0, y0)] T V = if y0 = (x3 - x2) then ev 194 32 [(2, 130), (0, x1), (0, x2), (0, x3), (0, x4), v5, v6] [] T V else ev 194 36 [(2, 130), (0, x1), (0, x2), (0, x3), (0, x4), v5, v6] [] T V := by
  refine Eq.trans (ev_ldi (show zcode 194 26 = some (4, 27, 3, 0, []) by decide +kernel) rfl) ?_
  refine Eq.trans (ev_ldi (show zcode 194 27 = some (4, 28, 2, 0, []) by decide +kernel) rfl) ?_
  refine Eq.trans (ev_sub (show zcode 194 28 = some (12, 29, 0, 0, []) by decide +kernel) h1) ?_
  exact ev_cne (show zcode 194 29 = some (47, 32, 36, 0, []) by decide +kernel)
theorem b194_32 {T : zT} {V : zM} {x1 : Int} {x2 : Int} {x3 : Int} {x4 : Int} {v5 : zV} {v6 : zV} : ev 194 32 [(2, 130), (0, x1), (0, x2), (0, x3), (0, x4), v5, v6] [] T V = ev 194 37 [(2, 130), (0, x1), (0, x2), (0, x3), (0, x4), v5, v6] [(0, 1)] T V := by
  refine Eq.trans (ev_ci (show zcode 194 32 = some (0, 33, 0, 1, []) by decide +kernel) (by decide)) ?_
  exact ev_goto (show zcode 194 33 = some (53, 36, 37, 0, []) by decide +kernel)
theorem b194_36 {T : zT} {V : zM} {x1 : Int} {x2 : Int} {x3 : Int} {x4 : Int} {v5 : zV} {v6 : zV} : ev 194 36 [(2, 130), (0, x1), (0, x2), (0, x3), (0, x4), v5, v6] [] T V = ev 194 37 [(2, 130), (0, x1), (0, x2), (0, x3), (0, x4), v5, v6] [(0, 0)] T V := by
  exact ev_ci (show zcode 194 36 = some (0, 37, 0, 0, []) by decide +kernel) (by decide)
theorem b194_37 {T : zT} {V : zM} {x1 : Int} {x2 : Int} {x3 : Int} {x4 : Int} {v5 : zV} {v6 : zV} {y0 : Int} : ev 194 37 [(2, 130), (0, x1), (0, x2), (0, x3), (0, x4), v5, v6] [(0, y0)] T V = ev 194 42 [(2, 130), (0, x1), (0, x2), (0, x3), (0, x4), (0, y0), (0, 0)] [] T V := by
  refine Eq.trans (ev_sti (show zcode 194 37 = some (7, 39, 5, 0, []) by decide +kernel) ⟨show 5 < 7 by decide, Or.inr (show ¬ (0 : Nat) = 1 by decide)⟩) ?_
  refine Eq.trans (ev_ci (show zcode 194 39 = some (0, 40, 0, 0, []) by decide +kernel) (by decide)) ?_
  exact ev_sti (show zcode 194 40 = some (7, 42, 6, 0, []) by decide +kernel) ⟨show 6 < 7 by decide, Or.inr (show ¬ (0 : Nat) = 1 by decide)⟩
theorem b194_42 {T : zT} {V : zM} {x1 : Int} {x2 : Int} {x3 : Int} {x4 : Int} {x5 : Int} {x6 : Int} (h1 : -2147483648 ≤ (x3 - x2) ∧ (x3 - x2) ≤ 2147483647) : ev 194 42 [(2, 130), (0, x1), (0, x2), (0, x3), (0, x4), (0, x5), (0, x6)] [] T V = if (x3 - x2) ≤ x6 then ev 194 105 [(2, 130), (0, x1), (0, x2), (0, x3), (0, x4), (0, x5), (0, x6)] [] T V else ev 194 50 [(2, 130), (0, x1), (0, x2), (0, x3), (0, x4), (0, x5), (0, x6)] [] T V := by
  refine Eq.trans (ev_ldi (show zcode 194 42 = some (4, 44, 6, 0, []) by decide +kernel) rfl) ?_
  refine Eq.trans (ev_ldi (show zcode 194 44 = some (4, 45, 3, 0, []) by decide +kernel) rfl) ?_
  refine Eq.trans (ev_ldi (show zcode 194 45 = some (4, 46, 2, 0, []) by decide +kernel) rfl) ?_
  refine Eq.trans (ev_sub (show zcode 194 46 = some (12, 47, 0, 0, []) by decide +kernel) h1) ?_
  exact ev_cge (show zcode 194 47 = some (49, 50, 105, 0, []) by decide +kernel)
theorem b194_50 {T : zT} {V : zM} {x1 : Int} {x2 : Int} {x3 : Int} {x4 : Int} {x5 : Int} {x6 : Int} : ev 194 50 [(2, 130), (0, x1), (0, x2), (0, x3), (0, x4), (0, x5), (0, x6)] [] T V = if x5 = 0 then ev 194 105 [(2, 130), (0, x1), (0, x2), (0, x3), (0, x4), (0, x5), (0, x6)] [] T V else ev 194 55 [(2, 130), (0, x1), (0, x2), (0, x3), (0, x4), (0, x5), (0, x6)] [] T V := by
  refine Eq.trans (ev_ldi (show zcode 194 50 = some (4, 52, 5, 0, []) by decide +kernel) rfl) ?_
  exact ev_eq (show zcode 194 52 = some (40, 55, 105, 0, []) by decide +kernel)
theorem b194_55 {T : zT} {V : zM} {x1 : Int} {x2 : Int} {x3 : Int} {x4 : Int} {x5 : Int} {x6 : Int} (hS : zStr T) (h1 : -2147483648 ≤ (2 + x6) ∧ (2 + x6) ≤ 2147483647) : ev 194 55 [(2, 130), (0, x1), (0, x2), (0, x3), (0, x4), (0, x5), (0, x6)] [] T V = (zcall 187 [(2, 130), (0, x1), (0, x4), (0, (2 + x6))] T V).bind fun x => ev 194 66 [(2, 130), (0, x1), (0, x2), (0, x3), (0, x4), (0, x5), (0, x6)] (z_push x.1 []) x.2.1 x.2.2 := by
  refine Eq.trans (ev_lda (show zcode 194 55 = some (6, 56, 0, 0, []) by decide +kernel) rfl (by decide)) ?_
  refine Eq.trans (ev_ldi (show zcode 194 56 = some (4, 57, 1, 0, []) by decide +kernel) rfl) ?_
  refine Eq.trans (ev_ldi (show zcode 194 57 = some (4, 59, 4, 0, []) by decide +kernel) rfl) ?_
  refine Eq.trans (ev_ci (show zcode 194 59 = some (0, 60, 0, 2, []) by decide +kernel) (by decide)) ?_
  refine Eq.trans (ev_ldi (show zcode 194 60 = some (4, 62, 6, 0, []) by decide +kernel) rfl) ?_
  refine Eq.trans (ev_add (show zcode 194 62 = some (11, 63, 0, 0, []) by decide +kernel) h1) ?_
  exact ev_cvirt (show zcode 194 63 = some (76, 66, 187, 4, [12]) by decide +kernel) (args := [(0, x1), (0, x4), (0, (2 + x6))]) (rest := []) rfl (so130 hS) rfl (show 0 ≤ 8 by decide) ⟨by decide, show 4 ≤ 4 by decide⟩
theorem b194_66 {T : zT} {V : zM} {x1 : Int} {x2 : Int} {x3 : Int} {x4 : Int} {x5 : Int} {x6 : Int} {y0 : Int} (hS : zStr T) (h1 : -2147483648 ≤ (x2 + x6) ∧ (x2 + x6) ≤ 2147483647) : ev 194 66 [(2, 130), (0, x1), (0, x2), (0, x3), (0, x4), (0, x5), (0, x6)] [(0, y0)] T V = (zcall 192 [(2, 130), (0, x1), (0, (x2 + x6))] T V).bind fun x => ev 194 84 [(2, 130), (0, x1), (0, x2), (0, x3), (0, x4), (0, x5), (0, x6)] (z_push x.1 [(0, 300), (2, 132), (0, x1), (2, 130), (0, y0)]) x.2.1 x.2.2 := by
  refine Eq.trans (ev_lda (show zcode 194 66 = some (6, 67, 0, 0, []) by decide +kernel) rfl (by decide)) ?_
  refine Eq.trans (ev_ldi (show zcode 194 67 = some (4, 68, 1, 0, []) by decide +kernel) rfl) ?_
  refine Eq.trans (ev_lda (show zcode 194 68 = some (6, 69, 0, 0, []) by decide +kernel) rfl (by decide)) ?_
  refine Eq.trans (ev_gq (show zcode 194 69 = some (56, 72, 12, 4, []) by decide +kernel) (so130 hS) (sp130_4 hS)) ?_
  refine Eq.trans (ev_ci (show zcode 194 72 = some (0, 75, 0, 300, []) by decide +kernel) (by decide)) ?_
  refine Eq.trans (ev_lda (show zcode 194 75 = some (6, 76, 0, 0, []) by decide +kernel) rfl (by decide)) ?_
  refine Eq.trans (ev_ldi (show zcode 194 76 = some (4, 77, 1, 0, []) by decide +kernel) rfl) ?_
  refine Eq.trans (ev_ldi (show zcode 194 77 = some (4, 78, 2, 0, []) by decide +kernel) rfl) ?_
  refine Eq.trans (ev_ldi (show zcode 194 78 = some (4, 80, 6, 0, []) by decide +kernel) rfl) ?_
  refine Eq.trans (ev_add (show zcode 194 80 = some (11, 81, 0, 0, []) by decide +kernel) h1) ?_
  exact ev_cvirt (show zcode 194 81 = some (76, 84, 192, 3, [12]) by decide +kernel) (args := [(0, x1), (0, (x2 + x6))]) (rest := [(0, 300), (2, 132), (0, x1), (2, 130), (0, y0)]) rfl (so130 hS) rfl (show 5 ≤ 8 by decide) ⟨by decide, show 3 ≤ 3 by decide⟩
theorem b194_84 {T : zT} {V : zM} {x1 : Int} {x2 : Int} {x3 : Int} {x4 : Int} {x5 : Int} {x6 : Int} {y0 : Int} {y2 : Int} {y4 : Int} {y5 : Int} (hS : zStr T) (h1 : -2147483648 ≤ (y4 + y5) ∧ (y4 + y5) ≤ 2147483647) (h2 : (0 : Int) ≤ (y4 + y5) ∧ (y4 + y5) < 428) : ev 194 84 [(2, 130), (0, x1), (0, x2), (0, x3), (0, x4), (0, x5), (0, x6)] [(0, y5), (0, y4), (2, 132), (0, y2), (2, 130), (0, y0)] T V = (zcall 189 [(2, 130), (0, y2), (0, (V 132 (y4 + y5)))] T V).bind fun x => ev 194 89 [(2, 130), (0, x1), (0, x2), (0, x3), (0, x4), (0, x5), (0, x6)] (z_push x.1 [(0, y0)]) x.2.1 x.2.2 := by
  refine Eq.trans (ev_add (show zcode 194 84 = some (11, 85, 0, 0, []) by decide +kernel) h1) ?_
  refine Eq.trans (ev_ia (show zcode 194 85 = some (60, 86, 0, 0, []) by decide +kernel) (sa132 hS) h2) ?_
  exact ev_cvirt (show zcode 194 86 = some (76, 89, 189, 3, [12]) by decide +kernel) (args := [(0, y2), (0, (V 132 (y4 + y5)))]) (rest := [(0, y0)]) rfl (so130 hS) rfl (show 1 ≤ 8 by decide) ⟨by decide, show 3 ≤ 5 by decide⟩
theorem b194_89 {T : zT} {V : zM} {x1 : Int} {x2 : Int} {x3 : Int} {x4 : Int} {x5 : Int} {x6 : Int} {y0 : Int} {y1 : Int} : ev 194 89 [(2, 130), (0, x1), (0, x2), (0, x3), (0, x4), (0, x5), (0, x6)] [(0, y1), (0, y0)] T V = if y0 = y1 then ev 194 92 [(2, 130), (0, x1), (0, x2), (0, x3), (0, x4), (0, x5), (0, x6)] [] T V else ev 194 96 [(2, 130), (0, x1), (0, x2), (0, x3), (0, x4), (0, x5), (0, x6)] [] T V := by
  exact ev_cne (show zcode 194 89 = some (47, 92, 96, 0, []) by decide +kernel)
theorem b194_92 {T : zT} {V : zM} {x1 : Int} {x2 : Int} {x3 : Int} {x4 : Int} {x5 : Int} {x6 : Int} : ev 194 92 [(2, 130), (0, x1), (0, x2), (0, x3), (0, x4), (0, x5), (0, x6)] [] T V = ev 194 97 [(2, 130), (0, x1), (0, x2), (0, x3), (0, x4), (0, x5), (0, x6)] [(0, 1)] T V := by
  refine Eq.trans (ev_ci (show zcode 194 92 = some (0, 93, 0, 1, []) by decide +kernel) (by decide)) ?_
  exact ev_goto (show zcode 194 93 = some (53, 96, 97, 0, []) by decide +kernel)
theorem b194_96 {T : zT} {V : zM} {x1 : Int} {x2 : Int} {x3 : Int} {x4 : Int} {x5 : Int} {x6 : Int} : ev 194 96 [(2, 130), (0, x1), (0, x2), (0, x3), (0, x4), (0, x5), (0, x6)] [] T V = ev 194 97 [(2, 130), (0, x1), (0, x2), (0, x3), (0, x4), (0, x5), (0, x6)] [(0, 0)] T V := by
  exact ev_ci (show zcode 194 96 = some (0, 97, 0, 0, []) by decide +kernel) (by decide)
theorem b194_97 {T : zT} {V : zM} {x1 : Int} {x2 : Int} {x3 : Int} {x4 : Int} {x5 : Int} {x6 : Int} {y0 : Int} (h1 : -2147483648 ≤ (x6 + 1) ∧ (x6 + 1) ≤ 2147483647) : ev 194 97 [(2, 130), (0, x1), (0, x2), (0, x3), (0, x4), (0, x5), (0, x6)] [(0, y0)] T V = ev 194 42 [(2, 130), (0, x1), (0, x2), (0, x3), (0, x4), (0, y0), (0, (x6 + 1))] [] T V := by
  refine Eq.trans (ev_sti (show zcode 194 97 = some (7, 99, 5, 0, []) by decide +kernel) ⟨show 5 < 7 by decide, Or.inr (show ¬ (0 : Nat) = 1 by decide)⟩) ?_
  refine Eq.trans (ev_inc (show zcode 194 99 = some (10, 102, 6, 1, []) by decide +kernel) rfl h1 (Or.inr (show ¬ (0 : Nat) = 1 by decide))) ?_
  exact ev_goto (show zcode 194 102 = some (53, 105, 42, 0, []) by decide +kernel)
theorem b194_105 {T : zT} {V : zM} {x1 : Int} {x2 : Int} {x3 : Int} {x4 : Int} {x5 : Int} {x6 : Int} : ev 194 105 [(2, 130), (0, x1), (0, x2), (0, x3), (0, x4), (0, x5), (0, x6)] [] T V = if x5 = 0 then ev 194 112 [(2, 130), (0, x1), (0, x2), (0, x3), (0, x4), (0, x5), (0, x6)] [] T V else ev 194 110 [(2, 130), (0, x1), (0, x2), (0, x3), (0, x4), (0, x5), (0, x6)] [] T V := by
  refine Eq.trans (ev_ldi (show zcode 194 105 = some (4, 107, 5, 0, []) by decide +kernel) rfl) ?_
  exact ev_eq (show zcode 194 107 = some (40, 110, 112, 0, []) by decide +kernel)
theorem b194_110 {T : zT} {V : zM} {x1 : Int} {x2 : Int} {x3 : Int} {x4 : Int} {x5 : Int} {x6 : Int} : ev 194 110 [(2, 130), (0, x1), (0, x2), (0, x3), (0, x4), (0, x5), (0, x6)] [] T V = some ((0, 1), T, V) := by
  refine Eq.trans (ev_ci (show zcode 194 110 = some (0, 111, 0, 1, []) by decide +kernel) (by decide)) ?_
  exact ev_rz (show zcode 194 111 = some (72, 112, 3, 0, []) by decide +kernel) (by decide)
theorem b194_112 {T : zT} {V : zM} {x1 : Int} {x2 : Int} {x3 : Int} {x4 : Int} {x5 : Int} {x6 : Int} (h1 : -2147483648 ≤ (x4 + 1) ∧ (x4 + 1) ≤ 2147483647) : ev 194 112 [(2, 130), (0, x1), (0, x2), (0, x3), (0, x4), (0, x5), (0, x6)] [] T V = ev 194 3 [(2, 130), (0, x1), (0, x2), (0, x3), (0, (x4 + 1)), (0, x5), (0, x6)] [] T V := by
  refine Eq.trans (ev_inc (show zcode 194 112 = some (10, 115, 4, 1, []) by decide +kernel) rfl h1 (Or.inr (show ¬ (0 : Nat) = 1 by decide))) ?_
  exact ev_goto (show zcode 194 115 = some (53, 118, 3, 0, []) by decide +kernel)
theorem b194_118 {T : zT} {V : zM} {x1 : Int} {x2 : Int} {x3 : Int} {x4 : Int} {v5 : zV} {v6 : zV} : ev 194 118 [(2, 130), (0, x1), (0, x2), (0, x3), (0, x4), v5, v6] [] T V = some ((0, 0), T, V) := by
  refine Eq.trans (ev_ci (show zcode 194 118 = some (0, 119, 0, 0, []) by decide +kernel) (by decide)) ?_
  exact ev_rz (show zcode 194 119 = some (72, 120, 3, 0, []) by decide +kernel) (by decide)
/-! 195: TwoWayWallModel.pair(III)I -/
theorem e195 {T : zT} {V : zM} {x1 : Int} {x2 : Int} {x3 : Int} : zcall 195 [(2, 130), (0, x1), (0, x2), (0, x3)] T V = ev 195 0 [(2, 130), (0, x1), (0, x2), (0, x3), (9, 0), (9, 0), (9, 0)] [] T V := rfl
theorem b195_0 {T : zT} {V : zM} {x1 : Int} {x2 : Int} {x3 : Int} : ev 195 0 [(2, 130), (0, x1), (0, x2), (0, x3), (9, 0), (9, 0), (9, 0)] [] T V = (zcall 196 [(0, x1)] T V).bind fun x => ev 195 4 [(2, 130), (0, x1), (0, x2), (0, x3), (9, 0), (9, 0), (9, 0)] (z_push x.1 []) x.2.1 x.2.2 := by
  refine Eq.trans (ev_ldi (show zcode 195 0 = some (4, 1, 1, 0, []) by decide +kernel) rfl) ?_
  exact ev_cstat (show zcode 195 1 = some (74, 4, 196, 1, []) by decide +kernel) (args := [(0, x1)]) (rest := []) rfl rfl (show 0 ≤ 8 by decide) ⟨by decide, show 1 ≤ 1 by decide⟩
theorem b195_4 {T : zT} {V : zM} {x1 : Int} {x2 : Int} {x3 : Int} {y0 : Int} : ev 195 4 [(2, 130), (0, x1), (0, x2), (0, x3), (9, 0), (9, 0), (9, 0)] [(0, y0)] T V = if y0 = 0 then ev 195 23 [(2, 130), (0, x1), (0, x2), (0, x3), (9, 0), (9, 0), (9, 0)] [] T V else ev 195 7 [(2, 130), (0, x1), (0, x2), (0, x3), (9, 0), (9, 0), (9, 0)] [] T V := by
  exact ev_eq (show zcode 195 4 = some (40, 7, 23, 0, []) by decide +kernel)
theorem b195_7 {T : zT} {V : zM} {x1 : Int} {x2 : Int} {x3 : Int} : ev 195 7 [(2, 130), (0, x1), (0, x2), (0, x3), (9, 0), (9, 0), (9, 0)] [] T V = (zcall 196 [(0, x2)] T V).bind fun x => ev 195 11 [(2, 130), (0, x1), (0, x2), (0, x3), (9, 0), (9, 0), (9, 0)] (z_push x.1 []) x.2.1 x.2.2 := by
  refine Eq.trans (ev_ldi (show zcode 195 7 = some (4, 8, 2, 0, []) by decide +kernel) rfl) ?_
  exact ev_cstat (show zcode 195 8 = some (74, 11, 196, 1, []) by decide +kernel) (args := [(0, x2)]) (rest := []) rfl rfl (show 0 ≤ 8 by decide) ⟨by decide, show 1 ≤ 1 by decide⟩
theorem b195_11 {T : zT} {V : zM} {x1 : Int} {x2 : Int} {x3 : Int} {y0 : Int} : ev 195 11 [(2, 130), (0, x1), (0, x2), (0, x3), (9, 0), (9, 0), (9, 0)] [(0, y0)] T V = if y0 = 0 then ev 195 23 [(2, 130), (0, x1), (0, x2), (0, x3), (9, 0), (9, 0), (9, 0)] [] T V else ev 195 14 [(2, 130), (0, x1), (0, x2), (0, x3), (9, 0), (9, 0), (9, 0)] [] T V := by
  exact ev_eq (show zcode 195 11 = some (40, 14, 23, 0, []) by decide +kernel)
theorem b195_14 {T : zT} {V : zM} {x1 : Int} {x2 : Int} {x3 : Int} : ev 195 14 [(2, 130), (0, x1), (0, x2), (0, x3), (9, 0), (9, 0), (9, 0)] [] T V = (zcall 150 [(0, x3), (0, 0), (0, 1)] T V).bind fun x => ev 195 20 [(2, 130), (0, x1), (0, x2), (0, x3), (9, 0), (9, 0), (9, 0)] (z_push x.1 []) x.2.1 x.2.2 := by
  refine Eq.trans (ev_ldi (show zcode 195 14 = some (4, 15, 3, 0, []) by decide +kernel) rfl) ?_
  refine Eq.trans (ev_ci (show zcode 195 15 = some (0, 16, 0, 0, []) by decide +kernel) (by decide)) ?_
  refine Eq.trans (ev_ci (show zcode 195 16 = some (0, 17, 0, 1, []) by decide +kernel) (by decide)) ?_
  exact ev_cstat (show zcode 195 17 = some (74, 20, 150, 3, []) by decide +kernel) (args := [(0, x3), (0, 0), (0, 1)]) (rest := []) rfl rfl (show 0 ≤ 8 by decide) ⟨by decide, show 3 ≤ 3 by decide⟩
theorem b195_20 {T : zT} {V : zM} {x1 : Int} {x2 : Int} {x3 : Int} {y0 : Int} : ev 195 20 [(2, 130), (0, x1), (0, x2), (0, x3), (9, 0), (9, 0), (9, 0)] [(0, y0)] T V = if y0 = 0 then ev 195 23 [(2, 130), (0, x1), (0, x2), (0, x3), (9, 0), (9, 0), (9, 0)] [] T V else ev 195 25 [(2, 130), (0, x1), (0, x2), (0, x3), (9, 0), (9, 0), (9, 0)] [] T V := by
  exact ev_ne (show zcode 195 20 = some (41, 23, 25, 0, []) by decide +kernel)
theorem b195_23 {T : zT} {V : zM} {x1 : Int} {x2 : Int} {x3 : Int} : ev 195 23 [(2, 130), (0, x1), (0, x2), (0, x3), (9, 0), (9, 0), (9, 0)] [] T V = some ((0, (-1)), T, V) := by
  refine Eq.trans (ev_ci (show zcode 195 23 = some (0, 24, 0, (-1), []) by decide +kernel) (by decide)) ?_
  exact ev_ri (show zcode 195 24 = some (72, 25, 0, 0, []) by decide +kernel)
theorem b195_25 {T : zT} {V : zM} {x1 : Int} {x2 : Int} {x3 : Int} (hS : zStr T)  : ev 195 25 [(2, 130), (0, x1), (0, x2), (0, x3), (9, 0), (9, 0), (9, 0)] [] T V = (zcall 197 [(2, 130)] T V).bind fun x => ev 195 29 [(2, 130), (0, x1), (0, x2), (0, x3), (9, 0), (9, 0), (9, 0)] (z_push x.1 []) x.2.1 x.2.2 := by
  refine Eq.trans (ev_lda (show zcode 195 25 = some (6, 26, 0, 0, []) by decide +kernel) rfl (by decide)) ?_
  exact ev_cvirt (show zcode 195 26 = some (76, 29, 197, 1, [12]) by decide +kernel) (args := []) (rest := []) rfl (so130 hS) rfl (show 0 ≤ 8 by decide) ⟨by decide, show 1 ≤ 2 by decide⟩
theorem b195_29 {T : zT} {V : zM} {x1 : Int} {x2 : Int} {x3 : Int} : ev 195 29 [(2, 130), (0, x1), (0, x2), (0, x3), (9, 0), (9, 0), (9, 0)] [] T V = ev 195 38 [(2, 130), (0, x1), (0, x2), (0, x3), (0, 0), (0, (-1)), (0, 0)] [] T V := by
  refine Eq.trans (ev_ci (show zcode 195 29 = some (0, 30, 0, 0, []) by decide +kernel) (by decide)) ?_
  refine Eq.trans (ev_sti (show zcode 195 30 = some (7, 32, 4, 0, []) by decide +kernel) ⟨show 4 < 7 by decide, Or.inr (show ¬ (0 : Nat) = 1 by decide)⟩) ?_
  refine Eq.trans (ev_ci (show zcode 195 32 = some (0, 33, 0, (-1), []) by decide +kernel) (by decide)) ?_
  refine Eq.trans (ev_sti (show zcode 195 33 = some (7, 35, 5, 0, []) by decide +kernel) ⟨show 5 < 7 by decide, Or.inr (show ¬ (0 : Nat) = 1 by decide)⟩) ?_
  refine Eq.trans (ev_ci (show zcode 195 35 = some (0, 36, 0, 0, []) by decide +kernel) (by decide)) ?_
  exact ev_sti (show zcode 195 36 = some (7, 38, 6, 0, []) by decide +kernel) ⟨show 6 < 7 by decide, Or.inr (show ¬ (0 : Nat) = 1 by decide)⟩
theorem b195_38 {T : zT} {V : zM} {x1 : Int} {x2 : Int} {x3 : Int} {x4 : Int} {x5 : Int} {x6 : Int} : ev 195 38 [(2, 130), (0, x1), (0, x2), (0, x3), (0, x4), (0, x5), (0, x6)] [] T V = if 128 ≤ x6 then ev 195 111 [(2, 130), (0, x1), (0, x2), (0, x3), (0, x4), (0, x5), (0, x6)] [] T V else ev 195 46 [(2, 130), (0, x1), (0, x2), (0, x3), (0, x4), (0, x5), (0, x6)] [] T V := by
  refine Eq.trans (ev_ldi (show zcode 195 38 = some (4, 40, 6, 0, []) by decide +kernel) rfl) ?_
  refine Eq.trans (ev_ci (show zcode 195 40 = some (0, 43, 0, 128, []) by decide +kernel) (by decide)) ?_
  exact ev_cge (show zcode 195 43 = some (49, 46, 111, 0, []) by decide +kernel)
theorem b195_46 {T : zT} {V : zM} {x1 : Int} {x2 : Int} {x3 : Int} {x4 : Int} {x5 : Int} {x6 : Int} (hS : zStr T) (h1 : (0 : Int) ≤ x6 ∧ x6 < 128) : ev 195 46 [(2, 130), (0, x1), (0, x2), (0, x3), (0, x4), (0, x5), (0, x6)] [] T V = (zcall 198 [(0, x1)] T V).bind fun x => ev 195 57 [(2, 130), (0, x1), (0, x2), (0, x3), (0, x4), (0, x5), (0, x6)] (z_push x.1 [(0, (V 142 x6))]) x.2.1 x.2.2 := by
  refine Eq.trans (ev_lda (show zcode 195 46 = some (6, 47, 0, 0, []) by decide +kernel) rfl (by decide)) ?_
  refine Eq.trans (ev_gq (show zcode 195 47 = some (56, 50, 12, 22, []) by decide +kernel) (so130 hS) (sp130_22 hS)) ?_
  refine Eq.trans (ev_ldi (show zcode 195 50 = some (4, 52, 6, 0, []) by decide +kernel) rfl) ?_
  refine Eq.trans (ev_ia (show zcode 195 52 = some (60, 53, 0, 0, []) by decide +kernel) (sa142 hS) h1) ?_
  refine Eq.trans (ev_ldi (show zcode 195 53 = some (4, 54, 1, 0, []) by decide +kernel) rfl) ?_
  exact ev_cstat (show zcode 195 54 = some (74, 57, 198, 1, []) by decide +kernel) (args := [(0, x1)]) (rest := [(0, (V 142 x6))]) rfl rfl (show 1 ≤ 8 by decide) ⟨by decide, show 1 ≤ 1 by decide⟩
theorem b195_57 {T : zT} {V : zM} {x1 : Int} {x2 : Int} {x3 : Int} {x4 : Int} {x5 : Int} {x6 : Int} {y0 : Int} {y1 : Int} : ev 195 57 [(2, 130), (0, x1), (0, x2), (0, x3), (0, x4), (0, x5), (0, x6)] [(0, y1), (0, y0)] T V = if y0 = y1 then ev 195 60 [(2, 130), (0, x1), (0, x2), (0, x3), (0, x4), (0, x5), (0, x6)] [] T V else ev 195 105 [(2, 130), (0, x1), (0, x2), (0, x3), (0, x4), (0, x5), (0, x6)] [] T V := by
  exact ev_cne (show zcode 195 57 = some (47, 60, 105, 0, []) by decide +kernel)
theorem b195_60 {T : zT} {V : zM} {x1 : Int} {x2 : Int} {x3 : Int} {x4 : Int} {x5 : Int} {x6 : Int} (hS : zStr T) (h1 : (0 : Int) ≤ x6 ∧ x6 < 128) : ev 195 60 [(2, 130), (0, x1), (0, x2), (0, x3), (0, x4), (0, x5), (0, x6)] [] T V = (zcall 198 [(0, x2)] T V).bind fun x => ev 195 71 [(2, 130), (0, x1), (0, x2), (0, x3), (0, x4), (0, x5), (0, x6)] (z_push x.1 [(0, (V 143 x6))]) x.2.1 x.2.2 := by
  refine Eq.trans (ev_lda (show zcode 195 60 = some (6, 61, 0, 0, []) by decide +kernel) rfl (by decide)) ?_
  refine Eq.trans (ev_gq (show zcode 195 61 = some (56, 64, 12, 23, []) by decide +kernel) (so130 hS) (sp130_23 hS)) ?_
  refine Eq.trans (ev_ldi (show zcode 195 64 = some (4, 66, 6, 0, []) by decide +kernel) rfl) ?_
  refine Eq.trans (ev_ia (show zcode 195 66 = some (60, 67, 0, 0, []) by decide +kernel) (sa143 hS) h1) ?_
  refine Eq.trans (ev_ldi (show zcode 195 67 = some (4, 68, 2, 0, []) by decide +kernel) rfl) ?_
  exact ev_cstat (show zcode 195 68 = some (74, 71, 198, 1, []) by decide +kernel) (args := [(0, x2)]) (rest := [(0, (V 143 x6))]) rfl rfl (show 1 ≤ 8 by decide) ⟨by decide, show 1 ≤ 1 by decide⟩
theorem b195_71 {T : zT} {V : zM} {x1 : Int} {x2 : Int} {x3 : Int} {x4 : Int} {x5 : Int} {x6 : Int} {y0 : Int} {y1 : Int} : ev 195 71 [(2, 130), (0, x1), (0, x2), (0, x3), (0, x4), (0, x5), (0, x6)] [(0, y1), (0, y0)] T V = if y0 = y1 then ev 195 77 [(2, 130), (0, x1), (0, x2), (0, x3), (0, x4), (0, x5), (0, x6)] [] T V else ev 195 74 [(2, 130), (0, x1), (0, x2), (0, x3), (0, x4), (0, x5), (0, x6)] [] T V := by
  exact ev_ceq (show zcode 195 71 = some (46, 74, 77, 0, []) by decide +kernel)
theorem b195_74 {T : zT} {V : zM} {x1 : Int} {x2 : Int} {x3 : Int} {x4 : Int} {x5 : Int} {x6 : Int} : ev 195 74 [(2, 130), (0, x1), (0, x2), (0, x3), (0, x4), (0, x5), (0, x6)] [] T V = ev 195 105 [(2, 130), (0, x1), (0, x2), (0, x3), (0, x4), (0, x5), (0, x6)] [] T V := by
  exact ev_goto (show zcode 195 74 = some (53, 77, 105, 0, []) by decide +kernel)
theorem b195_77 {T : zT} {V : zM} {x1 : Int} {x2 : Int} {x3 : Int} {x4 : Int} {x5 : Int} {x6 : Int} (h1 : -2147483648 ≤ (x4 + 1) ∧ (x4 + 1) ≤ 2147483647) : ev 195 77 [(2, 130), (0, x1), (0, x2), (0, x3), (0, x4), (0, x5), (0, x6)] [] T V = if x5 = (-1) then ev 195 101 [(2, 130), (0, x1), (0, x2), (0, x3), (0, (x4 + 1)), (0, x5), (0, x6)] [] T V else ev 195 86 [(2, 130), (0, x1), (0, x2), (0, x3), (0, (x4 + 1)), (0, x5), (0, x6)] [] T V := by
  refine Eq.trans (ev_inc (show zcode 195 77 = some (10, 80, 4, 1, []) by decide +kernel) rfl h1 (Or.inr (show ¬ (0 : Nat) = 1 by decide))) ?_
  refine Eq.trans (ev_ldi (show zcode 195 80 = some (4, 82, 5, 0, []) by decide +kernel) rfl) ?_
  refine Eq.trans (ev_ci (show zcode 195 82 = some (0, 83, 0, (-1), []) by decide +kernel) (by decide)) ?_
  exact ev_ceq (show zcode 195 83 = some (46, 86, 101, 0, []) by decide +kernel)
theorem b195_86 {T : zT} {V : zM} {x1 : Int} {x2 : Int} {x3 : Int} {x4 : Int} {x5 : Int} {x6 : Int} (hS : zStr T)  : ev 195 86 [(2, 130), (0, x1), (0, x2), (0, x3), (0, x4), (0, x5), (0, x6)] [] T V = (zcall 199 [(2, 130), (0, x6)] T V).bind fun x => ev 195 92 [(2, 130), (0, x1), (0, x2), (0, x3), (0, x4), (0, x5), (0, x6)] (z_push x.1 []) x.2.1 x.2.2 := by
  refine Eq.trans (ev_lda (show zcode 195 86 = some (6, 87, 0, 0, []) by decide +kernel) rfl (by decide)) ?_
  refine Eq.trans (ev_ldi (show zcode 195 87 = some (4, 89, 6, 0, []) by decide +kernel) rfl) ?_
  exact ev_cvirt (show zcode 195 89 = some (76, 92, 199, 2, [12]) by decide +kernel) (args := [(0, x6)]) (rest := []) rfl (so130 hS) rfl (show 0 ≤ 8 by decide) ⟨by decide, show 2 ≤ 4 by decide⟩
theorem b195_92 {T : zT} {V : zM} {x1 : Int} {x2 : Int} {x3 : Int} {x4 : Int} {x5 : Int} {x6 : Int} {y0 : Int} (hS : zStr T)  : ev 195 92 [(2, 130), (0, x1), (0, x2), (0, x3), (0, x4), (0, x5), (0, x6)] [(0, y0)] T V = (zcall 199 [(2, 130), (0, x5)] T V).bind fun x => ev 195 98 [(2, 130), (0, x1), (0, x2), (0, x3), (0, x4), (0, x5), (0, x6)] (z_push x.1 [(0, y0)]) x.2.1 x.2.2 := by
  refine Eq.trans (ev_lda (show zcode 195 92 = some (6, 93, 0, 0, []) by decide +kernel) rfl (by decide)) ?_
  refine Eq.trans (ev_ldi (show zcode 195 93 = some (4, 95, 5, 0, []) by decide +kernel) rfl) ?_
  exact ev_cvirt (show zcode 195 95 = some (76, 98, 199, 2, [12]) by decide +kernel) (args := [(0, x5)]) (rest := [(0, y0)]) rfl (so130 hS) rfl (show 1 ≤ 8 by decide) ⟨by decide, show 2 ≤ 4 by decide⟩
theorem b195_98 {T : zT} {V : zM} {x1 : Int} {x2 : Int} {x3 : Int} {x4 : Int} {x5 : Int} {x6 : Int} {y0 : Int} {y1 : Int} : ev 195 98 [(2, 130), (0, x1), (0, x2), (0, x3), (0, x4), (0, x5), (0, x6)] [(0, y1), (0, y0)] T V = if y1 ≤ y0 then ev 195 105 [(2, 130), (0, x1), (0, x2), (0, x3), (0, x4), (0, x5), (0, x6)] [] T V else ev 195 101 [(2, 130), (0, x1), (0, x2), (0, x3), (0, x4), (0, x5), (0, x6)] [] T V := by
  exact ev_cge (show zcode 195 98 = some (49, 101, 105, 0, []) by decide +kernel)
theorem b195_101 {T : zT} {V : zM} {x1 : Int} {x2 : Int} {x3 : Int} {x4 : Int} {x5 : Int} {x6 : Int} : ev 195 101 [(2, 130), (0, x1), (0, x2), (0, x3), (0, x4), (0, x5), (0, x6)] [] T V = ev 195 105 [(2, 130), (0, x1), (0, x2), (0, x3), (0, x4), (0, x6), (0, x6)] [] T V := by
  refine Eq.trans (ev_ldi (show zcode 195 101 = some (4, 103, 6, 0, []) by decide +kernel) rfl) ?_
  exact ev_sti (show zcode 195 103 = some (7, 105, 5, 0, []) by decide +kernel) ⟨show 5 < 7 by decide, Or.inr (show ¬ (0 : Nat) = 1 by decide)⟩
theorem b195_105 {T : zT} {V : zM} {x1 : Int} {x2 : Int} {x3 : Int} {x4 : Int} {x5 : Int} {x6 : Int} (h1 : -2147483648 ≤ (x6 + 1) ∧ (x6 + 1) ≤ 2147483647) : ev 195 105 [(2, 130), (0, x1), (0, x2), (0, x3), (0, x4), (0, x5), (0, x6)] [] T V = ev 195 38 [(2, 130), (0, x1), (0, x2), (0, x3), (0, x4), (0, x5), (0, (x6 + 1))] [] T V := by
  refine Eq.trans (ev_inc (show zcode 195 105 = some (10, 108, 6, 1, []) by decide +kernel) rfl h1 (Or.inr (show ¬ (0 : Nat) = 1 by decide))) ?_
  exact ev_goto (show zcode 195 108 = some (53, 111, 38, 0, []) by decide +kernel)
theorem b195_111 {T : zT} {V : zM} {x1 : Int} {x2 : Int} {x3 : Int} {x4 : Int} {x5 : Int} {x6 : Int} : ev 195 111 [(2, 130), (0, x1), (0, x2), (0, x3), (0, x4), (0, x5), (0, x6)] [] T V = if x3 = 0 then ev 195 115 [(2, 130), (0, x1), (0, x2), (0, x3), (0, x4), (0, x5), (0, x6)] [] T V else ev 195 120 [(2, 130), (0, x1), (0, x2), (0, x3), (0, x4), (0, x5), (0, x6)] [] T V := by
  refine Eq.trans (ev_ldi (show zcode 195 111 = some (4, 112, 3, 0, []) by decide +kernel) rfl) ?_
  exact ev_ne (show zcode 195 112 = some (41, 115, 120, 0, []) by decide +kernel)
theorem b195_115 {T : zT} {V : zM} {x1 : Int} {x2 : Int} {x3 : Int} {x4 : Int} {x5 : Int} {x6 : Int} : ev 195 115 [(2, 130), (0, x1), (0, x2), (0, x3), (0, x4), (0, x5), (0, x6)] [] T V = ev 195 122 [(2, 130), (0, x1), (0, x2), (0, x3), (0, x4), (0, x5), (0, x6)] [(0, x4)] T V := by
  refine Eq.trans (ev_ldi (show zcode 195 115 = some (4, 117, 4, 0, []) by decide +kernel) rfl) ?_
  exact ev_goto (show zcode 195 117 = some (53, 120, 122, 0, []) by decide +kernel)
theorem b195_120 {T : zT} {V : zM} {x1 : Int} {x2 : Int} {x3 : Int} {x4 : Int} {x5 : Int} {x6 : Int} : ev 195 120 [(2, 130), (0, x1), (0, x2), (0, x3), (0, x4), (0, x5), (0, x6)] [] T V = ev 195 122 [(2, 130), (0, x1), (0, x2), (0, x3), (0, x4), (0, x5), (0, x6)] [(0, x5)] T V := by
  exact ev_ldi (show zcode 195 120 = some (4, 122, 5, 0, []) by decide +kernel) rfl
theorem b195_122 {T : zT} {V : zM} {x1 : Int} {x2 : Int} {x3 : Int} {x4 : Int} {x5 : Int} {x6 : Int} {y0 : Int} : ev 195 122 [(2, 130), (0, x1), (0, x2), (0, x3), (0, x4), (0, x5), (0, x6)] [(0, y0)] T V = some ((0, y0), T, V) := by
  exact ev_ri (show zcode 195 122 = some (72, 123, 0, 0, []) by decide +kernel)
/-! 196: TwoWayWallModel.isSign(I)Z -/
theorem e196 {T : zT} {V : zM} {x0 : Int} : zcall 196 [(0, x0)] T V = ev 196 0 [(0, x0)] [] T V := rfl
theorem b196_0 {T : zT} {V : zM} {x0 : Int} : ev 196 0 [(0, x0)] [] T V = (zcall 150 [(0, x0), (0, (-1)), (0, 25)] T V).bind fun x => ev 196 7 [(0, x0)] (z_push x.1 []) x.2.1 x.2.2 := by
  refine Eq.trans (ev_ldi (show zcode 196 0 = some (4, 1, 0, 0, []) by decide +kernel) rfl) ?_
  refine Eq.trans (ev_ci (show zcode 196 1 = some (0, 2, 0, (-1), []) by decide +kernel) (by decide)) ?_
  refine Eq.trans (ev_ci (show zcode 196 2 = some (0, 4, 0, 25, []) by decide +kernel) (by decide)) ?_
  exact ev_cstat (show zcode 196 4 = some (74, 7, 150, 3, []) by decide +kernel) (args := [(0, x0), (0, (-1)), (0, 25)]) (rest := []) rfl rfl (show 0 ≤ 8 by decide) ⟨by decide, show 3 ≤ 3 by decide⟩
theorem b196_7 {T : zT} {V : zM} {x0 : Int} {y0 : Int} (h1 : (0 : Int) ≤ y0 ∧ y0 ≤ 1) : ev 196 7 [(0, x0)] [(0, y0)] T V = some ((0, y0), T, V) := by
  exact ev_rz (show zcode 196 7 = some (72, 8, 3, 0, []) by decide +kernel) h1
/-! 197: TwoWayWallModel.readsAll()V -/
theorem e197 {T : zT} {V : zM}  : zcall 197 [(2, 130)] T V = ev 197 0 [(2, 130), (9, 0)] [] T V := rfl
theorem b197_0 {T : zT} {V : zM}  : ev 197 0 [(2, 130), (9, 0)] [] T V = ev 197 2 [(2, 130), (0, 0)] [] T V := by
  refine Eq.trans (ev_ci (show zcode 197 0 = some (0, 1, 0, 0, []) by decide +kernel) (by decide)) ?_
  exact ev_sti (show zcode 197 1 = some (7, 2, 1, 0, []) by decide +kernel) ⟨show 1 < 2 by decide, Or.inr (show ¬ (2 : Nat) = 1 by decide)⟩
theorem b197_2 {T : zT} {V : zM} {x1 : Int} : ev 197 2 [(2, 130), (0, x1)] [] T V = if 128 ≤ x1 then ev 197 39 [(2, 130), (0, x1)] [] T V else ev 197 9 [(2, 130), (0, x1)] [] T V := by
  refine Eq.trans (ev_ldi (show zcode 197 2 = some (4, 3, 1, 0, []) by decide +kernel) rfl) ?_
  refine Eq.trans (ev_ci (show zcode 197 3 = some (0, 6, 0, 128, []) by decide +kernel) (by decide)) ?_
  exact ev_cge (show zcode 197 6 = some (49, 9, 39, 0, []) by decide +kernel)
theorem b197_9 {T : zT} {V : zM} {x1 : Int} (hS : zStr T)  : ev 197 9 [(2, 130), (0, x1)] [] T V = (zcall 189 [(2, 130), (0, 0), (0, x1)] T V).bind fun x => ev 197 20 [(2, 130), (0, x1)] (z_push x.1 [(0, x1), (2, 142)]) x.2.1 x.2.2 := by
  refine Eq.trans (ev_lda (show zcode 197 9 = some (6, 10, 0, 0, []) by decide +kernel) rfl (by decide)) ?_
  refine Eq.trans (ev_gq (show zcode 197 10 = some (56, 13, 12, 22, []) by decide +kernel) (so130 hS) (sp130_22 hS)) ?_
  refine Eq.trans (ev_ldi (show zcode 197 13 = some (4, 14, 1, 0, []) by decide +kernel) rfl) ?_
  refine Eq.trans (ev_lda (show zcode 197 14 = some (6, 15, 0, 0, []) by decide +kernel) rfl (by decide)) ?_
  refine Eq.trans (ev_ci (show zcode 197 15 = some (0, 16, 0, 0, []) by decide +kernel) (by decide)) ?_
  refine Eq.trans (ev_ldi (show zcode 197 16 = some (4, 17, 1, 0, []) by decide +kernel) rfl) ?_
  exact ev_cvirt (show zcode 197 17 = some (76, 20, 189, 3, [12]) by decide +kernel) (args := [(0, 0), (0, x1)]) (rest := [(0, x1), (2, 142)]) rfl (so130 hS) rfl (show 2 ≤ 8 by decide) ⟨by decide, show 3 ≤ 5 by decide⟩
theorem b197_20 {T : zT} {V : zM} {x1 : Int} {y1 : Int} {y2 : Int} (hS : zStr T) (h1 : (0 : Int) ≤ y1 ∧ y1 < 128) : ev 197 20 [(2, 130), (0, x1)] [(0, y2), (0, y1), (2, 142)] T V = (zcall 189 [(2, 130), (0, 1), (0, x1)] T (zwr V 142 y1 y2)).bind fun x => ev 197 32 [(2, 130), (0, x1)] (z_push x.1 [(0, x1), (2, 143)]) x.2.1 x.2.2 := by
  refine Eq.trans (ev_is (show zcode 197 20 = some (64, 21, 0, 0, []) by decide +kernel) (sa142 hS) h1) ?_
  refine Eq.trans (ev_lda (show zcode 197 21 = some (6, 22, 0, 0, []) by decide +kernel) rfl (by decide)) ?_
  refine Eq.trans (ev_gq (show zcode 197 22 = some (56, 25, 12, 23, []) by decide +kernel) (so130 hS) (sp130_23 hS)) ?_
  refine Eq.trans (ev_ldi (show zcode 197 25 = some (4, 26, 1, 0, []) by decide +kernel) rfl) ?_
  refine Eq.trans (ev_lda (show zcode 197 26 = some (6, 27, 0, 0, []) by decide +kernel) rfl (by decide)) ?_
  refine Eq.trans (ev_ci (show zcode 197 27 = some (0, 28, 0, 1, []) by decide +kernel) (by decide)) ?_
  refine Eq.trans (ev_ldi (show zcode 197 28 = some (4, 29, 1, 0, []) by decide +kernel) rfl) ?_
  exact ev_cvirt (show zcode 197 29 = some (76, 32, 189, 3, [12]) by decide +kernel) (args := [(0, 1), (0, x1)]) (rest := [(0, x1), (2, 143)]) rfl (so130 hS) rfl (show 2 ≤ 8 by decide) ⟨by decide, show 3 ≤ 5 by decide⟩
theorem b197_32 {T : zT} {V : zM} {x1 : Int} {y1 : Int} {y2 : Int} (hS : zStr T) (h1 : (0 : Int) ≤ y1 ∧ y1 < 128) (h2 : -2147483648 ≤ (x1 + 1) ∧ (x1 + 1) ≤ 2147483647) : ev 197 32 [(2, 130), (0, x1)] [(0, y2), (0, y1), (2, 143)] T V = ev 197 2 [(2, 130), (0, (x1 + 1))] [] T (zwr V 143 y1 y2) := by
  refine Eq.trans (ev_is (show zcode 197 32 = some (64, 33, 0, 0, []) by decide +kernel) (sa143 hS) h1) ?_
  refine Eq.trans (ev_inc (show zcode 197 33 = some (10, 36, 1, 1, []) by decide +kernel) rfl h2 (Or.inr (show ¬ (2 : Nat) = 1 by decide))) ?_
  exact ev_goto (show zcode 197 36 = some (53, 39, 2, 0, []) by decide +kernel)
theorem b197_39 {T : zT} {V : zM} {x1 : Int} : ev 197 39 [(2, 130), (0, x1)] [] T V = some ((9, 0), T, V) := by
  exact ev_rn (show zcode 197 39 = some (73, 40, 0, 0, []) by decide +kernel)
