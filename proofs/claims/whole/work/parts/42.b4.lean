/-! printed by blocks.py: the blocks of methods [1, 15, 22, 23, 24, 26, 27, 29, 30, 31, 33, 34, 36, 37, 70, 71, 72, 73, 75, 77, 79, 80, 81, 82, 83, 84, 85, 86, 87, 88, 89, 90, 91, 92, 93, 97, 98, 99, 100, 101, 119, 120, 122, 123, 124, 125, 127, 129, 130, 131, 133, 135, 139, 141, 143, 144, 145, 147] -/
/-! 1: TwoWayWall.<init>()V -/
theorem e1 {T : zT} {V : zM} {q0 : Int} : zcall 1 [(2, q0)] T V = ev 1 0 [(2, q0)] [] T V := rfl
theorem b1_0 {T : zT} {V : zM} {q0 : Int} (h1 : (0 : Int) ≤ q0) : ev 1 0 [(2, q0)] [] T V = ev 1 8 [(2, q0)] [(2, (zsz T)), (2, q0)] (zn T 16 8) (zs V (zsz T) (fun _ => 0)) := by
  refine Eq.trans (ev_lda (show zcode 1 0 = some (6, 1, 0, 0, []) by decide +kernel) rfl (by decide)) ?_
  refine Eq.trans (ev_obj (show zcode 1 1 = some (78, 4, 0, 0, []) by decide +kernel) ⟨h1, show 0 ≤ 8 by decide⟩) ?_
  refine Eq.trans (ev_lda (show zcode 1 4 = some (6, 5, 0, 0, []) by decide +kernel) rfl (by decide)) ?_
  exact ev_new (show zcode 1 5 = some (69, 8, 6, 0, []) by decide +kernel) (by decide)
theorem b1_8 {T : zT} {V : zM} {q0 : Int} {p0 : Int} {p1 : Int} (h1 : (0 : Int) ≤ p1) : ev 1 8 [(2, q0)] [(2, p1), (2, p0)] T V = (zcall 3 [(2, p1)] T V).bind fun x => ev 1 12 [(2, q0)] (z_push x.1 [(2, p1), (2, p0)]) x.2.1 x.2.2 := by
  refine Eq.trans (ev_dup (show zcode 1 8 = some (36, 9, 0, 0, []) by decide +kernel) (by decide)) ?_
  exact ev_cspec (show zcode 1 9 = some (75, 12, 3, 1, []) by decide +kernel) (args := []) (rest := [(2, p1), (2, p0)]) rfl h1 rfl (show 2 ≤ 8 by decide) ⟨by decide, show 1 ≤ 2 by decide⟩
theorem b1_12 {T : zT} {V : zM} {q0 : Int} {p0 : Int} {p1 : Int} (h1 : zO T p0 11) : ev 1 12 [(2, q0)] [(2, p1), (2, p0)] T V = ev 1 15 [(2, q0)] [] (zqw T p0 0 p1) V := by
  exact ev_pr (show zcode 1 12 = some (59, 15, 11, 0, []) by decide +kernel) h1
theorem b1_15 {T : zT} {V : zM} {q0 : Int} : ev 1 15 [(2, q0)] [] T V = ev 1 19 [(2, q0)] [(2, (zsz T)), (2, q0)] (zn T 16 8) (zs V (zsz T) (fun _ => 0)) := by
  refine Eq.trans (ev_lda (show zcode 1 15 = some (6, 16, 0, 0, []) by decide +kernel) rfl (by decide)) ?_
  exact ev_new (show zcode 1 16 = some (69, 19, 6, 0, []) by decide +kernel) (by decide)
theorem b1_19 {T : zT} {V : zM} {q0 : Int} {p0 : Int} {p1 : Int} (h1 : (0 : Int) ≤ p1) : ev 1 19 [(2, q0)] [(2, p1), (2, p0)] T V = (zcall 3 [(2, p1)] T V).bind fun x => ev 1 23 [(2, q0)] (z_push x.1 [(2, p1), (2, p0)]) x.2.1 x.2.2 := by
  refine Eq.trans (ev_dup (show zcode 1 19 = some (36, 20, 0, 0, []) by decide +kernel) (by decide)) ?_
  exact ev_cspec (show zcode 1 20 = some (75, 23, 3, 1, []) by decide +kernel) (args := []) (rest := [(2, p1), (2, p0)]) rfl h1 rfl (show 2 ≤ 8 by decide) ⟨by decide, show 1 ≤ 2 by decide⟩
theorem b1_23 {T : zT} {V : zM} {q0 : Int} {p0 : Int} {p1 : Int} (h1 : zO T p0 11) : ev 1 23 [(2, q0)] [(2, p1), (2, p0)] T V = ev 1 26 [(2, q0)] [] (zqw T p0 1 p1) V := by
  exact ev_pr (show zcode 1 23 = some (59, 26, 11, 1, []) by decide +kernel) h1
theorem b1_26 {T : zT} {V : zM} {q0 : Int} : ev 1 26 [(2, q0)] [] T V = ev 1 31 [(2, q0)] [(2, (zsz T)), (2, q0)] (zn T 4 2) (zs V (zsz T) (fun _ => 0)) := by
  refine Eq.trans (ev_lda (show zcode 1 26 = some (6, 27, 0, 0, []) by decide +kernel) rfl (by decide)) ?_
  refine Eq.trans (ev_ci (show zcode 1 27 = some (0, 28, 0, 2, []) by decide +kernel) (by decide)) ?_
  exact ev_anew (show zcode 1 28 = some (71, 31, 0, 0, []) by decide +kernel) (by decide)
theorem b1_31 {T : zT} {V : zM} {q0 : Int} {p0 : Int} {p1 : Int} (h1 : zO T p0 11) : ev 1 31 [(2, q0)] [(2, p1), (2, p0)] T V = ev 1 34 [(2, q0)] [] (zqw T p0 2 p1) V := by
  exact ev_pr (show zcode 1 31 = some (59, 34, 11, 2, []) by decide +kernel) h1
theorem b1_34 {T : zT} {V : zM} {q0 : Int} : ev 1 34 [(2, q0)] [] T V = ev 1 38 [(2, q0)] [(2, (zsz T)), (2, q0)] (zn T 18 2) (zs V (zsz T) (fun _ => 0)) := by
  refine Eq.trans (ev_lda (show zcode 1 34 = some (6, 35, 0, 0, []) by decide +kernel) rfl (by decide)) ?_
  exact ev_new (show zcode 1 35 = some (69, 38, 8, 0, []) by decide +kernel) (by decide)
theorem b1_38 {T : zT} {V : zM} {q0 : Int} {p0 : Int} {p1 : Int} (h1 : (0 : Int) ≤ p1) : ev 1 38 [(2, q0)] [(2, p1), (2, p0)] T V = (zcall 6 [(2, p1)] T V).bind fun x => ev 1 42 [(2, q0)] (z_push x.1 [(2, p1), (2, p0)]) x.2.1 x.2.2 := by
  refine Eq.trans (ev_dup (show zcode 1 38 = some (36, 39, 0, 0, []) by decide +kernel) (by decide)) ?_
  exact ev_cspec (show zcode 1 39 = some (75, 42, 6, 1, []) by decide +kernel) (args := []) (rest := [(2, p1), (2, p0)]) rfl h1 rfl (show 2 ≤ 8 by decide) ⟨by decide, show 1 ≤ 1 by decide⟩
theorem b1_42 {T : zT} {V : zM} {q0 : Int} {p0 : Int} {p1 : Int} (h1 : zO T p0 11) : ev 1 42 [(2, q0)] [(2, p1), (2, p0)] T V = ev 1 45 [(2, q0)] [] (zqw T p0 3 p1) V := by
  exact ev_pr (show zcode 1 42 = some (59, 45, 11, 3, []) by decide +kernel) h1
theorem b1_45 {T : zT} {V : zM} {q0 : Int} : ev 1 45 [(2, q0)] [] T V = ev 1 49 [(2, q0)] [(2, (zsz T)), (2, q0)] (zn T 17 6) (zs V (zsz T) (fun _ => 0)) := by
  refine Eq.trans (ev_lda (show zcode 1 45 = some (6, 46, 0, 0, []) by decide +kernel) rfl (by decide)) ?_
  exact ev_new (show zcode 1 46 = some (69, 49, 7, 0, []) by decide +kernel) (by decide)
theorem b1_49 {T : zT} {V : zM} {q0 : Int} {p0 : Int} {p1 : Int} (h1 : zO T q0 11) (h2 : (0 : Int) ≤ p1) : ev 1 49 [(2, q0)] [(2, p1), (2, p0)] T V = (zcall 7 [(2, p1), (2, (zp T q0 3)), (2, (zp T q0 1))] T V).bind fun x => ev 1 61 [(2, q0)] (z_push x.1 [(2, p1), (2, p0)]) x.2.1 x.2.2 := by
  refine Eq.trans (ev_dup (show zcode 1 49 = some (36, 50, 0, 0, []) by decide +kernel) (by decide)) ?_
  refine Eq.trans (ev_lda (show zcode 1 50 = some (6, 51, 0, 0, []) by decide +kernel) rfl (by decide)) ?_
  refine Eq.trans (ev_gr (show zcode 1 51 = some (56, 54, 11, 3, []) by decide +kernel) h1) ?_
  refine Eq.trans (ev_lda (show zcode 1 54 = some (6, 55, 0, 0, []) by decide +kernel) rfl (by decide)) ?_
  refine Eq.trans (ev_gr (show zcode 1 55 = some (56, 58, 11, 1, []) by decide +kernel) h1) ?_
  exact ev_cspec (show zcode 1 58 = some (75, 61, 7, 3, []) by decide +kernel) (args := [(2, (zp T q0 3)), (2, (zp T q0 1))]) (rest := [(2, p1), (2, p0)]) rfl h2 rfl (show 2 ≤ 8 by decide) ⟨by decide, show 3 ≤ 3 by decide⟩
theorem b1_61 {T : zT} {V : zM} {q0 : Int} {p0 : Int} {p1 : Int} (h1 : zO T p0 11) : ev 1 61 [(2, q0)] [(2, p1), (2, p0)] T V = ev 1 64 [(2, q0)] [] (zqw T p0 4 p1) V := by
  exact ev_pr (show zcode 1 61 = some (59, 64, 11, 4, []) by decide +kernel) h1
theorem b1_64 {T : zT} {V : zM} {q0 : Int} : ev 1 64 [(2, q0)] [] T V = ev 1 68 [(2, q0)] [(2, (zsz T)), (2, q0)] (zn T 14 5) (zs V (zsz T) (fun _ => 0)) := by
  refine Eq.trans (ev_lda (show zcode 1 64 = some (6, 65, 0, 0, []) by decide +kernel) rfl (by decide)) ?_
  exact ev_new (show zcode 1 65 = some (69, 68, 4, 0, []) by decide +kernel) (by decide)
theorem b1_68 {T : zT} {V : zM} {q0 : Int} {p0 : Int} {p1 : Int} (h1 : (0 : Int) ≤ p1) : ev 1 68 [(2, q0)] [(2, p1), (2, p0)] T V = (zcall 8 [(2, p1)] T V).bind fun x => ev 1 72 [(2, q0)] (z_push x.1 [(2, p1), (2, p0)]) x.2.1 x.2.2 := by
  refine Eq.trans (ev_dup (show zcode 1 68 = some (36, 69, 0, 0, []) by decide +kernel) (by decide)) ?_
  exact ev_cspec (show zcode 1 69 = some (75, 72, 8, 1, []) by decide +kernel) (args := []) (rest := [(2, p1), (2, p0)]) rfl h1 rfl (show 2 ≤ 8 by decide) ⟨by decide, show 1 ≤ 1 by decide⟩
theorem b1_72 {T : zT} {V : zM} {q0 : Int} {p0 : Int} {p1 : Int} (h1 : zO T p0 11) : ev 1 72 [(2, q0)] [(2, p1), (2, p0)] T V = ev 1 75 [(2, q0)] [] (zqw T p0 5 p1) V := by
  exact ev_pr (show zcode 1 72 = some (59, 75, 11, 5, []) by decide +kernel) h1
theorem b1_75 {T : zT} {V : zM} {q0 : Int} : ev 1 75 [(2, q0)] [] T V = ev 1 79 [(2, q0)] [(2, (zsz T)), (2, q0)] (zn T 13 6) (zs V (zsz T) (fun _ => 0)) := by
  refine Eq.trans (ev_lda (show zcode 1 75 = some (6, 76, 0, 0, []) by decide +kernel) rfl (by decide)) ?_
  exact ev_new (show zcode 1 76 = some (69, 79, 3, 0, []) by decide +kernel) (by decide)
theorem b1_79 {T : zT} {V : zM} {q0 : Int} {p0 : Int} {p1 : Int} (h1 : (0 : Int) ≤ p1) : ev 1 79 [(2, q0)] [(2, p1), (2, p0)] T V = (zcall 9 [(2, p1)] T V).bind fun x => ev 1 83 [(2, q0)] (z_push x.1 [(2, p1), (2, p0)]) x.2.1 x.2.2 := by
  refine Eq.trans (ev_dup (show zcode 1 79 = some (36, 80, 0, 0, []) by decide +kernel) (by decide)) ?_
  exact ev_cspec (show zcode 1 80 = some (75, 83, 9, 1, []) by decide +kernel) (args := []) (rest := [(2, p1), (2, p0)]) rfl h1 rfl (show 2 ≤ 8 by decide) ⟨by decide, show 1 ≤ 1 by decide⟩
theorem b1_83 {T : zT} {V : zM} {q0 : Int} {p0 : Int} {p1 : Int} (h1 : zO T p0 11) : ev 1 83 [(2, q0)] [(2, p1), (2, p0)] T V = ev 1 86 [(2, q0)] [] (zqw T p0 6 p1) V := by
  exact ev_pr (show zcode 1 83 = some (59, 86, 11, 6, []) by decide +kernel) h1
theorem b1_86 {T : zT} {V : zM} {q0 : Int} : ev 1 86 [(2, q0)] [] T V = ev 1 90 [(2, q0)] [(2, (zsz T)), (2, q0)] (zn T 13 6) (zs V (zsz T) (fun _ => 0)) := by
  refine Eq.trans (ev_lda (show zcode 1 86 = some (6, 87, 0, 0, []) by decide +kernel) rfl (by decide)) ?_
  exact ev_new (show zcode 1 87 = some (69, 90, 3, 0, []) by decide +kernel) (by decide)
theorem b1_90 {T : zT} {V : zM} {q0 : Int} {p0 : Int} {p1 : Int} (h1 : (0 : Int) ≤ p1) : ev 1 90 [(2, q0)] [(2, p1), (2, p0)] T V = (zcall 9 [(2, p1)] T V).bind fun x => ev 1 94 [(2, q0)] (z_push x.1 [(2, p1), (2, p0)]) x.2.1 x.2.2 := by
  refine Eq.trans (ev_dup (show zcode 1 90 = some (36, 91, 0, 0, []) by decide +kernel) (by decide)) ?_
  exact ev_cspec (show zcode 1 91 = some (75, 94, 9, 1, []) by decide +kernel) (args := []) (rest := [(2, p1), (2, p0)]) rfl h1 rfl (show 2 ≤ 8 by decide) ⟨by decide, show 1 ≤ 1 by decide⟩
theorem b1_94 {T : zT} {V : zM} {q0 : Int} {p0 : Int} {p1 : Int} (h1 : zO T p0 11) : ev 1 94 [(2, q0)] [(2, p1), (2, p0)] T V = ev 1 97 [(2, q0)] [] (zqw T p0 7 p1) V := by
  exact ev_pr (show zcode 1 94 = some (59, 97, 11, 7, []) by decide +kernel) h1
theorem b1_97 {T : zT} {V : zM} {q0 : Int} : ev 1 97 [(2, q0)] [] T V = ev 1 101 [(2, q0)] [(2, (zsz T)), (2, q0)] (zn T 12 4) (zs V (zsz T) (fun _ => 0)) := by
  refine Eq.trans (ev_lda (show zcode 1 97 = some (6, 98, 0, 0, []) by decide +kernel) rfl (by decide)) ?_
  exact ev_new (show zcode 1 98 = some (69, 101, 2, 0, []) by decide +kernel) (by decide)
theorem b1_101 {T : zT} {V : zM} {q0 : Int} {p0 : Int} {p1 : Int} (h1 : (0 : Int) ≤ p1) : ev 1 101 [(2, q0)] [(2, p1), (2, p0)] T V = (zcall 10 [(2, p1)] T V).bind fun x => ev 1 105 [(2, q0)] (z_push x.1 [(2, p1), (2, p0)]) x.2.1 x.2.2 := by
  refine Eq.trans (ev_dup (show zcode 1 101 = some (36, 102, 0, 0, []) by decide +kernel) (by decide)) ?_
  exact ev_cspec (show zcode 1 102 = some (75, 105, 10, 1, []) by decide +kernel) (args := []) (rest := [(2, p1), (2, p0)]) rfl h1 rfl (show 2 ≤ 8 by decide) ⟨by decide, show 1 ≤ 1 by decide⟩
theorem b1_105 {T : zT} {V : zM} {q0 : Int} {p0 : Int} {p1 : Int} (h1 : zO T p0 11) : ev 1 105 [(2, q0)] [(2, p1), (2, p0)] T V = ev 1 108 [(2, q0)] [] (zqw T p0 8 p1) V := by
  exact ev_pr (show zcode 1 105 = some (59, 108, 11, 8, []) by decide +kernel) h1
theorem b1_108 {T : zT} {V : zM} {q0 : Int} : ev 1 108 [(2, q0)] [] T V = ev 1 112 [(2, q0)] [(2, (zsz T)), (2, q0)] (zn T 10 5) (zs V (zsz T) (fun _ => 0)) := by
  refine Eq.trans (ev_lda (show zcode 1 108 = some (6, 109, 0, 0, []) by decide +kernel) rfl (by decide)) ?_
  exact ev_new (show zcode 1 109 = some (69, 112, 0, 0, []) by decide +kernel) (by decide)
theorem b1_112 {T : zT} {V : zM} {q0 : Int} {p0 : Int} {p1 : Int} (h1 : (0 : Int) ≤ p1) : ev 1 112 [(2, q0)] [(2, p1), (2, p0)] T V = (zcall 11 [(2, p1)] T V).bind fun x => ev 1 116 [(2, q0)] (z_push x.1 [(2, p1), (2, p0)]) x.2.1 x.2.2 := by
  refine Eq.trans (ev_dup (show zcode 1 112 = some (36, 113, 0, 0, []) by decide +kernel) (by decide)) ?_
  exact ev_cspec (show zcode 1 113 = some (75, 116, 11, 1, []) by decide +kernel) (args := []) (rest := [(2, p1), (2, p0)]) rfl h1 rfl (show 2 ≤ 8 by decide) ⟨by decide, show 1 ≤ 1 by decide⟩
theorem b1_116 {T : zT} {V : zM} {q0 : Int} {p0 : Int} {p1 : Int} (h1 : zO T p0 11) : ev 1 116 [(2, q0)] [(2, p1), (2, p0)] T V = ev 1 119 [(2, q0)] [] (zqw T p0 9 p1) V := by
  exact ev_pr (show zcode 1 116 = some (59, 119, 11, 9, []) by decide +kernel) h1
theorem b1_119 {T : zT} {V : zM} {q0 : Int} : ev 1 119 [(2, q0)] [] T V = ev 1 123 [(2, q0)] [(2, (zsz T)), (2, q0)] (zn T 11 8) (zs V (zsz T) (fun _ => 0)) := by
  refine Eq.trans (ev_lda (show zcode 1 119 = some (6, 120, 0, 0, []) by decide +kernel) rfl (by decide)) ?_
  exact ev_new (show zcode 1 120 = some (69, 123, 1, 0, []) by decide +kernel) (by decide)
theorem b1_123 {T : zT} {V : zM} {q0 : Int} {p0 : Int} {p1 : Int} (h1 : (0 : Int) ≤ p1) : ev 1 123 [(2, q0)] [(2, p1), (2, p0)] T V = (zcall 13 [(2, p1), (0, 17)] T V).bind fun x => ev 1 129 [(2, q0)] (z_push x.1 [(2, p1), (2, p0)]) x.2.1 x.2.2 := by
  refine Eq.trans (ev_dup (show zcode 1 123 = some (36, 124, 0, 0, []) by decide +kernel) (by decide)) ?_
  refine Eq.trans (ev_ci (show zcode 1 124 = some (0, 126, 0, 17, []) by decide +kernel) (by decide)) ?_
  exact ev_cspec (show zcode 1 126 = some (75, 129, 13, 2, []) by decide +kernel) (args := [(0, 17)]) (rest := [(2, p1), (2, p0)]) rfl h1 rfl (show 2 ≤ 8 by decide) ⟨by decide, show 2 ≤ 3 by decide⟩
theorem b1_129 {T : zT} {V : zM} {q0 : Int} {p0 : Int} {p1 : Int} (h1 : zO T p0 11) : ev 1 129 [(2, q0)] [(2, p1), (2, p0)] T V = ev 1 132 [(2, q0)] [] (zqw T p0 10 p1) V := by
  exact ev_pr (show zcode 1 129 = some (59, 132, 11, 10, []) by decide +kernel) h1
theorem b1_132 {T : zT} {V : zM} {q0 : Int} : ev 1 132 [(2, q0)] [] T V = ev 1 136 [(2, q0)] [(2, (zsz T)), (2, q0)] (zn T 11 8) (zs V (zsz T) (fun _ => 0)) := by
  refine Eq.trans (ev_lda (show zcode 1 132 = some (6, 133, 0, 0, []) by decide +kernel) rfl (by decide)) ?_
  exact ev_new (show zcode 1 133 = some (69, 136, 1, 0, []) by decide +kernel) (by decide)
theorem b1_136 {T : zT} {V : zM} {q0 : Int} {p0 : Int} {p1 : Int} (h1 : (0 : Int) ≤ p1) : ev 1 136 [(2, q0)] [(2, p1), (2, p0)] T V = (zcall 13 [(2, p1), (0, 1)] T V).bind fun x => ev 1 141 [(2, q0)] (z_push x.1 [(2, p1), (2, p0)]) x.2.1 x.2.2 := by
  refine Eq.trans (ev_dup (show zcode 1 136 = some (36, 137, 0, 0, []) by decide +kernel) (by decide)) ?_
  refine Eq.trans (ev_ci (show zcode 1 137 = some (0, 138, 0, 1, []) by decide +kernel) (by decide)) ?_
  exact ev_cspec (show zcode 1 138 = some (75, 141, 13, 2, []) by decide +kernel) (args := [(0, 1)]) (rest := [(2, p1), (2, p0)]) rfl h1 rfl (show 2 ≤ 8 by decide) ⟨by decide, show 2 ≤ 3 by decide⟩
theorem b1_141 {T : zT} {V : zM} {q0 : Int} {p0 : Int} {p1 : Int} (h1 : zO T p0 11) : ev 1 141 [(2, q0)] [(2, p1), (2, p0)] T V = ev 1 144 [(2, q0)] [] (zqw T p0 11 p1) V := by
  exact ev_pr (show zcode 1 141 = some (59, 144, 11, 11, []) by decide +kernel) h1
theorem b1_144 {T : zT} {V : zM} {q0 : Int} : ev 1 144 [(2, q0)] [] T V = ev 1 150 [(2, q0)] [(2, (zsz T)), (2, q0)] (zn T 0 1024) (zs V (zsz T) (fun _ => 0)) := by
  refine Eq.trans (ev_lda (show zcode 1 144 = some (6, 145, 0, 0, []) by decide +kernel) rfl (by decide)) ?_
  refine Eq.trans (ev_ci (show zcode 1 145 = some (0, 148, 0, 1024, []) by decide +kernel) (by decide)) ?_
  exact ev_narr (show zcode 1 148 = some (70, 150, 0, 0, []) by decide +kernel) (by decide)
theorem b1_150 {T : zT} {V : zM} {q0 : Int} {p0 : Int} {p1 : Int} (h1 : zO T p0 11) : ev 1 150 [(2, q0)] [(2, p1), (2, p0)] T V = ev 1 153 [(2, q0)] [] (zqw T p0 12 p1) V := by
  exact ev_pr (show zcode 1 150 = some (59, 153, 11, 12, []) by decide +kernel) h1
theorem b1_153 {T : zT} {V : zM} {q0 : Int} : ev 1 153 [(2, q0)] [] T V = ev 1 157 [(2, q0)] [(2, (zsz T)), (2, q0)] (zn T 0 4) (zs V (zsz T) (fun _ => 0)) := by
  refine Eq.trans (ev_lda (show zcode 1 153 = some (6, 154, 0, 0, []) by decide +kernel) rfl (by decide)) ?_
  refine Eq.trans (ev_ci (show zcode 1 154 = some (0, 155, 0, 4, []) by decide +kernel) (by decide)) ?_
  exact ev_narr (show zcode 1 155 = some (70, 157, 0, 0, []) by decide +kernel) (by decide)
theorem b1_157 {T : zT} {V : zM} {q0 : Int} {p0 : Int} {p1 : Int} (h1 : zO T p0 11) : ev 1 157 [(2, q0)] [(2, p1), (2, p0)] T V = ev 1 160 [(2, q0)] [] (zqw T p0 13 p1) V := by
  exact ev_pr (show zcode 1 157 = some (59, 160, 11, 13, []) by decide +kernel) h1
theorem b1_160 {T : zT} {V : zM} {q0 : Int} (h1 : zO T q0 11) : ev 1 160 [(2, q0)] [] T V = (zcall 15 [(2, q0)] T (zwr V q0 15 (-1))).bind fun x => ev 1 169 [(2, q0)] (z_push x.1 []) x.2.1 x.2.2 := by
  refine Eq.trans (ev_lda (show zcode 1 160 = some (6, 161, 0, 0, []) by decide +kernel) rfl (by decide)) ?_
  refine Eq.trans (ev_ci (show zcode 1 161 = some (0, 162, 0, (-1), []) by decide +kernel) (by decide)) ?_
  refine Eq.trans (ev_pi (show zcode 1 162 = some (57, 165, 11, 15, []) by decide +kernel) h1) ?_
  refine Eq.trans (ev_lda (show zcode 1 165 = some (6, 166, 0, 0, []) by decide +kernel) rfl (by decide)) ?_
  exact ev_cvirt (show zcode 1 166 = some (76, 169, 15, 1, [11]) by decide +kernel) (args := []) (rest := []) rfl h1 rfl (show 0 ≤ 8 by decide) ⟨by decide, show 1 ≤ 2 by decide⟩
theorem b1_169 {T : zT} {V : zM} {q0 : Int} : ev 1 169 [(2, q0)] [] T V = some ((9, 0), T, V) := by
  exact ev_rn (show zcode 1 169 = some (73, 170, 0, 0, []) by decide +kernel)
/-! 15: TwoWayWall.renewReadings()V -/
theorem e15 {T : zT} {V : zM}  : zcall 15 [(2, 0)] T V = ev 15 0 [(2, 0), (9, 0)] [] T V := rfl
theorem b15_0 {T : zT} {V : zM}  (hS : zStr T)  : ev 15 0 [(2, 0), (9, 0)] [] T V = (zcall 16 [(2, 59), (2, 1)] T V).bind fun x => ev 15 11 [(2, 0), (9, 0)] (z_push x.1 []) x.2.1 x.2.2 := by
  refine Eq.trans (ev_lda (show zcode 15 0 = some (6, 1, 0, 0, []) by decide +kernel) rfl (by decide)) ?_
  refine Eq.trans (ev_gq (show zcode 15 1 = some (56, 4, 11, 5, []) by decide +kernel) (so0 hS) (sp0_5 hS)) ?_
  refine Eq.trans (ev_lda (show zcode 15 4 = some (6, 5, 0, 0, []) by decide +kernel) rfl (by decide)) ?_
  refine Eq.trans (ev_gq (show zcode 15 5 = some (56, 8, 11, 0, []) by decide +kernel) (so0 hS) (sp0_0 hS)) ?_
  exact ev_cvirt (show zcode 15 8 = some (76, 11, 16, 2, [4]) by decide +kernel) (args := [(2, 1)]) (rest := []) rfl (so59 hS) rfl (show 0 ≤ 8 by decide) ⟨by decide, show 2 ≤ 5 by decide⟩
theorem b15_11 {T : zT} {V : zM}  (hS : zStr T)  : ev 15 11 [(2, 0), (9, 0)] [] T V = (zcall 20 [(2, 65)] T V).bind fun x => ev 15 18 [(2, 0), (9, 0)] (z_push x.1 []) x.2.1 x.2.2 := by
  refine Eq.trans (ev_lda (show zcode 15 11 = some (6, 12, 0, 0, []) by decide +kernel) rfl (by decide)) ?_
  refine Eq.trans (ev_gq (show zcode 15 12 = some (56, 15, 11, 6, []) by decide +kernel) (so0 hS) (sp0_6 hS)) ?_
  exact ev_cvirt (show zcode 15 15 = some (76, 18, 20, 1, [3]) by decide +kernel) (args := []) (rest := []) rfl (so65 hS) rfl (show 0 ≤ 8 by decide) ⟨by decide, show 1 ≤ 2 by decide⟩
theorem b15_18 {T : zT} {V : zM}  : ev 15 18 [(2, 0), (9, 0)] [] T V = ev 15 20 [(2, 0), (0, 0)] [] T V := by
  refine Eq.trans (ev_ci (show zcode 15 18 = some (0, 19, 0, 0, []) by decide +kernel) (by decide)) ?_
  exact ev_sti (show zcode 15 19 = some (7, 20, 1, 0, []) by decide +kernel) ⟨show 1 < 2 by decide, Or.inr (show ¬ (2 : Nat) = 1 by decide)⟩
theorem b15_20 {T : zT} {V : zM} {x1 : Int} : ev 15 20 [(2, 0), (0, x1)] [] T V = if 128 ≤ x1 then ev 15 46 [(2, 0), (0, x1)] [] T V else ev 15 27 [(2, 0), (0, x1)] [] T V := by
  refine Eq.trans (ev_ldi (show zcode 15 20 = some (4, 21, 1, 0, []) by decide +kernel) rfl) ?_
  refine Eq.trans (ev_ci (show zcode 15 21 = some (0, 24, 0, 128, []) by decide +kernel) (by decide)) ?_
  exact ev_cge (show zcode 15 24 = some (49, 27, 46, 0, []) by decide +kernel)
theorem b15_27 {T : zT} {V : zM} {x1 : Int} (hS : zStr T)  : ev 15 27 [(2, 0), (0, x1)] [] T V = (zcall 21 [(2, 65), (2, 59), (0, x1), (0, 0)] T V).bind fun x => ev 15 40 [(2, 0), (0, x1)] (z_push x.1 []) x.2.1 x.2.2 := by
  refine Eq.trans (ev_lda (show zcode 15 27 = some (6, 28, 0, 0, []) by decide +kernel) rfl (by decide)) ?_
  refine Eq.trans (ev_gq (show zcode 15 28 = some (56, 31, 11, 6, []) by decide +kernel) (so0 hS) (sp0_6 hS)) ?_
  refine Eq.trans (ev_lda (show zcode 15 31 = some (6, 32, 0, 0, []) by decide +kernel) rfl (by decide)) ?_
  refine Eq.trans (ev_gq (show zcode 15 32 = some (56, 35, 11, 5, []) by decide +kernel) (so0 hS) (sp0_5 hS)) ?_
  refine Eq.trans (ev_ldi (show zcode 15 35 = some (4, 36, 1, 0, []) by decide +kernel) rfl) ?_
  refine Eq.trans (ev_ci (show zcode 15 36 = some (0, 37, 0, 0, []) by decide +kernel) (by decide)) ?_
  exact ev_cvirt (show zcode 15 37 = some (76, 40, 21, 4, [3]) by decide +kernel) (args := [(2, 59), (0, x1), (0, 0)]) (rest := []) rfl (so65 hS) rfl (show 0 ≤ 8 by decide) ⟨by decide, show 4 ≤ 5 by decide⟩
theorem b15_40 {T : zT} {V : zM} {x1 : Int} (h1 : -2147483648 ≤ (x1 + 1) ∧ (x1 + 1) ≤ 2147483647) : ev 15 40 [(2, 0), (0, x1)] [] T V = ev 15 20 [(2, 0), (0, (x1 + 1))] [] T V := by
  refine Eq.trans (ev_inc (show zcode 15 40 = some (10, 43, 1, 1, []) by decide +kernel) rfl h1 (Or.inr (show ¬ (2 : Nat) = 1 by decide))) ?_
  exact ev_goto (show zcode 15 43 = some (53, 46, 20, 0, []) by decide +kernel)
theorem b15_46 {T : zT} {V : zM} {x1 : Int} (hS : zStr T)  : ev 15 46 [(2, 0), (0, x1)] [] T V = some ((9, 0), T, (zwr V 0 14 0)) := by
  refine Eq.trans (ev_lda (show zcode 15 46 = some (6, 47, 0, 0, []) by decide +kernel) rfl (by decide)) ?_
  refine Eq.trans (ev_ci (show zcode 15 47 = some (0, 48, 0, 0, []) by decide +kernel) (by decide)) ?_
  refine Eq.trans (ev_pz (show zcode 15 48 = some (58, 51, 11, 14, []) by decide +kernel) (so0 hS) (by decide)) ?_
  exact ev_rn (show zcode 15 51 = some (73, 52, 0, 0, []) by decide +kernel)
/-! 22: TwoWayWall.pairOf(II)I -/
theorem e22 {T : zT} {V : zM} {x0 : Int} {x1 : Int} : zcall 22 [(0, x0), (0, x1)] T V = ev 22 0 [(0, x0), (0, x1)] [] T V := rfl
theorem b22_0 {T : zT} {V : zM} {x0 : Int} {x1 : Int} (h1 : -2147483648 ≤ (x0 * 27) ∧ (x0 * 27) ≤ 2147483647) (h2 : -2147483648 ≤ ((x0 * 27) + x1) ∧ ((x0 * 27) + x1) ≤ 2147483647) : ev 22 0 [(0, x0), (0, x1)] [] T V = some ((0, ((x0 * 27) + x1)), T, V) := by
  refine Eq.trans (ev_ldi (show zcode 22 0 = some (4, 1, 0, 0, []) by decide +kernel) rfl) ?_
  refine Eq.trans (ev_ci (show zcode 22 1 = some (0, 3, 0, 27, []) by decide +kernel) (by decide)) ?_
  refine Eq.trans (ev_mul (show zcode 22 3 = some (13, 4, 0, 0, []) by decide +kernel) h1) ?_
  refine Eq.trans (ev_ldi (show zcode 22 4 = some (4, 5, 1, 0, []) by decide +kernel) rfl) ?_
  refine Eq.trans (ev_add (show zcode 22 5 = some (11, 6, 0, 0, []) by decide +kernel) h2) ?_
  exact ev_ri (show zcode 22 6 = some (72, 7, 0, 0, []) by decide +kernel)
/-! 23: TwoWayWall.size(I)I -/
theorem e23 {T : zT} {V : zM} {x1 : Int} : zcall 23 [(2, 0), (0, x1)] T V = ev 23 0 [(2, 0), (0, x1), (9, 0)] [] T V := rfl
theorem b23_0 {T : zT} {V : zM} {x1 : Int} : ev 23 0 [(2, 0), (0, x1), (9, 0)] [] T V = if x1 < 1 then ev 23 11 [(2, 0), (0, x1), (9, 0)] [] T V else ev 23 5 [(2, 0), (0, x1), (9, 0)] [] T V := by
  refine Eq.trans (ev_ldi (show zcode 23 0 = some (4, 1, 1, 0, []) by decide +kernel) rfl) ?_
  refine Eq.trans (ev_ci (show zcode 23 1 = some (0, 2, 0, 1, []) by decide +kernel) (by decide)) ?_
  exact ev_clt (show zcode 23 2 = some (48, 5, 11, 0, []) by decide +kernel)
theorem b23_5 {T : zT} {V : zM} {x1 : Int} : ev 23 5 [(2, 0), (0, x1), (9, 0)] [] T V = if x1 ≤ 16 then ev 23 17 [(2, 0), (0, x1), (9, 0)] [] T V else ev 23 11 [(2, 0), (0, x1), (9, 0)] [] T V := by
  refine Eq.trans (ev_ldi (show zcode 23 5 = some (4, 6, 1, 0, []) by decide +kernel) rfl) ?_
  refine Eq.trans (ev_ci (show zcode 23 6 = some (0, 8, 0, 16, []) by decide +kernel) (by decide)) ?_
  exact ev_cle (show zcode 23 8 = some (51, 11, 17, 0, []) by decide +kernel)
theorem b23_11 {T : zT} {V : zM} {x1 : Int} (hS : zStr T)  : ev 23 11 [(2, 0), (0, x1), (9, 0)] [] T V = (zcall 24 [(2, 0), (0, (-1))] T V).bind fun x => ev 23 16 [(2, 0), (0, x1), (9, 0)] (z_push x.1 []) x.2.1 x.2.2 := by
  refine Eq.trans (ev_lda (show zcode 23 11 = some (6, 12, 0, 0, []) by decide +kernel) rfl (by decide)) ?_
  refine Eq.trans (ev_ci (show zcode 23 12 = some (0, 13, 0, (-1), []) by decide +kernel) (by decide)) ?_
  exact ev_cvirt (show zcode 23 13 = some (76, 16, 24, 2, [11]) by decide +kernel) (args := [(0, (-1))]) (rest := []) rfl (so0 hS) rfl (show 0 ≤ 8 by decide) ⟨by decide, show 2 ≤ 2 by decide⟩
theorem b23_16 {T : zT} {V : zM} {x1 : Int} {y0 : Int} : ev 23 16 [(2, 0), (0, x1), (9, 0)] [(0, y0)] T V = some ((0, y0), T, V) := by
  exact ev_ri (show zcode 23 16 = some (72, 17, 0, 0, []) by decide +kernel)
theorem b23_17 {T : zT} {V : zM} {x1 : Int} (hS : zStr T)  : ev 23 17 [(2, 0), (0, x1), (9, 0)] [] T V = (zcall 25 [(2, 1), (0, x1)] T V).bind fun x => ev 23 33 [(2, 0), (0, x1), (0, (V 1 0))] (z_push x.1 []) x.2.1 x.2.2 := by
  refine Eq.trans (ev_lda (show zcode 23 17 = some (6, 18, 0, 0, []) by decide +kernel) rfl (by decide)) ?_
  refine Eq.trans (ev_gq (show zcode 23 18 = some (56, 21, 11, 0, []) by decide +kernel) (so0 hS) (sp0_0 hS)) ?_
  refine Eq.trans (ev_gi (show zcode 23 21 = some (55, 24, 6, 0, []) by decide +kernel) (so1 hS)) ?_
  refine Eq.trans (ev_sti (show zcode 23 24 = some (7, 25, 2, 0, []) by decide +kernel) ⟨show 2 < 3 by decide, Or.inr (show ¬ (0 : Nat) = 1 by decide)⟩) ?_
  refine Eq.trans (ev_lda (show zcode 23 25 = some (6, 26, 0, 0, []) by decide +kernel) rfl (by decide)) ?_
  refine Eq.trans (ev_gq (show zcode 23 26 = some (56, 29, 11, 0, []) by decide +kernel) (so0 hS) (sp0_0 hS)) ?_
  refine Eq.trans (ev_ldi (show zcode 23 29 = some (4, 30, 1, 0, []) by decide +kernel) rfl) ?_
  exact ev_cvirt (show zcode 23 30 = some (76, 33, 25, 2, [6]) by decide +kernel) (args := [(0, x1)]) (rest := []) rfl (so1 hS) rfl (show 0 ≤ 8 by decide) ⟨by decide, show 2 ≤ 3 by decide⟩
theorem b23_33 {T : zT} {V : zM} {x1 : Int} {x2 : Int} (hS : zStr T)  : ev 23 33 [(2, 0), (0, x1), (0, x2)] [] T V = (zcall 26 [(2, 0), (0, x2)] T V).bind fun x => ev 23 38 [(2, 0), (0, x1), (0, x2)] (z_push x.1 []) x.2.1 x.2.2 := by
  refine Eq.trans (ev_lda (show zcode 23 33 = some (6, 34, 0, 0, []) by decide +kernel) rfl (by decide)) ?_
  refine Eq.trans (ev_ldi (show zcode 23 34 = some (4, 35, 2, 0, []) by decide +kernel) rfl) ?_
  exact ev_cvirt (show zcode 23 35 = some (76, 38, 26, 2, [11]) by decide +kernel) (args := [(0, x2)]) (rest := []) rfl (so0 hS) rfl (show 0 ≤ 8 by decide) ⟨by decide, show 2 ≤ 2 by decide⟩
theorem b23_38 {T : zT} {V : zM} {x1 : Int} {x2 : Int} {y0 : Int} : ev 23 38 [(2, 0), (0, x1), (0, x2)] [(0, y0)] T V = some ((0, y0), T, V) := by
  exact ev_ri (show zcode 23 38 = some (72, 39, 0, 0, []) by decide +kernel)
/-! 24: TwoWayWall.refuse(I)I -/
theorem e24 {T : zT} {V : zM} {x1 : Int} : zcall 24 [(2, 0), (0, x1)] T V = ev 24 0 [(2, 0), (0, x1)] [] T V := rfl
theorem b24_0 {T : zT} {V : zM} {x1 : Int} (hS : zStr T)  : ev 24 0 [(2, 0), (0, x1)] [] T V = ev 24 (if (-5) ≤ x1 ∧ x1 < (-5) + ((6 : Nat) : Int) - 1 then ([79, 66, 79, 79, 53, 40] : List Nat).getD ((x1 - (-5)).toNat + 1) 0 else 79) [(2, 0), (0, x1)] [] T (zwr V 0 17 x1) := by
  refine Eq.trans (ev_lda (show zcode 24 0 = some (6, 1, 0, 0, []) by decide +kernel) rfl (by decide)) ?_
  refine Eq.trans (ev_ldi (show zcode 24 1 = some (4, 2, 1, 0, []) by decide +kernel) rfl) ?_
  refine Eq.trans (ev_pi (show zcode 24 2 = some (57, 5, 11, 17, []) by decide +kernel) (so0 hS)) ?_
  refine Eq.trans (ev_ldi (show zcode 24 5 = some (4, 6, 1, 0, []) by decide +kernel) rfl) ?_
  exact ev_sw (show zcode 24 6 = some (54, 40, 0, (-5), [79, 66, 79, 79, 53, 40]) by decide +kernel)
theorem b24_40 {T : zT} {V : zM} {x1 : Int} (hS : zStr T) (h1 : -2147483648 ≤ ((V 129 0) + 1) ∧ ((V 129 0) + 1) ≤ 2147483647) : ev 24 40 [(2, 0), (0, x1)] [] T V = ev 24 89 [(2, 0), (0, x1)] [] T (zwr V 129 0 ((V 129 0) + 1)) := by
  refine Eq.trans (ev_lda (show zcode 24 40 = some (6, 41, 0, 0, []) by decide +kernel) rfl (by decide)) ?_
  refine Eq.trans (ev_gq (show zcode 24 41 = some (56, 44, 11, 13, []) by decide +kernel) (so0 hS) (sp0_13 hS)) ?_
  refine Eq.trans (ev_ci (show zcode 24 44 = some (0, 45, 0, 0, []) by decide +kernel) (by decide)) ?_
  refine Eq.trans (ev_dup2 (show zcode 24 45 = some (38, 46, 0, 0, []) by decide +kernel) (by decide)) ?_
  refine Eq.trans (ev_ia (show zcode 24 46 = some (60, 47, 0, 0, []) by decide +kernel) (sa129 hS) (by decide)) ?_
  refine Eq.trans (ev_ci (show zcode 24 47 = some (0, 48, 0, 1, []) by decide +kernel) (by decide)) ?_
  refine Eq.trans (ev_add (show zcode 24 48 = some (11, 49, 0, 0, []) by decide +kernel) h1) ?_
  refine Eq.trans (ev_is (show zcode 24 49 = some (64, 50, 0, 0, []) by decide +kernel) (sa129 hS) (by decide)) ?_
  exact ev_goto (show zcode 24 50 = some (53, 53, 89, 0, []) by decide +kernel)
theorem b24_53 {T : zT} {V : zM} {x1 : Int} (hS : zStr T) (h1 : -2147483648 ≤ ((V 129 1) + 1) ∧ ((V 129 1) + 1) ≤ 2147483647) : ev 24 53 [(2, 0), (0, x1)] [] T V = ev 24 89 [(2, 0), (0, x1)] [] T (zwr V 129 1 ((V 129 1) + 1)) := by
  refine Eq.trans (ev_lda (show zcode 24 53 = some (6, 54, 0, 0, []) by decide +kernel) rfl (by decide)) ?_
  refine Eq.trans (ev_gq (show zcode 24 54 = some (56, 57, 11, 13, []) by decide +kernel) (so0 hS) (sp0_13 hS)) ?_
  refine Eq.trans (ev_ci (show zcode 24 57 = some (0, 58, 0, 1, []) by decide +kernel) (by decide)) ?_
  refine Eq.trans (ev_dup2 (show zcode 24 58 = some (38, 59, 0, 0, []) by decide +kernel) (by decide)) ?_
  refine Eq.trans (ev_ia (show zcode 24 59 = some (60, 60, 0, 0, []) by decide +kernel) (sa129 hS) (by decide)) ?_
  refine Eq.trans (ev_ci (show zcode 24 60 = some (0, 61, 0, 1, []) by decide +kernel) (by decide)) ?_
  refine Eq.trans (ev_add (show zcode 24 61 = some (11, 62, 0, 0, []) by decide +kernel) h1) ?_
  refine Eq.trans (ev_is (show zcode 24 62 = some (64, 63, 0, 0, []) by decide +kernel) (sa129 hS) (by decide)) ?_
  exact ev_goto (show zcode 24 63 = some (53, 66, 89, 0, []) by decide +kernel)
theorem b24_66 {T : zT} {V : zM} {x1 : Int} (hS : zStr T) (h1 : -2147483648 ≤ ((V 129 2) + 1) ∧ ((V 129 2) + 1) ≤ 2147483647) : ev 24 66 [(2, 0), (0, x1)] [] T V = ev 24 89 [(2, 0), (0, x1)] [] T (zwr V 129 2 ((V 129 2) + 1)) := by
  refine Eq.trans (ev_lda (show zcode 24 66 = some (6, 67, 0, 0, []) by decide +kernel) rfl (by decide)) ?_
  refine Eq.trans (ev_gq (show zcode 24 67 = some (56, 70, 11, 13, []) by decide +kernel) (so0 hS) (sp0_13 hS)) ?_
  refine Eq.trans (ev_ci (show zcode 24 70 = some (0, 71, 0, 2, []) by decide +kernel) (by decide)) ?_
  refine Eq.trans (ev_dup2 (show zcode 24 71 = some (38, 72, 0, 0, []) by decide +kernel) (by decide)) ?_
  refine Eq.trans (ev_ia (show zcode 24 72 = some (60, 73, 0, 0, []) by decide +kernel) (sa129 hS) (by decide)) ?_
  refine Eq.trans (ev_ci (show zcode 24 73 = some (0, 74, 0, 1, []) by decide +kernel) (by decide)) ?_
  refine Eq.trans (ev_add (show zcode 24 74 = some (11, 75, 0, 0, []) by decide +kernel) h1) ?_
  refine Eq.trans (ev_is (show zcode 24 75 = some (64, 76, 0, 0, []) by decide +kernel) (sa129 hS) (by decide)) ?_
  exact ev_goto (show zcode 24 76 = some (53, 79, 89, 0, []) by decide +kernel)
theorem b24_79 {T : zT} {V : zM} {x1 : Int} (hS : zStr T) (h1 : -2147483648 ≤ ((V 129 3) + 1) ∧ ((V 129 3) + 1) ≤ 2147483647) : ev 24 79 [(2, 0), (0, x1)] [] T V = ev 24 89 [(2, 0), (0, x1)] [] T (zwr V 129 3 ((V 129 3) + 1)) := by
  refine Eq.trans (ev_lda (show zcode 24 79 = some (6, 80, 0, 0, []) by decide +kernel) rfl (by decide)) ?_
  refine Eq.trans (ev_gq (show zcode 24 80 = some (56, 83, 11, 13, []) by decide +kernel) (so0 hS) (sp0_13 hS)) ?_
  refine Eq.trans (ev_ci (show zcode 24 83 = some (0, 84, 0, 3, []) by decide +kernel) (by decide)) ?_
  refine Eq.trans (ev_dup2 (show zcode 24 84 = some (38, 85, 0, 0, []) by decide +kernel) (by decide)) ?_
  refine Eq.trans (ev_ia (show zcode 24 85 = some (60, 86, 0, 0, []) by decide +kernel) (sa129 hS) (by decide)) ?_
  refine Eq.trans (ev_ci (show zcode 24 86 = some (0, 87, 0, 1, []) by decide +kernel) (by decide)) ?_
  refine Eq.trans (ev_add (show zcode 24 87 = some (11, 88, 0, 0, []) by decide +kernel) h1) ?_
  exact ev_is (show zcode 24 88 = some (64, 89, 0, 0, []) by decide +kernel) (sa129 hS) (by decide)
theorem b24_89 {T : zT} {V : zM} {x1 : Int} : ev 24 89 [(2, 0), (0, x1)] [] T V = some ((0, x1), T, V) := by
  refine Eq.trans (ev_ldi (show zcode 24 89 = some (4, 90, 1, 0, []) by decide +kernel) rfl) ?_
  exact ev_ri (show zcode 24 90 = some (72, 91, 0, 0, []) by decide +kernel)
/-! 26: TwoWayWall.grant(I)I -/
theorem e26 {T : zT} {V : zM} {x1 : Int} : zcall 26 [(2, 0), (0, x1)] T V = ev 26 0 [(2, 0), (0, x1)] [] T V := rfl
theorem b26_0 {T : zT} {V : zM} {x1 : Int} (hS : zStr T)  : ev 26 0 [(2, 0), (0, x1)] [] T V = some ((0, x1), T, (zwr V 0 17 0)) := by
  refine Eq.trans (ev_lda (show zcode 26 0 = some (6, 1, 0, 0, []) by decide +kernel) rfl (by decide)) ?_
  refine Eq.trans (ev_ci (show zcode 26 1 = some (0, 2, 0, 0, []) by decide +kernel) (by decide)) ?_
  refine Eq.trans (ev_pi (show zcode 26 2 = some (57, 5, 11, 17, []) by decide +kernel) (so0 hS)) ?_
  refine Eq.trans (ev_ldi (show zcode 26 5 = some (4, 6, 1, 0, []) by decide +kernel) rfl) ?_
  exact ev_ri (show zcode 26 6 = some (72, 7, 0, 0, []) by decide +kernel)
/-! 27: TwoWayWall.paint(II)I -/
theorem e27 {T : zT} {V : zM} {x1 : Int} {x2 : Int} : zcall 27 [(2, 0), (0, x1), (0, x2)] T V = ev 27 0 [(2, 0), (0, x1), (0, x2), (9, 0)] [] T V := rfl
theorem b27_0 {T : zT} {V : zM} {x1 : Int} {x2 : Int} (hS : zStr T)  : ev 27 0 [(2, 0), (0, x1), (0, x2), (9, 0)] [] T V = (zcall 28 [(2, 1), (0, x1)] T V).bind fun x => ev 27 8 [(2, 0), (0, x1), (0, x2), (9, 0)] (z_push x.1 []) x.2.1 x.2.2 := by
  refine Eq.trans (ev_lda (show zcode 27 0 = some (6, 1, 0, 0, []) by decide +kernel) rfl (by decide)) ?_
  refine Eq.trans (ev_gq (show zcode 27 1 = some (56, 4, 11, 0, []) by decide +kernel) (so0 hS) (sp0_0 hS)) ?_
  refine Eq.trans (ev_ldi (show zcode 27 4 = some (4, 5, 1, 0, []) by decide +kernel) rfl) ?_
  exact ev_cvirt (show zcode 27 5 = some (76, 8, 28, 2, [6]) by decide +kernel) (args := [(0, x1)]) (rest := []) rfl (so1 hS) rfl (show 0 ≤ 8 by decide) ⟨by decide, show 2 ≤ 2 by decide⟩
theorem b27_8 {T : zT} {V : zM} {x1 : Int} {x2 : Int} {y0 : Int} : ev 27 8 [(2, 0), (0, x1), (0, x2), (9, 0)] [(0, y0)] T V = if y0 = 0 then ev 27 18 [(2, 0), (0, x1), (0, x2), (9, 0)] [] T V else ev 27 11 [(2, 0), (0, x1), (0, x2), (9, 0)] [] T V := by
  exact ev_eq (show zcode 27 8 = some (40, 11, 18, 0, []) by decide +kernel)
theorem b27_11 {T : zT} {V : zM} {x1 : Int} {x2 : Int} : ev 27 11 [(2, 0), (0, x1), (0, x2), (9, 0)] [] T V = (zcall 29 [(0, x2)] T V).bind fun x => ev 27 15 [(2, 0), (0, x1), (0, x2), (9, 0)] (z_push x.1 []) x.2.1 x.2.2 := by
  refine Eq.trans (ev_ldi (show zcode 27 11 = some (4, 12, 2, 0, []) by decide +kernel) rfl) ?_
  exact ev_cstat (show zcode 27 12 = some (74, 15, 29, 1, []) by decide +kernel) (args := [(0, x2)]) (rest := []) rfl rfl (show 0 ≤ 8 by decide) ⟨by decide, show 1 ≤ 1 by decide⟩
theorem b27_15 {T : zT} {V : zM} {x1 : Int} {x2 : Int} {y0 : Int} : ev 27 15 [(2, 0), (0, x1), (0, x2), (9, 0)] [(0, y0)] T V = if y0 = 0 then ev 27 18 [(2, 0), (0, x1), (0, x2), (9, 0)] [] T V else ev 27 24 [(2, 0), (0, x1), (0, x2), (9, 0)] [] T V := by
  exact ev_ne (show zcode 27 15 = some (41, 18, 24, 0, []) by decide +kernel)
theorem b27_18 {T : zT} {V : zM} {x1 : Int} {x2 : Int} (hS : zStr T)  : ev 27 18 [(2, 0), (0, x1), (0, x2), (9, 0)] [] T V = (zcall 24 [(2, 0), (0, (-1))] T V).bind fun x => ev 27 23 [(2, 0), (0, x1), (0, x2), (9, 0)] (z_push x.1 []) x.2.1 x.2.2 := by
  refine Eq.trans (ev_lda (show zcode 27 18 = some (6, 19, 0, 0, []) by decide +kernel) rfl (by decide)) ?_
  refine Eq.trans (ev_ci (show zcode 27 19 = some (0, 20, 0, (-1), []) by decide +kernel) (by decide)) ?_
  exact ev_cvirt (show zcode 27 20 = some (76, 23, 24, 2, [11]) by decide +kernel) (args := [(0, (-1))]) (rest := []) rfl (so0 hS) rfl (show 0 ≤ 8 by decide) ⟨by decide, show 2 ≤ 2 by decide⟩
theorem b27_23 {T : zT} {V : zM} {x1 : Int} {x2 : Int} {y0 : Int} : ev 27 23 [(2, 0), (0, x1), (0, x2), (9, 0)] [(0, y0)] T V = some ((0, y0), T, V) := by
  exact ev_ri (show zcode 27 23 = some (72, 24, 0, 0, []) by decide +kernel)
theorem b27_24 {T : zT} {V : zM} {x1 : Int} {x2 : Int} (hS : zStr T) (h1 : (0 : Int) ≤ x1 ∧ x1 < 16) : ev 27 24 [(2, 0), (0, x1), (0, x2), (9, 0)] [] T V = (zcall 26 [(2, 0), (0, (V 2 x1))] T (zwr V 2 x1 x2)).bind fun x => ev 27 49 [(2, 0), (0, x1), (0, x2), (0, (V 2 x1))] (z_push x.1 []) x.2.1 x.2.2 := by
  refine Eq.trans (ev_lda (show zcode 27 24 = some (6, 25, 0, 0, []) by decide +kernel) rfl (by decide)) ?_
  refine Eq.trans (ev_gq (show zcode 27 25 = some (56, 28, 11, 0, []) by decide +kernel) (so0 hS) (sp0_0 hS)) ?_
  refine Eq.trans (ev_gq (show zcode 27 28 = some (56, 31, 6, 1, []) by decide +kernel) (so1 hS) (sp1_1 hS)) ?_
  refine Eq.trans (ev_ldi (show zcode 27 31 = some (4, 32, 1, 0, []) by decide +kernel) rfl) ?_
  refine Eq.trans (ev_ia (show zcode 27 32 = some (60, 33, 0, 0, []) by decide +kernel) (sa2 hS) h1) ?_
  refine Eq.trans (ev_sti (show zcode 27 33 = some (7, 34, 3, 0, []) by decide +kernel) ⟨show 3 < 4 by decide, Or.inr (show ¬ (0 : Nat) = 1 by decide)⟩) ?_
  refine Eq.trans (ev_lda (show zcode 27 34 = some (6, 35, 0, 0, []) by decide +kernel) rfl (by decide)) ?_
  refine Eq.trans (ev_gq (show zcode 27 35 = some (56, 38, 11, 0, []) by decide +kernel) (so0 hS) (sp0_0 hS)) ?_
  refine Eq.trans (ev_gq (show zcode 27 38 = some (56, 41, 6, 1, []) by decide +kernel) (so1 hS) (sp1_1 hS)) ?_
  refine Eq.trans (ev_ldi (show zcode 27 41 = some (4, 42, 1, 0, []) by decide +kernel) rfl) ?_
  refine Eq.trans (ev_ldi (show zcode 27 42 = some (4, 43, 2, 0, []) by decide +kernel) rfl) ?_
  refine Eq.trans (ev_is (show zcode 27 43 = some (64, 44, 0, 0, []) by decide +kernel) (sa2 hS) h1) ?_
  refine Eq.trans (ev_lda (show zcode 27 44 = some (6, 45, 0, 0, []) by decide +kernel) rfl (by decide)) ?_
  refine Eq.trans (ev_ldi (show zcode 27 45 = some (4, 46, 3, 0, []) by decide +kernel) rfl) ?_
  exact ev_cvirt (show zcode 27 46 = some (76, 49, 26, 2, [11]) by decide +kernel) (args := [(0, (V 2 x1))]) (rest := []) rfl (so0 hS) rfl (show 0 ≤ 8 by decide) ⟨by decide, show 2 ≤ 2 by decide⟩
theorem b27_49 {T : zT} {V : zM} {x1 : Int} {x2 : Int} {x3 : Int} {y0 : Int} : ev 27 49 [(2, 0), (0, x1), (0, x2), (0, x3)] [(0, y0)] T V = some ((0, y0), T, V) := by
  exact ev_ri (show zcode 27 49 = some (72, 50, 0, 0, []) by decide +kernel)
/-! 29: TwoWayWall.isSet(I)Z -/
theorem e29 {T : zT} {V : zM} {x0 : Int} : zcall 29 [(0, x0)] T V = ev 29 0 [(0, x0)] [] T V := rfl
theorem b29_0 {T : zT} {V : zM} {x0 : Int} : ev 29 0 [(0, x0)] [] T V = if x0 < 0 then ev 29 15 [(0, x0)] [] T V else ev 29 4 [(0, x0)] [] T V := by
  refine Eq.trans (ev_ldi (show zcode 29 0 = some (4, 1, 0, 0, []) by decide +kernel) rfl) ?_
  exact ev_lt (show zcode 29 1 = some (42, 4, 15, 0, []) by decide +kernel)
theorem b29_4 {T : zT} {V : zM} {x0 : Int} : ev 29 4 [(0, x0)] [] T V = if 128 ≤ x0 then ev 29 15 [(0, x0)] [] T V else ev 29 11 [(0, x0)] [] T V := by
  refine Eq.trans (ev_ldi (show zcode 29 4 = some (4, 5, 0, 0, []) by decide +kernel) rfl) ?_
  refine Eq.trans (ev_ci (show zcode 29 5 = some (0, 8, 0, 128, []) by decide +kernel) (by decide)) ?_
  exact ev_cge (show zcode 29 8 = some (49, 11, 15, 0, []) by decide +kernel)
theorem b29_11 {T : zT} {V : zM} {x0 : Int} : ev 29 11 [(0, x0)] [] T V = ev 29 16 [(0, x0)] [(0, 1)] T V := by
  refine Eq.trans (ev_ci (show zcode 29 11 = some (0, 12, 0, 1, []) by decide +kernel) (by decide)) ?_
  exact ev_goto (show zcode 29 12 = some (53, 15, 16, 0, []) by decide +kernel)
theorem b29_15 {T : zT} {V : zM} {x0 : Int} : ev 29 15 [(0, x0)] [] T V = ev 29 16 [(0, x0)] [(0, 0)] T V := by
  exact ev_ci (show zcode 29 15 = some (0, 16, 0, 0, []) by decide +kernel) (by decide)
theorem b29_16 {T : zT} {V : zM} {x0 : Int} {y0 : Int} (h1 : (0 : Int) ≤ y0 ∧ y0 ≤ 1) : ev 29 16 [(0, x0)] [(0, y0)] T V = some ((0, y0), T, V) := by
  exact ev_rz (show zcode 29 16 = some (72, 17, 3, 0, []) by decide +kernel) h1
/-! 30: TwoWayWall.of(I)I -/
theorem e30 {T : zT} {V : zM} {x1 : Int} : zcall 30 [(2, 0), (0, x1)] T V = ev 30 0 [(2, 0), (0, x1)] [] T V := rfl
theorem b30_0 {T : zT} {V : zM} {x1 : Int} (hS : zStr T)  : ev 30 0 [(2, 0), (0, x1)] [] T V = (zcall 28 [(2, 1), (0, x1)] T V).bind fun x => ev 30 8 [(2, 0), (0, x1)] (z_push x.1 []) x.2.1 x.2.2 := by
  refine Eq.trans (ev_lda (show zcode 30 0 = some (6, 1, 0, 0, []) by decide +kernel) rfl (by decide)) ?_
  refine Eq.trans (ev_gq (show zcode 30 1 = some (56, 4, 11, 0, []) by decide +kernel) (so0 hS) (sp0_0 hS)) ?_
  refine Eq.trans (ev_ldi (show zcode 30 4 = some (4, 5, 1, 0, []) by decide +kernel) rfl) ?_
  exact ev_cvirt (show zcode 30 5 = some (76, 8, 28, 2, [6]) by decide +kernel) (args := [(0, x1)]) (rest := []) rfl (so1 hS) rfl (show 0 ≤ 8 by decide) ⟨by decide, show 2 ≤ 2 by decide⟩
theorem b30_8 {T : zT} {V : zM} {x1 : Int} {y0 : Int} : ev 30 8 [(2, 0), (0, x1)] [(0, y0)] T V = if y0 = 0 then ev 30 23 [(2, 0), (0, x1)] [] T V else ev 30 11 [(2, 0), (0, x1)] [] T V := by
  exact ev_eq (show zcode 30 8 = some (40, 11, 23, 0, []) by decide +kernel)
theorem b30_11 {T : zT} {V : zM} {x1 : Int} (hS : zStr T) (h1 : (0 : Int) ≤ x1 ∧ x1 < 16) : ev 30 11 [(2, 0), (0, x1)] [] T V = ev 30 24 [(2, 0), (0, x1)] [(0, (V 2 x1))] T V := by
  refine Eq.trans (ev_lda (show zcode 30 11 = some (6, 12, 0, 0, []) by decide +kernel) rfl (by decide)) ?_
  refine Eq.trans (ev_gq (show zcode 30 12 = some (56, 15, 11, 0, []) by decide +kernel) (so0 hS) (sp0_0 hS)) ?_
  refine Eq.trans (ev_gq (show zcode 30 15 = some (56, 18, 6, 1, []) by decide +kernel) (so1 hS) (sp1_1 hS)) ?_
  refine Eq.trans (ev_ldi (show zcode 30 18 = some (4, 19, 1, 0, []) by decide +kernel) rfl) ?_
  refine Eq.trans (ev_ia (show zcode 30 19 = some (60, 20, 0, 0, []) by decide +kernel) (sa2 hS) h1) ?_
  exact ev_goto (show zcode 30 20 = some (53, 23, 24, 0, []) by decide +kernel)
theorem b30_23 {T : zT} {V : zM} {x1 : Int} : ev 30 23 [(2, 0), (0, x1)] [] T V = ev 30 24 [(2, 0), (0, x1)] [(0, (-1))] T V := by
  exact ev_ci (show zcode 30 23 = some (0, 24, 0, (-1), []) by decide +kernel) (by decide)
theorem b30_24 {T : zT} {V : zM} {x1 : Int} {y0 : Int} : ev 30 24 [(2, 0), (0, x1)] [(0, y0)] T V = some ((0, y0), T, V) := by
  exact ev_ri (show zcode 30 24 = some (72, 25, 0, 0, []) by decide +kernel)
/-! 31: TwoWayWall.feed(IIIII)I -/
theorem e31 {T : zT} {V : zM} {x1 : Int} {x2 : Int} {x3 : Int} {x4 : Int} {x5 : Int} : zcall 31 [(2, 0), (0, x1), (0, x2), (0, x3), (0, x4), (0, x5)] T V = ev 31 0 [(2, 0), (0, x1), (0, x2), (0, x3), (0, x4), (0, x5)] [] T V := rfl
theorem b31_0 {T : zT} {V : zM} {x1 : Int} {x2 : Int} {x3 : Int} {x4 : Int} {x5 : Int} (hS : zStr T) (h1 : -2147483648 ≤ ((V 56 1) + 20) ∧ ((V 56 1) + 20) ≤ 2147483647) : ev 31 0 [(2, 0), (0, x1), (0, x2), (0, x3), (0, x4), (0, x5)] [] T V = if ((V 56 1) + 20) ≤ 400 then ev 31 18 [(2, 0), (0, x1), (0, x2), (0, x3), (0, x4), (0, x5)] [] T V else ev 31 16 [(2, 0), (0, x1), (0, x2), (0, x3), (0, x4), (0, x5)] [] T V := by
  refine Eq.trans (ev_lda (show zcode 31 0 = some (6, 1, 0, 0, []) by decide +kernel) rfl (by decide)) ?_
  refine Eq.trans (ev_gq (show zcode 31 1 = some (56, 4, 11, 3, []) by decide +kernel) (so0 hS) (sp0_3 hS)) ?_
  refine Eq.trans (ev_gi (show zcode 31 4 = some (55, 7, 8, 1, []) by decide +kernel) (so56 hS)) ?_
  refine Eq.trans (ev_ci (show zcode 31 7 = some (0, 9, 0, 20, []) by decide +kernel) (by decide)) ?_
  refine Eq.trans (ev_add (show zcode 31 9 = some (11, 10, 0, 0, []) by decide +kernel) h1) ?_
  refine Eq.trans (ev_ci (show zcode 31 10 = some (0, 13, 0, 400, []) by decide +kernel) (by decide)) ?_
  exact ev_cle (show zcode 31 13 = some (51, 16, 18, 0, []) by decide +kernel)
theorem b31_16 {T : zT} {V : zM} {x1 : Int} {x2 : Int} {x3 : Int} {x4 : Int} {x5 : Int} : ev 31 16 [(2, 0), (0, x1), (0, x2), (0, x3), (0, x4), (0, x5)] [] T V = some ((0, (-1)), T, V) := by
  refine Eq.trans (ev_ci (show zcode 31 16 = some (0, 17, 0, (-1), []) by decide +kernel) (by decide)) ?_
  exact ev_ri (show zcode 31 17 = some (72, 18, 0, 0, []) by decide +kernel)
theorem b31_18 {T : zT} {V : zM} {x1 : Int} {x2 : Int} {x3 : Int} {x4 : Int} {x5 : Int} (hS : zStr T)  : ev 31 18 [(2, 0), (0, x1), (0, x2), (0, x3), (0, x4), (0, x5)] [] T V = (zcall 32 [(2, 56), (0, x1)] T V).bind fun x => ev 31 26 [(2, 0), (0, x1), (0, x2), (0, x3), (0, x4), (0, x5)] (z_push x.1 []) x.2.1 x.2.2 := by
  refine Eq.trans (ev_lda (show zcode 31 18 = some (6, 19, 0, 0, []) by decide +kernel) rfl (by decide)) ?_
  refine Eq.trans (ev_gq (show zcode 31 19 = some (56, 22, 11, 3, []) by decide +kernel) (so0 hS) (sp0_3 hS)) ?_
  refine Eq.trans (ev_ldi (show zcode 31 22 = some (4, 23, 1, 0, []) by decide +kernel) rfl) ?_
  exact ev_cvirt (show zcode 31 23 = some (76, 26, 32, 2, [8]) by decide +kernel) (args := [(0, x1)]) (rest := []) rfl (so56 hS) rfl (show 0 ≤ 8 by decide) ⟨by decide, show 2 ≤ 3 by decide⟩
theorem b31_26 {T : zT} {V : zM} {x1 : Int} {x2 : Int} {x3 : Int} {x4 : Int} {x5 : Int} (hS : zStr T)  : ev 31 26 [(2, 0), (0, x1), (0, x2), (0, x3), (0, x4), (0, x5)] [] T V = (zcall 32 [(2, 56), (0, x2)] T V).bind fun x => ev 31 34 [(2, 0), (0, x1), (0, x2), (0, x3), (0, x4), (0, x5)] (z_push x.1 []) x.2.1 x.2.2 := by
  refine Eq.trans (ev_lda (show zcode 31 26 = some (6, 27, 0, 0, []) by decide +kernel) rfl (by decide)) ?_
  refine Eq.trans (ev_gq (show zcode 31 27 = some (56, 30, 11, 3, []) by decide +kernel) (so0 hS) (sp0_3 hS)) ?_
  refine Eq.trans (ev_ldi (show zcode 31 30 = some (4, 31, 2, 0, []) by decide +kernel) rfl) ?_
  exact ev_cvirt (show zcode 31 31 = some (76, 34, 32, 2, [8]) by decide +kernel) (args := [(0, x2)]) (rest := []) rfl (so56 hS) rfl (show 0 ≤ 8 by decide) ⟨by decide, show 2 ≤ 3 by decide⟩
theorem b31_34 {T : zT} {V : zM} {x1 : Int} {x2 : Int} {x3 : Int} {x4 : Int} {x5 : Int} (hS : zStr T)  : ev 31 34 [(2, 0), (0, x1), (0, x2), (0, x3), (0, x4), (0, x5)] [] T V = (zcall 32 [(2, 56), (0, x3)] T V).bind fun x => ev 31 42 [(2, 0), (0, x1), (0, x2), (0, x3), (0, x4), (0, x5)] (z_push x.1 []) x.2.1 x.2.2 := by
  refine Eq.trans (ev_lda (show zcode 31 34 = some (6, 35, 0, 0, []) by decide +kernel) rfl (by decide)) ?_
  refine Eq.trans (ev_gq (show zcode 31 35 = some (56, 38, 11, 3, []) by decide +kernel) (so0 hS) (sp0_3 hS)) ?_
  refine Eq.trans (ev_ldi (show zcode 31 38 = some (4, 39, 3, 0, []) by decide +kernel) rfl) ?_
  exact ev_cvirt (show zcode 31 39 = some (76, 42, 32, 2, [8]) by decide +kernel) (args := [(0, x3)]) (rest := []) rfl (so56 hS) rfl (show 0 ≤ 8 by decide) ⟨by decide, show 2 ≤ 3 by decide⟩
theorem b31_42 {T : zT} {V : zM} {x1 : Int} {x2 : Int} {x3 : Int} {x4 : Int} {x5 : Int} (hS : zStr T)  : ev 31 42 [(2, 0), (0, x1), (0, x2), (0, x3), (0, x4), (0, x5)] [] T V = (zcall 32 [(2, 56), (0, x4)] T V).bind fun x => ev 31 51 [(2, 0), (0, x1), (0, x2), (0, x3), (0, x4), (0, x5)] (z_push x.1 []) x.2.1 x.2.2 := by
  refine Eq.trans (ev_lda (show zcode 31 42 = some (6, 43, 0, 0, []) by decide +kernel) rfl (by decide)) ?_
  refine Eq.trans (ev_gq (show zcode 31 43 = some (56, 46, 11, 3, []) by decide +kernel) (so0 hS) (sp0_3 hS)) ?_
  refine Eq.trans (ev_ldi (show zcode 31 46 = some (4, 48, 4, 0, []) by decide +kernel) rfl) ?_
  exact ev_cvirt (show zcode 31 48 = some (76, 51, 32, 2, [8]) by decide +kernel) (args := [(0, x4)]) (rest := []) rfl (so56 hS) rfl (show 0 ≤ 8 by decide) ⟨by decide, show 2 ≤ 3 by decide⟩
theorem b31_51 {T : zT} {V : zM} {x1 : Int} {x2 : Int} {x3 : Int} {x4 : Int} {x5 : Int} (hS : zStr T)  : ev 31 51 [(2, 0), (0, x1), (0, x2), (0, x3), (0, x4), (0, x5)] [] T V = (zcall 32 [(2, 56), (0, x5)] T V).bind fun x => ev 31 60 [(2, 0), (0, x1), (0, x2), (0, x3), (0, x4), (0, x5)] (z_push x.1 []) x.2.1 x.2.2 := by
  refine Eq.trans (ev_lda (show zcode 31 51 = some (6, 52, 0, 0, []) by decide +kernel) rfl (by decide)) ?_
  refine Eq.trans (ev_gq (show zcode 31 52 = some (56, 55, 11, 3, []) by decide +kernel) (so0 hS) (sp0_3 hS)) ?_
  refine Eq.trans (ev_ldi (show zcode 31 55 = some (4, 57, 5, 0, []) by decide +kernel) rfl) ?_
  exact ev_cvirt (show zcode 31 57 = some (76, 60, 32, 2, [8]) by decide +kernel) (args := [(0, x5)]) (rest := []) rfl (so56 hS) rfl (show 0 ≤ 8 by decide) ⟨by decide, show 2 ≤ 3 by decide⟩
theorem b31_60 {T : zT} {V : zM} {x1 : Int} {x2 : Int} {x3 : Int} {x4 : Int} {x5 : Int} (hS : zStr T)  : ev 31 60 [(2, 0), (0, x1), (0, x2), (0, x3), (0, x4), (0, x5)] [] T V = some ((0, (V 56 1)), T, V) := by
  refine Eq.trans (ev_lda (show zcode 31 60 = some (6, 61, 0, 0, []) by decide +kernel) rfl (by decide)) ?_
  refine Eq.trans (ev_gq (show zcode 31 61 = some (56, 64, 11, 3, []) by decide +kernel) (so0 hS) (sp0_3 hS)) ?_
  refine Eq.trans (ev_gi (show zcode 31 64 = some (55, 67, 8, 1, []) by decide +kernel) (so56 hS)) ?_
  exact ev_ri (show zcode 31 67 = some (72, 68, 0, 0, []) by decide +kernel)
/-! 33: TwoWayWall.end(I)I -/
theorem e33 {T : zT} {V : zM} {x1 : Int} : zcall 33 [(2, 0), (0, x1)] T V = ev 33 0 [(2, 0), (0, x1)] [] T V := rfl
theorem b33_0 {T : zT} {V : zM} {x1 : Int} : ev 33 0 [(2, 0), (0, x1)] [] T V = if x1 < 0 then ev 33 15 [(2, 0), (0, x1)] [] T V else ev 33 4 [(2, 0), (0, x1)] [] T V := by
  refine Eq.trans (ev_ldi (show zcode 33 0 = some (4, 1, 1, 0, []) by decide +kernel) rfl) ?_
  exact ev_lt (show zcode 33 1 = some (42, 4, 15, 0, []) by decide +kernel)
theorem b33_4 {T : zT} {V : zM} {x1 : Int} (hS : zStr T)  : ev 33 4 [(2, 0), (0, x1)] [] T V = if x1 ≤ (V 56 1) then ev 33 17 [(2, 0), (0, x1)] [] T V else ev 33 15 [(2, 0), (0, x1)] [] T V := by
  refine Eq.trans (ev_ldi (show zcode 33 4 = some (4, 5, 1, 0, []) by decide +kernel) rfl) ?_
  refine Eq.trans (ev_lda (show zcode 33 5 = some (6, 6, 0, 0, []) by decide +kernel) rfl (by decide)) ?_
  refine Eq.trans (ev_gq (show zcode 33 6 = some (56, 9, 11, 3, []) by decide +kernel) (so0 hS) (sp0_3 hS)) ?_
  refine Eq.trans (ev_gi (show zcode 33 9 = some (55, 12, 8, 1, []) by decide +kernel) (so56 hS)) ?_
  exact ev_cle (show zcode 33 12 = some (51, 15, 17, 0, []) by decide +kernel)
theorem b33_15 {T : zT} {V : zM} {x1 : Int} : ev 33 15 [(2, 0), (0, x1)] [] T V = some ((0, (-1)), T, V) := by
  refine Eq.trans (ev_ci (show zcode 33 15 = some (0, 16, 0, (-1), []) by decide +kernel) (by decide)) ?_
  exact ev_ri (show zcode 33 16 = some (72, 17, 0, 0, []) by decide +kernel)
theorem b33_17 {T : zT} {V : zM} {x1 : Int} (hS : zStr T)  : ev 33 17 [(2, 0), (0, x1)] [] T V = some ((0, x1), T, (zwr V 56 1 x1)) := by
  refine Eq.trans (ev_lda (show zcode 33 17 = some (6, 18, 0, 0, []) by decide +kernel) rfl (by decide)) ?_
  refine Eq.trans (ev_gq (show zcode 33 18 = some (56, 21, 11, 3, []) by decide +kernel) (so0 hS) (sp0_3 hS)) ?_
  refine Eq.trans (ev_ldi (show zcode 33 21 = some (4, 22, 1, 0, []) by decide +kernel) rfl) ?_
  refine Eq.trans (ev_pi (show zcode 33 22 = some (57, 25, 8, 1, []) by decide +kernel) (so56 hS)) ?_
  refine Eq.trans (ev_ldi (show zcode 33 25 = some (4, 26, 1, 0, []) by decide +kernel) rfl) ?_
  exact ev_ri (show zcode 33 26 = some (72, 27, 0, 0, []) by decide +kernel)
/-! 34: TwoWayWall.row()I -/
theorem e34 {T : zT} {V : zM}  : zcall 34 [(2, 0)] T V = ev 34 0 [(2, 0), (9, 0), (9, 0)] [] T V := rfl
theorem b34_0 {T : zT} {V : zM}  (hS : zStr T)  : ev 34 0 [(2, 0), (9, 0), (9, 0)] [] T V = if (V 56 1) = 0 then ev 34 10 [(2, 0), (9, 0), (9, 0)] [] T V else ev 34 17 [(2, 0), (9, 0), (9, 0)] [] T V := by
  refine Eq.trans (ev_lda (show zcode 34 0 = some (6, 1, 0, 0, []) by decide +kernel) rfl (by decide)) ?_
  refine Eq.trans (ev_gq (show zcode 34 1 = some (56, 4, 11, 3, []) by decide +kernel) (so0 hS) (sp0_3 hS)) ?_
  refine Eq.trans (ev_gi (show zcode 34 4 = some (55, 7, 8, 1, []) by decide +kernel) (so56 hS)) ?_
  exact ev_ne (show zcode 34 7 = some (41, 10, 17, 0, []) by decide +kernel)
theorem b34_10 {T : zT} {V : zM}  (hS : zStr T)  : ev 34 10 [(2, 0), (9, 0), (9, 0)] [] T V = (zcall 24 [(2, 0), (0, (-6))] T V).bind fun x => ev 34 16 [(2, 0), (9, 0), (9, 0)] (z_push x.1 []) x.2.1 x.2.2 := by
  refine Eq.trans (ev_lda (show zcode 34 10 = some (6, 11, 0, 0, []) by decide +kernel) rfl (by decide)) ?_
  refine Eq.trans (ev_ci (show zcode 34 11 = some (0, 13, 0, (-6), []) by decide +kernel) (by decide)) ?_
  exact ev_cvirt (show zcode 34 13 = some (76, 16, 24, 2, [11]) by decide +kernel) (args := [(0, (-6))]) (rest := []) rfl (so0 hS) rfl (show 0 ≤ 8 by decide) ⟨by decide, show 2 ≤ 2 by decide⟩
theorem b34_16 {T : zT} {V : zM} {y0 : Int} : ev 34 16 [(2, 0), (9, 0), (9, 0)] [(0, y0)] T V = some ((0, y0), T, V) := by
  exact ev_ri (show zcode 34 16 = some (72, 17, 0, 0, []) by decide +kernel)
theorem b34_17 {T : zT} {V : zM}  (hS : zStr T)  : ev 34 17 [(2, 0), (9, 0), (9, 0)] [] T V = (zcall 25 [(2, 1), (0, (min (V 56 1) 16))] T V).bind fun x => ev 34 38 [(2, 0), (0, (min (V 56 1) 16)), (9, 0)] (z_push x.1 []) x.2.1 x.2.2 := by
  refine Eq.trans (ev_lda (show zcode 34 17 = some (6, 18, 0, 0, []) by decide +kernel) rfl (by decide)) ?_
  refine Eq.trans (ev_gq (show zcode 34 18 = some (56, 21, 11, 3, []) by decide +kernel) (so0 hS) (sp0_3 hS)) ?_
  refine Eq.trans (ev_gi (show zcode 34 21 = some (55, 24, 8, 1, []) by decide +kernel) (so56 hS)) ?_
  refine Eq.trans (ev_ci (show zcode 34 24 = some (0, 26, 0, 16, []) by decide +kernel) (by decide)) ?_
  refine Eq.trans (ev_min (show zcode 34 26 = some (85, 29, 0, 0, []) by decide +kernel) (show 0 ≤ 8 by decide)) ?_
  refine Eq.trans (ev_sti (show zcode 34 29 = some (7, 30, 1, 0, []) by decide +kernel) ⟨show 1 < 3 by decide, Or.inr (show ¬ (2 : Nat) = 1 by decide)⟩) ?_
  refine Eq.trans (ev_lda (show zcode 34 30 = some (6, 31, 0, 0, []) by decide +kernel) rfl (by decide)) ?_
  refine Eq.trans (ev_gq (show zcode 34 31 = some (56, 34, 11, 0, []) by decide +kernel) (so0 hS) (sp0_0 hS)) ?_
  refine Eq.trans (ev_ldi (show zcode 34 34 = some (4, 35, 1, 0, []) by decide +kernel) rfl) ?_
  exact ev_cvirt (show zcode 34 35 = some (76, 38, 25, 2, [6]) by decide +kernel) (args := [(0, (min (V 56 1) 16))]) (rest := []) rfl (so1 hS) rfl (show 0 ≤ 8 by decide) ⟨by decide, show 2 ≤ 3 by decide⟩
theorem b34_38 {T : zT} {V : zM} {x1 : Int} : ev 34 38 [(2, 0), (0, x1), (9, 0)] [] T V = ev 34 40 [(2, 0), (0, x1), (0, 0)] [] T V := by
  refine Eq.trans (ev_ci (show zcode 34 38 = some (0, 39, 0, 0, []) by decide +kernel) (by decide)) ?_
  exact ev_sti (show zcode 34 39 = some (7, 40, 2, 0, []) by decide +kernel) ⟨show 2 < 3 by decide, Or.inr (show ¬ (0 : Nat) = 1 by decide)⟩
theorem b34_40 {T : zT} {V : zM} {x1 : Int} {x2 : Int} : ev 34 40 [(2, 0), (0, x1), (0, x2)] [] T V = if x1 ≤ x2 then ev 34 84 [(2, 0), (0, x1), (0, x2)] [] T V else ev 34 45 [(2, 0), (0, x1), (0, x2)] [] T V := by
  refine Eq.trans (ev_ldi (show zcode 34 40 = some (4, 41, 2, 0, []) by decide +kernel) rfl) ?_
  refine Eq.trans (ev_ldi (show zcode 34 41 = some (4, 42, 1, 0, []) by decide +kernel) rfl) ?_
  exact ev_cge (show zcode 34 42 = some (49, 45, 84, 0, []) by decide +kernel)
theorem b34_45 {T : zT} {V : zM} {x1 : Int} {x2 : Int} (hS : zStr T) (h1 : (0 : Int) ≤ x2 ∧ x2 < 400) : ev 34 45 [(2, 0), (0, x1), (0, x2)] [] T V = (zcall 29 [(0, (V 57 x2))] T V).bind fun x => ev 34 57 [(2, 0), (0, x1), (0, x2)] (z_push x.1 []) x.2.1 x.2.2 := by
  refine Eq.trans (ev_lda (show zcode 34 45 = some (6, 46, 0, 0, []) by decide +kernel) rfl (by decide)) ?_
  refine Eq.trans (ev_gq (show zcode 34 46 = some (56, 49, 11, 3, []) by decide +kernel) (so0 hS) (sp0_3 hS)) ?_
  refine Eq.trans (ev_gq (show zcode 34 49 = some (56, 52, 8, 0, []) by decide +kernel) (so56 hS) (sp56_0 hS)) ?_
  refine Eq.trans (ev_ldi (show zcode 34 52 = some (4, 53, 2, 0, []) by decide +kernel) rfl) ?_
  refine Eq.trans (ev_ia (show zcode 34 53 = some (60, 54, 0, 0, []) by decide +kernel) (sa57 hS) h1) ?_
  exact ev_cstat (show zcode 34 54 = some (74, 57, 29, 1, []) by decide +kernel) (args := [(0, (V 57 x2))]) (rest := []) rfl rfl (show 0 ≤ 8 by decide) ⟨by decide, show 1 ≤ 1 by decide⟩
theorem b34_57 {T : zT} {V : zM} {x1 : Int} {x2 : Int} {y0 : Int} : ev 34 57 [(2, 0), (0, x1), (0, x2)] [(0, y0)] T V = if y0 = 0 then ev 34 78 [(2, 0), (0, x1), (0, x2)] [] T V else ev 34 60 [(2, 0), (0, x1), (0, x2)] [] T V := by
  exact ev_eq (show zcode 34 57 = some (40, 60, 78, 0, []) by decide +kernel)
theorem b34_60 {T : zT} {V : zM} {x1 : Int} {x2 : Int} (hS : zStr T) (h1 : (0 : Int) ≤ x2 ∧ x2 < 400) (h2 : (0 : Int) ≤ x2 ∧ x2 < 16) : ev 34 60 [(2, 0), (0, x1), (0, x2)] [] T V = ev 34 78 [(2, 0), (0, x1), (0, x2)] [] T (zwr V 2 x2 (V 57 x2)) := by
  refine Eq.trans (ev_lda (show zcode 34 60 = some (6, 61, 0, 0, []) by decide +kernel) rfl (by decide)) ?_
  refine Eq.trans (ev_gq (show zcode 34 61 = some (56, 64, 11, 0, []) by decide +kernel) (so0 hS) (sp0_0 hS)) ?_
  refine Eq.trans (ev_gq (show zcode 34 64 = some (56, 67, 6, 1, []) by decide +kernel) (so1 hS) (sp1_1 hS)) ?_
  refine Eq.trans (ev_ldi (show zcode 34 67 = some (4, 68, 2, 0, []) by decide +kernel) rfl) ?_
  refine Eq.trans (ev_lda (show zcode 34 68 = some (6, 69, 0, 0, []) by decide +kernel) rfl (by decide)) ?_
  refine Eq.trans (ev_gq (show zcode 34 69 = some (56, 72, 11, 3, []) by decide +kernel) (so0 hS) (sp0_3 hS)) ?_
  refine Eq.trans (ev_gq (show zcode 34 72 = some (56, 75, 8, 0, []) by decide +kernel) (so56 hS) (sp56_0 hS)) ?_
  refine Eq.trans (ev_ldi (show zcode 34 75 = some (4, 76, 2, 0, []) by decide +kernel) rfl) ?_
  refine Eq.trans (ev_ia (show zcode 34 76 = some (60, 77, 0, 0, []) by decide +kernel) (sa57 hS) h1) ?_
  exact ev_is (show zcode 34 77 = some (64, 78, 0, 0, []) by decide +kernel) (sa2 hS) h2
theorem b34_78 {T : zT} {V : zM} {x1 : Int} {x2 : Int} (h1 : -2147483648 ≤ (x2 + 1) ∧ (x2 + 1) ≤ 2147483647) : ev 34 78 [(2, 0), (0, x1), (0, x2)] [] T V = ev 34 40 [(2, 0), (0, x1), (0, (x2 + 1))] [] T V := by
  refine Eq.trans (ev_inc (show zcode 34 78 = some (10, 81, 2, 1, []) by decide +kernel) rfl h1 (Or.inr (show ¬ (0 : Nat) = 1 by decide))) ?_
  exact ev_goto (show zcode 34 81 = some (53, 84, 40, 0, []) by decide +kernel)
theorem b34_84 {T : zT} {V : zM} {x1 : Int} {x2 : Int} (hS : zStr T) (h1 : -2147483648 ≤ ((V 56 1) - x1) ∧ ((V 56 1) - x1) ≤ 2147483647) : ev 34 84 [(2, 0), (0, x1), (0, x2)] [] T V = (zcall 26 [(2, 0), (0, x1)] T (zwr (zwr V 0 16 ((V 56 1) - x1)) 56 1 0)).bind fun x => ev 34 110 [(2, 0), (0, x1), (0, x2)] (z_push x.1 []) x.2.1 x.2.2 := by
  refine Eq.trans (ev_lda (show zcode 34 84 = some (6, 85, 0, 0, []) by decide +kernel) rfl (by decide)) ?_
  refine Eq.trans (ev_lda (show zcode 34 85 = some (6, 86, 0, 0, []) by decide +kernel) rfl (by decide)) ?_
  refine Eq.trans (ev_gq (show zcode 34 86 = some (56, 89, 11, 3, []) by decide +kernel) (so0 hS) (sp0_3 hS)) ?_
  refine Eq.trans (ev_gi (show zcode 34 89 = some (55, 92, 8, 1, []) by decide +kernel) (so56 hS)) ?_
  refine Eq.trans (ev_ldi (show zcode 34 92 = some (4, 93, 1, 0, []) by decide +kernel) rfl) ?_
  refine Eq.trans (ev_sub (show zcode 34 93 = some (12, 94, 0, 0, []) by decide +kernel) h1) ?_
  refine Eq.trans (ev_pi (show zcode 34 94 = some (57, 97, 11, 16, []) by decide +kernel) (so0 hS)) ?_
  refine Eq.trans (ev_lda (show zcode 34 97 = some (6, 98, 0, 0, []) by decide +kernel) rfl (by decide)) ?_
  refine Eq.trans (ev_gq (show zcode 34 98 = some (56, 101, 11, 3, []) by decide +kernel) (so0 hS) (sp0_3 hS)) ?_
  refine Eq.trans (ev_ci (show zcode 34 101 = some (0, 102, 0, 0, []) by decide +kernel) (by decide)) ?_
  refine Eq.trans (ev_pi (show zcode 34 102 = some (57, 105, 8, 1, []) by decide +kernel) (so56 hS)) ?_
  refine Eq.trans (ev_lda (show zcode 34 105 = some (6, 106, 0, 0, []) by decide +kernel) rfl (by decide)) ?_
  refine Eq.trans (ev_ldi (show zcode 34 106 = some (4, 107, 1, 0, []) by decide +kernel) rfl) ?_
  exact ev_cvirt (show zcode 34 107 = some (76, 110, 26, 2, [11]) by decide +kernel) (args := [(0, x1)]) (rest := []) rfl (so0 hS) rfl (show 0 ≤ 8 by decide) ⟨by decide, show 2 ≤ 2 by decide⟩
theorem b34_110 {T : zT} {V : zM} {x1 : Int} {x2 : Int} {y0 : Int} : ev 34 110 [(2, 0), (0, x1), (0, x2)] [(0, y0)] T V = some ((0, y0), T, V) := by
  exact ev_ri (show zcode 34 110 = some (72, 111, 0, 0, []) by decide +kernel)
/-! 36: TwoWayWall.spilt()I -/
theorem e36 {T : zT} {V : zM}  : zcall 36 [(2, 0)] T V = ev 36 0 [(2, 0)] [] T V := rfl
theorem b36_0 {T : zT} {V : zM}  (hS : zStr T)  : ev 36 0 [(2, 0)] [] T V = some ((0, (V 0 16)), T, V) := by
  refine Eq.trans (ev_lda (show zcode 36 0 = some (6, 1, 0, 0, []) by decide +kernel) rfl (by decide)) ?_
  refine Eq.trans (ev_gi (show zcode 36 1 = some (55, 4, 11, 16, []) by decide +kernel) (so0 hS)) ?_
  exact ev_ri (show zcode 36 4 = some (72, 5, 0, 0, []) by decide +kernel)
/-! 37: TwoWayWall.tables()I -/
theorem e37 {T : zT} {V : zM}  : zcall 37 [(2, 0)] T V = ev 37 0 [(2, 0), (9, 0)] [] T V := rfl
theorem b37_0 {T : zT} {V : zM}  (hS : zStr T)  : ev 37 0 [(2, 0), (9, 0)] [] T V = (zcall 38 [(2, 28), (2, 1)] T V).bind fun x => ev 37 11 [(2, 0), (9, 0)] (z_push x.1 []) x.2.1 x.2.2 := by
  refine Eq.trans (ev_lda (show zcode 37 0 = some (6, 1, 0, 0, []) by decide +kernel) rfl (by decide)) ?_
  refine Eq.trans (ev_gq (show zcode 37 1 = some (56, 4, 11, 1, []) by decide +kernel) (so0 hS) (sp0_1 hS)) ?_
  refine Eq.trans (ev_lda (show zcode 37 4 = some (6, 5, 0, 0, []) by decide +kernel) rfl (by decide)) ?_
  refine Eq.trans (ev_gq (show zcode 37 5 = some (56, 8, 11, 0, []) by decide +kernel) (so0 hS) (sp0_0 hS)) ?_
  exact ev_cvirt (show zcode 37 8 = some (76, 11, 38, 2, [6]) by decide +kernel) (args := [(2, 1)]) (rest := []) rfl (so28 hS) rfl (show 0 ≤ 8 by decide) ⟨by decide, show 2 ≤ 2 by decide⟩
theorem b37_11 {T : zT} {V : zM}  (hS : zStr T)  : ev 37 11 [(2, 0), (9, 0)] [] T V = (zcall 42 [(2, 58)] T V).bind fun x => ev 37 18 [(2, 0), (9, 0)] (z_push x.1 []) x.2.1 x.2.2 := by
  refine Eq.trans (ev_lda (show zcode 37 11 = some (6, 12, 0, 0, []) by decide +kernel) rfl (by decide)) ?_
  refine Eq.trans (ev_gq (show zcode 37 12 = some (56, 15, 11, 4, []) by decide +kernel) (so0 hS) (sp0_4 hS)) ?_
  exact ev_cvirt (show zcode 37 15 = some (76, 18, 42, 1, [7]) by decide +kernel) (args := []) (rest := []) rfl (so58 hS) rfl (show 0 ≤ 8 by decide) ⟨by decide, show 1 ≤ 2 by decide⟩
theorem b37_18 {T : zT} {V : zM} {y0 : Int} (hS : zStr T)  : ev 37 18 [(2, 0), (9, 0)] [(0, y0)] T V = if y0 = (-1) then ev 37 43 [(2, 0), (0, y0)] [] T (zwr (zwr V 0 15 (V 58 5)) 56 1 0) else ev 37 50 [(2, 0), (0, y0)] [] T (zwr (zwr V 0 15 (V 58 5)) 56 1 0) := by
  refine Eq.trans (ev_sti (show zcode 37 18 = some (7, 19, 1, 0, []) by decide +kernel) ⟨show 1 < 2 by decide, Or.inr (show ¬ (2 : Nat) = 1 by decide)⟩) ?_
  refine Eq.trans (ev_lda (show zcode 37 19 = some (6, 20, 0, 0, []) by decide +kernel) rfl (by decide)) ?_
  refine Eq.trans (ev_lda (show zcode 37 20 = some (6, 21, 0, 0, []) by decide +kernel) rfl (by decide)) ?_
  refine Eq.trans (ev_gq (show zcode 37 21 = some (56, 24, 11, 4, []) by decide +kernel) (so0 hS) (sp0_4 hS)) ?_
  refine Eq.trans (ev_gi (show zcode 37 24 = some (55, 27, 7, 5, []) by decide +kernel) (so58 hS)) ?_
  refine Eq.trans (ev_pi (show zcode 37 27 = some (57, 30, 11, 15, []) by decide +kernel) (so0 hS)) ?_
  refine Eq.trans (ev_lda (show zcode 37 30 = some (6, 31, 0, 0, []) by decide +kernel) rfl (by decide)) ?_
  refine Eq.trans (ev_gq (show zcode 37 31 = some (56, 34, 11, 3, []) by decide +kernel) (so0 hS) (sp0_3 hS)) ?_
  refine Eq.trans (ev_ci (show zcode 37 34 = some (0, 35, 0, 0, []) by decide +kernel) (by decide)) ?_
  refine Eq.trans (ev_pi (show zcode 37 35 = some (57, 38, 8, 1, []) by decide +kernel) (so56 hS)) ?_
  refine Eq.trans (ev_ldi (show zcode 37 38 = some (4, 39, 1, 0, []) by decide +kernel) rfl) ?_
  refine Eq.trans (ev_ci (show zcode 37 39 = some (0, 40, 0, (-1), []) by decide +kernel) (by decide)) ?_
  exact ev_cne (show zcode 37 40 = some (47, 43, 50, 0, []) by decide +kernel)
theorem b37_43 {T : zT} {V : zM} {x1 : Int} (hS : zStr T)  : ev 37 43 [(2, 0), (0, x1)] [] T V = (zcall 24 [(2, 0), (0, (-6))] T V).bind fun x => ev 37 49 [(2, 0), (0, x1)] (z_push x.1 []) x.2.1 x.2.2 := by
  refine Eq.trans (ev_lda (show zcode 37 43 = some (6, 44, 0, 0, []) by decide +kernel) rfl (by decide)) ?_
  refine Eq.trans (ev_ci (show zcode 37 44 = some (0, 46, 0, (-6), []) by decide +kernel) (by decide)) ?_
  exact ev_cvirt (show zcode 37 46 = some (76, 49, 24, 2, [11]) by decide +kernel) (args := [(0, (-6))]) (rest := []) rfl (so0 hS) rfl (show 0 ≤ 8 by decide) ⟨by decide, show 2 ≤ 2 by decide⟩
theorem b37_49 {T : zT} {V : zM} {x1 : Int} {y0 : Int} : ev 37 49 [(2, 0), (0, x1)] [(0, y0)] T V = some ((0, y0), T, V) := by
  exact ev_ri (show zcode 37 49 = some (72, 50, 0, 0, []) by decide +kernel)
theorem b37_50 {T : zT} {V : zM} {x1 : Int} (hS : zStr T)  : ev 37 50 [(2, 0), (0, x1)] [] T V = (zcall 38 [(2, 1), (2, 28)] T V).bind fun x => ev 37 61 [(2, 0), (0, x1)] (z_push x.1 []) x.2.1 x.2.2 := by
  refine Eq.trans (ev_lda (show zcode 37 50 = some (6, 51, 0, 0, []) by decide +kernel) rfl (by decide)) ?_
  refine Eq.trans (ev_gq (show zcode 37 51 = some (56, 54, 11, 0, []) by decide +kernel) (so0 hS) (sp0_0 hS)) ?_
  refine Eq.trans (ev_lda (show zcode 37 54 = some (6, 55, 0, 0, []) by decide +kernel) rfl (by decide)) ?_
  refine Eq.trans (ev_gq (show zcode 37 55 = some (56, 58, 11, 1, []) by decide +kernel) (so0 hS) (sp0_1 hS)) ?_
  exact ev_cvirt (show zcode 37 58 = some (76, 61, 38, 2, [6]) by decide +kernel) (args := [(2, 28)]) (rest := []) rfl (so1 hS) rfl (show 0 ≤ 8 by decide) ⟨by decide, show 2 ≤ 2 by decide⟩
theorem b37_61 {T : zT} {V : zM} {x1 : Int} (hS : zStr T)  : ev 37 61 [(2, 0), (0, x1)] [] T V = (zcall 15 [(2, 0)] T V).bind fun x => ev 37 65 [(2, 0), (0, x1)] (z_push x.1 []) x.2.1 x.2.2 := by
  refine Eq.trans (ev_lda (show zcode 37 61 = some (6, 62, 0, 0, []) by decide +kernel) rfl (by decide)) ?_
  exact ev_cvirt (show zcode 37 62 = some (76, 65, 15, 1, [11]) by decide +kernel) (args := []) (rest := []) rfl (so0 hS) rfl (show 0 ≤ 8 by decide) ⟨by decide, show 1 ≤ 2 by decide⟩
theorem b37_65 {T : zT} {V : zM} {x1 : Int} (hS : zStr T)  : ev 37 65 [(2, 0), (0, x1)] [] T V = (zcall 26 [(2, 0), (0, x1)] T V).bind fun x => ev 37 70 [(2, 0), (0, x1)] (z_push x.1 []) x.2.1 x.2.2 := by
  refine Eq.trans (ev_lda (show zcode 37 65 = some (6, 66, 0, 0, []) by decide +kernel) rfl (by decide)) ?_
  refine Eq.trans (ev_ldi (show zcode 37 66 = some (4, 67, 1, 0, []) by decide +kernel) rfl) ?_
  exact ev_cvirt (show zcode 37 67 = some (76, 70, 26, 2, [11]) by decide +kernel) (args := [(0, x1)]) (rest := []) rfl (so0 hS) rfl (show 0 ≤ 8 by decide) ⟨by decide, show 2 ≤ 2 by decide⟩
theorem b37_70 {T : zT} {V : zM} {x1 : Int} {y0 : Int} : ev 37 70 [(2, 0), (0, x1)] [(0, y0)] T V = some ((0, y0), T, V) := by
  exact ev_ri (show zcode 37 70 = some (72, 71, 0, 0, []) by decide +kernel)
/-! 70: TwoWayWall.fault()I -/
theorem e70 {T : zT} {V : zM}  : zcall 70 [(2, 0)] T V = ev 70 0 [(2, 0)] [] T V := rfl
theorem b70_0 {T : zT} {V : zM}  (hS : zStr T)  : ev 70 0 [(2, 0)] [] T V = some ((0, (V 0 15)), T, V) := by
  refine Eq.trans (ev_lda (show zcode 70 0 = some (6, 1, 0, 0, []) by decide +kernel) rfl (by decide)) ?_
  refine Eq.trans (ev_gi (show zcode 70 1 = some (55, 4, 11, 15, []) by decide +kernel) (so0 hS)) ?_
  exact ev_ri (show zcode 70 4 = some (72, 5, 0, 0, []) by decide +kernel)
/-! 71: TwoWayWall.letter(III)I -/
theorem e71 {T : zT} {V : zM} {x1 : Int} {x2 : Int} {x3 : Int} : zcall 71 [(2, 0), (0, x1), (0, x2), (0, x3)] T V = ev 71 0 [(2, 0), (0, x1), (0, x2), (0, x3)] [] T V := rfl
theorem b71_0 {T : zT} {V : zM} {x1 : Int} {x2 : Int} {x3 : Int} : ev 71 0 [(2, 0), (0, x1), (0, x2), (0, x3)] [] T V = (zcall 72 [(0, x1)] T V).bind fun x => ev 71 4 [(2, 0), (0, x1), (0, x2), (0, x3)] (z_push x.1 []) x.2.1 x.2.2 := by
  refine Eq.trans (ev_ldi (show zcode 71 0 = some (4, 1, 1, 0, []) by decide +kernel) rfl) ?_
  exact ev_cstat (show zcode 71 1 = some (74, 4, 72, 1, []) by decide +kernel) (args := [(0, x1)]) (rest := []) rfl rfl (show 0 ≤ 8 by decide) ⟨by decide, show 1 ≤ 1 by decide⟩
theorem b71_4 {T : zT} {V : zM} {x1 : Int} {x2 : Int} {x3 : Int} {y0 : Int} : ev 71 4 [(2, 0), (0, x1), (0, x2), (0, x3)] [(0, y0)] T V = if y0 = 0 then ev 71 29 [(2, 0), (0, x1), (0, x2), (0, x3)] [] T V else ev 71 7 [(2, 0), (0, x1), (0, x2), (0, x3)] [] T V := by
  exact ev_eq (show zcode 71 4 = some (40, 7, 29, 0, []) by decide +kernel)
theorem b71_7 {T : zT} {V : zM} {x1 : Int} {x2 : Int} {x3 : Int} : ev 71 7 [(2, 0), (0, x1), (0, x2), (0, x3)] [] T V = (zcall 73 [(0, x2)] T V).bind fun x => ev 71 11 [(2, 0), (0, x1), (0, x2), (0, x3)] (z_push x.1 []) x.2.1 x.2.2 := by
  refine Eq.trans (ev_ldi (show zcode 71 7 = some (4, 8, 2, 0, []) by decide +kernel) rfl) ?_
  exact ev_cstat (show zcode 71 8 = some (74, 11, 73, 1, []) by decide +kernel) (args := [(0, x2)]) (rest := []) rfl rfl (show 0 ≤ 8 by decide) ⟨by decide, show 1 ≤ 1 by decide⟩
theorem b71_11 {T : zT} {V : zM} {x1 : Int} {x2 : Int} {x3 : Int} {y0 : Int} : ev 71 11 [(2, 0), (0, x1), (0, x2), (0, x3)] [(0, y0)] T V = if y0 = 0 then ev 71 29 [(2, 0), (0, x1), (0, x2), (0, x3)] [] T V else ev 71 14 [(2, 0), (0, x1), (0, x2), (0, x3)] [] T V := by
  exact ev_eq (show zcode 71 11 = some (40, 14, 29, 0, []) by decide +kernel)
theorem b71_14 {T : zT} {V : zM} {x1 : Int} {x2 : Int} {x3 : Int} (hS : zStr T)  : ev 71 14 [(2, 0), (0, x1), (0, x2), (0, x3)] [] T V = (zcall 74 [(2, 1), (0, x1)] T V).bind fun x => ev 71 22 [(2, 0), (0, x1), (0, x2), (0, x3)] (z_push x.1 []) x.2.1 x.2.2 := by
  refine Eq.trans (ev_lda (show zcode 71 14 = some (6, 15, 0, 0, []) by decide +kernel) rfl (by decide)) ?_
  refine Eq.trans (ev_gq (show zcode 71 15 = some (56, 18, 11, 0, []) by decide +kernel) (so0 hS) (sp0_0 hS)) ?_
  refine Eq.trans (ev_ldi (show zcode 71 18 = some (4, 19, 1, 0, []) by decide +kernel) rfl) ?_
  exact ev_cvirt (show zcode 71 19 = some (76, 22, 74, 2, [6]) by decide +kernel) (args := [(0, x1)]) (rest := []) rfl (so1 hS) rfl (show 0 ≤ 8 by decide) ⟨by decide, show 2 ≤ 2 by decide⟩
theorem b71_22 {T : zT} {V : zM} {x1 : Int} {x2 : Int} {x3 : Int} {p0 : Int} (h1 : zTongue T p0) : ev 71 22 [(2, 0), (0, x1), (0, x2), (0, x3)] [(2, p0)] T V = (zcall 19 [(2, p0), (0, x2)] T V).bind fun x => ev 71 26 [(2, 0), (0, x1), (0, x2), (0, x3)] (z_push x.1 []) x.2.1 x.2.2 := by
  refine Eq.trans (ev_ldi (show zcode 71 22 = some (4, 23, 2, 0, []) by decide +kernel) rfl) ?_
  exact ev_cvirt (show zcode 71 23 = some (76, 26, 19, 2, [9]) by decide +kernel) (args := [(0, x2)]) (rest := []) rfl h1.o rfl (show 0 ≤ 8 by decide) ⟨by decide, show 2 ≤ 2 by decide⟩
theorem b71_26 {T : zT} {V : zM} {x1 : Int} {x2 : Int} {x3 : Int} {y0 : Int} : ev 71 26 [(2, 0), (0, x1), (0, x2), (0, x3)] [(0, y0)] T V = if y0 = 0 then ev 71 29 [(2, 0), (0, x1), (0, x2), (0, x3)] [] T V else ev 71 31 [(2, 0), (0, x1), (0, x2), (0, x3)] [] T V := by
  exact ev_ne (show zcode 71 26 = some (41, 29, 31, 0, []) by decide +kernel)
theorem b71_29 {T : zT} {V : zM} {x1 : Int} {x2 : Int} {x3 : Int} : ev 71 29 [(2, 0), (0, x1), (0, x2), (0, x3)] [] T V = some ((0, (-1)), T, V) := by
  refine Eq.trans (ev_ci (show zcode 71 29 = some (0, 30, 0, (-1), []) by decide +kernel) (by decide)) ?_
  exact ev_ri (show zcode 71 30 = some (72, 31, 0, 0, []) by decide +kernel)
theorem b71_31 {T : zT} {V : zM} {x1 : Int} {x2 : Int} {x3 : Int} : ev 71 31 [(2, 0), (0, x1), (0, x2), (0, x3)] [] T V = if x3 = 0 then ev 71 35 [(2, 0), (0, x1), (0, x2), (0, x3)] [] T V else ev 71 49 [(2, 0), (0, x1), (0, x2), (0, x3)] [] T V := by
  refine Eq.trans (ev_ldi (show zcode 71 31 = some (4, 32, 3, 0, []) by decide +kernel) rfl) ?_
  exact ev_ne (show zcode 71 32 = some (41, 35, 49, 0, []) by decide +kernel)
theorem b71_35 {T : zT} {V : zM} {x1 : Int} {x2 : Int} {x3 : Int} (hS : zStr T)  : ev 71 35 [(2, 0), (0, x1), (0, x2), (0, x3)] [] T V = (zcall 74 [(2, 1), (0, x1)] T V).bind fun x => ev 71 43 [(2, 0), (0, x1), (0, x2), (0, x3)] (z_push x.1 []) x.2.1 x.2.2 := by
  refine Eq.trans (ev_lda (show zcode 71 35 = some (6, 36, 0, 0, []) by decide +kernel) rfl (by decide)) ?_
  refine Eq.trans (ev_gq (show zcode 71 36 = some (56, 39, 11, 0, []) by decide +kernel) (so0 hS) (sp0_0 hS)) ?_
  refine Eq.trans (ev_ldi (show zcode 71 39 = some (4, 40, 1, 0, []) by decide +kernel) rfl) ?_
  exact ev_cvirt (show zcode 71 40 = some (76, 43, 74, 2, [6]) by decide +kernel) (args := [(0, x1)]) (rest := []) rfl (so1 hS) rfl (show 0 ≤ 8 by decide) ⟨by decide, show 2 ≤ 2 by decide⟩
theorem b71_43 {T : zT} {V : zM} {x1 : Int} {x2 : Int} {x3 : Int} {p0 : Int} (h1 : zTongue T p0) (h2 : (0 : Int) ≤ x2 ∧ x2 < 26) : ev 71 43 [(2, 0), (0, x1), (0, x2), (0, x3)] [(2, p0)] T V = some ((0, (V (p0 + 1) x2)), T, V) := by
  refine Eq.trans (ev_gq (show zcode 71 43 = some (56, 46, 9, 0, []) by decide +kernel) h1.o h1.p0) ?_
  refine Eq.trans (ev_ldi (show zcode 71 46 = some (4, 47, 2, 0, []) by decide +kernel) rfl) ?_
  refine Eq.trans (ev_ia (show zcode 71 47 = some (60, 48, 0, 0, []) by decide +kernel) h1.a1 h2) ?_
  exact ev_ri (show zcode 71 48 = some (72, 49, 0, 0, []) by decide +kernel)
theorem b71_49 {T : zT} {V : zM} {x1 : Int} {x2 : Int} {x3 : Int} : ev 71 49 [(2, 0), (0, x1), (0, x2), (0, x3)] [] T V = if x3 = 1 then ev 71 54 [(2, 0), (0, x1), (0, x2), (0, x3)] [] T V else ev 71 70 [(2, 0), (0, x1), (0, x2), (0, x3)] [] T V := by
  refine Eq.trans (ev_ldi (show zcode 71 49 = some (4, 50, 3, 0, []) by decide +kernel) rfl) ?_
  refine Eq.trans (ev_ci (show zcode 71 50 = some (0, 51, 0, 1, []) by decide +kernel) (by decide)) ?_
  exact ev_cne (show zcode 71 51 = some (47, 54, 70, 0, []) by decide +kernel)
theorem b71_54 {T : zT} {V : zM} {x1 : Int} {x2 : Int} {x3 : Int} (hS : zStr T)  : ev 71 54 [(2, 0), (0, x1), (0, x2), (0, x3)] [] T V = (zcall 74 [(2, 1), (0, x1)] T V).bind fun x => ev 71 62 [(2, 0), (0, x1), (0, x2), (0, x3)] (z_push x.1 []) x.2.1 x.2.2 := by
  refine Eq.trans (ev_lda (show zcode 71 54 = some (6, 55, 0, 0, []) by decide +kernel) rfl (by decide)) ?_
  refine Eq.trans (ev_gq (show zcode 71 55 = some (56, 58, 11, 0, []) by decide +kernel) (so0 hS) (sp0_0 hS)) ?_
  refine Eq.trans (ev_ldi (show zcode 71 58 = some (4, 59, 1, 0, []) by decide +kernel) rfl) ?_
  exact ev_cvirt (show zcode 71 59 = some (76, 62, 74, 2, [6]) by decide +kernel) (args := [(0, x1)]) (rest := []) rfl (so1 hS) rfl (show 0 ≤ 8 by decide) ⟨by decide, show 2 ≤ 2 by decide⟩
theorem b71_62 {T : zT} {V : zM} {x1 : Int} {x2 : Int} {x3 : Int} {p0 : Int} (h1 : zTongue T p0) (h2 : (0 : Int) ≤ x2 ∧ x2 < 26) : ev 71 62 [(2, 0), (0, x1), (0, x2), (0, x3)] [(2, p0)] T V = ev 71 71 [(2, 0), (0, x1), (0, x2), (0, x3)] [(0, (V (p0 + 2) x2))] T V := by
  refine Eq.trans (ev_gq (show zcode 71 62 = some (56, 65, 9, 1, []) by decide +kernel) h1.o h1.p1) ?_
  refine Eq.trans (ev_ldi (show zcode 71 65 = some (4, 66, 2, 0, []) by decide +kernel) rfl) ?_
  refine Eq.trans (ev_ia (show zcode 71 66 = some (60, 67, 0, 0, []) by decide +kernel) h1.a2 h2) ?_
  exact ev_goto (show zcode 71 67 = some (53, 70, 71, 0, []) by decide +kernel)
theorem b71_70 {T : zT} {V : zM} {x1 : Int} {x2 : Int} {x3 : Int} : ev 71 70 [(2, 0), (0, x1), (0, x2), (0, x3)] [] T V = ev 71 71 [(2, 0), (0, x1), (0, x2), (0, x3)] [(0, (-1))] T V := by
  exact ev_ci (show zcode 71 70 = some (0, 71, 0, (-1), []) by decide +kernel) (by decide)
theorem b71_71 {T : zT} {V : zM} {x1 : Int} {x2 : Int} {x3 : Int} {y0 : Int} : ev 71 71 [(2, 0), (0, x1), (0, x2), (0, x3)] [(0, y0)] T V = some ((0, y0), T, V) := by
  exact ev_ri (show zcode 71 71 = some (72, 72, 0, 0, []) by decide +kernel)
/-! 72: TwoWayWall.isTongue(I)Z -/
theorem e72 {T : zT} {V : zM} {x0 : Int} : zcall 72 [(0, x0)] T V = ev 72 0 [(0, x0)] [] T V := rfl
theorem b72_0 {T : zT} {V : zM} {x0 : Int} : ev 72 0 [(0, x0)] [] T V = if x0 = 0 then ev 72 9 [(0, x0)] [] T V else ev 72 4 [(0, x0)] [] T V := by
  refine Eq.trans (ev_ldi (show zcode 72 0 = some (4, 1, 0, 0, []) by decide +kernel) rfl) ?_
  exact ev_eq (show zcode 72 1 = some (40, 4, 9, 0, []) by decide +kernel)
theorem b72_4 {T : zT} {V : zM} {x0 : Int} : ev 72 4 [(0, x0)] [] T V = if x0 = 1 then ev 72 9 [(0, x0)] [] T V else ev 72 13 [(0, x0)] [] T V := by
  refine Eq.trans (ev_ldi (show zcode 72 4 = some (4, 5, 0, 0, []) by decide +kernel) rfl) ?_
  refine Eq.trans (ev_ci (show zcode 72 5 = some (0, 6, 0, 1, []) by decide +kernel) (by decide)) ?_
  exact ev_cne (show zcode 72 6 = some (47, 9, 13, 0, []) by decide +kernel)
theorem b72_9 {T : zT} {V : zM} {x0 : Int} : ev 72 9 [(0, x0)] [] T V = ev 72 14 [(0, x0)] [(0, 1)] T V := by
  refine Eq.trans (ev_ci (show zcode 72 9 = some (0, 10, 0, 1, []) by decide +kernel) (by decide)) ?_
  exact ev_goto (show zcode 72 10 = some (53, 13, 14, 0, []) by decide +kernel)
theorem b72_13 {T : zT} {V : zM} {x0 : Int} : ev 72 13 [(0, x0)] [] T V = ev 72 14 [(0, x0)] [(0, 0)] T V := by
  exact ev_ci (show zcode 72 13 = some (0, 14, 0, 0, []) by decide +kernel) (by decide)
theorem b72_14 {T : zT} {V : zM} {x0 : Int} {y0 : Int} (h1 : (0 : Int) ≤ y0 ∧ y0 ≤ 1) : ev 72 14 [(0, x0)] [(0, y0)] T V = some ((0, y0), T, V) := by
  exact ev_rz (show zcode 72 14 = some (72, 15, 3, 0, []) by decide +kernel) h1
/-! 73: TwoWayWall.isLetter(I)Z -/
theorem e73 {T : zT} {V : zM} {x0 : Int} : zcall 73 [(0, x0)] T V = ev 73 0 [(0, x0)] [] T V := rfl
theorem b73_0 {T : zT} {V : zM} {x0 : Int} : ev 73 0 [(0, x0)] [] T V = if x0 < 0 then ev 73 14 [(0, x0)] [] T V else ev 73 4 [(0, x0)] [] T V := by
  refine Eq.trans (ev_ldi (show zcode 73 0 = some (4, 1, 0, 0, []) by decide +kernel) rfl) ?_
  exact ev_lt (show zcode 73 1 = some (42, 4, 14, 0, []) by decide +kernel)
theorem b73_4 {T : zT} {V : zM} {x0 : Int} : ev 73 4 [(0, x0)] [] T V = if 26 ≤ x0 then ev 73 14 [(0, x0)] [] T V else ev 73 10 [(0, x0)] [] T V := by
  refine Eq.trans (ev_ldi (show zcode 73 4 = some (4, 5, 0, 0, []) by decide +kernel) rfl) ?_
  refine Eq.trans (ev_ci (show zcode 73 5 = some (0, 7, 0, 26, []) by decide +kernel) (by decide)) ?_
  exact ev_cge (show zcode 73 7 = some (49, 10, 14, 0, []) by decide +kernel)
theorem b73_10 {T : zT} {V : zM} {x0 : Int} : ev 73 10 [(0, x0)] [] T V = ev 73 15 [(0, x0)] [(0, 1)] T V := by
  refine Eq.trans (ev_ci (show zcode 73 10 = some (0, 11, 0, 1, []) by decide +kernel) (by decide)) ?_
  exact ev_goto (show zcode 73 11 = some (53, 14, 15, 0, []) by decide +kernel)
theorem b73_14 {T : zT} {V : zM} {x0 : Int} : ev 73 14 [(0, x0)] [] T V = ev 73 15 [(0, x0)] [(0, 0)] T V := by
  exact ev_ci (show zcode 73 14 = some (0, 15, 0, 0, []) by decide +kernel) (by decide)
theorem b73_15 {T : zT} {V : zM} {x0 : Int} {y0 : Int} (h1 : (0 : Int) ≤ y0 ∧ y0 ≤ 1) : ev 73 15 [(0, x0)] [(0, y0)] T V = some ((0, y0), T, V) := by
  exact ev_rz (show zcode 73 15 = some (72, 16, 3, 0, []) by decide +kernel) h1
/-! 75: TwoWayWall.word(III)I -/
theorem e75 {T : zT} {V : zM} {x1 : Int} {x2 : Int} {x3 : Int} : zcall 75 [(2, 0), (0, x1), (0, x2), (0, x3)] T V = ev 75 0 [(2, 0), (0, x1), (0, x2), (0, x3), (9, 0)] [] T V := rfl
theorem b75_0 {T : zT} {V : zM} {x1 : Int} {x2 : Int} {x3 : Int} : ev 75 0 [(2, 0), (0, x1), (0, x2), (0, x3), (9, 0)] [] T V = (zcall 72 [(0, x1)] T V).bind fun x => ev 75 4 [(2, 0), (0, x1), (0, x2), (0, x3), (9, 0)] (z_push x.1 []) x.2.1 x.2.2 := by
  refine Eq.trans (ev_ldi (show zcode 75 0 = some (4, 1, 1, 0, []) by decide +kernel) rfl) ?_
  exact ev_cstat (show zcode 75 1 = some (74, 4, 72, 1, []) by decide +kernel) (args := [(0, x1)]) (rest := []) rfl rfl (show 0 ≤ 8 by decide) ⟨by decide, show 1 ≤ 1 by decide⟩
theorem b75_4 {T : zT} {V : zM} {x1 : Int} {x2 : Int} {x3 : Int} {y0 : Int} : ev 75 4 [(2, 0), (0, x1), (0, x2), (0, x3), (9, 0)] [(0, y0)] T V = if y0 = 0 then ev 75 26 [(2, 0), (0, x1), (0, x2), (0, x3), (9, 0)] [] T V else ev 75 7 [(2, 0), (0, x1), (0, x2), (0, x3), (9, 0)] [] T V := by
  exact ev_eq (show zcode 75 4 = some (40, 7, 26, 0, []) by decide +kernel)
theorem b75_7 {T : zT} {V : zM} {x1 : Int} {x2 : Int} {x3 : Int} : ev 75 7 [(2, 0), (0, x1), (0, x2), (0, x3), (9, 0)] [] T V = if x2 < 0 then ev 75 26 [(2, 0), (0, x1), (0, x2), (0, x3), (9, 0)] [] T V else ev 75 11 [(2, 0), (0, x1), (0, x2), (0, x3), (9, 0)] [] T V := by
  refine Eq.trans (ev_ldi (show zcode 75 7 = some (4, 8, 2, 0, []) by decide +kernel) rfl) ?_
  exact ev_lt (show zcode 75 8 = some (42, 11, 26, 0, []) by decide +kernel)
theorem b75_11 {T : zT} {V : zM} {x1 : Int} {x2 : Int} {x3 : Int} (hS : zStr T)  : ev 75 11 [(2, 0), (0, x1), (0, x2), (0, x3), (9, 0)] [] T V = (zcall 74 [(2, 1), (0, x1)] T V).bind fun x => ev 75 20 [(2, 0), (0, x1), (0, x2), (0, x3), (9, 0)] (z_push x.1 [(0, x2)]) x.2.1 x.2.2 := by
  refine Eq.trans (ev_ldi (show zcode 75 11 = some (4, 12, 2, 0, []) by decide +kernel) rfl) ?_
  refine Eq.trans (ev_lda (show zcode 75 12 = some (6, 13, 0, 0, []) by decide +kernel) rfl (by decide)) ?_
  refine Eq.trans (ev_gq (show zcode 75 13 = some (56, 16, 11, 0, []) by decide +kernel) (so0 hS) (sp0_0 hS)) ?_
  refine Eq.trans (ev_ldi (show zcode 75 16 = some (4, 17, 1, 0, []) by decide +kernel) rfl) ?_
  exact ev_cvirt (show zcode 75 17 = some (76, 20, 74, 2, [6]) by decide +kernel) (args := [(0, x1)]) (rest := [(0, x2)]) rfl (so1 hS) rfl (show 1 ≤ 8 by decide) ⟨by decide, show 2 ≤ 2 by decide⟩
theorem b75_20 {T : zT} {V : zM} {x1 : Int} {x2 : Int} {x3 : Int} {y0 : Int} {p1 : Int} (h1 : zTongue T p1) : ev 75 20 [(2, 0), (0, x1), (0, x2), (0, x3), (9, 0)] [(2, p1), (0, y0)] T V = if y0 < (V p1 5) then ev 75 28 [(2, 0), (0, x1), (0, x2), (0, x3), (9, 0)] [] T V else ev 75 26 [(2, 0), (0, x1), (0, x2), (0, x3), (9, 0)] [] T V := by
  refine Eq.trans (ev_gi (show zcode 75 20 = some (55, 23, 9, 5, []) by decide +kernel) h1.o) ?_
  exact ev_clt (show zcode 75 23 = some (48, 26, 28, 0, []) by decide +kernel)
theorem b75_26 {T : zT} {V : zM} {x1 : Int} {x2 : Int} {x3 : Int} : ev 75 26 [(2, 0), (0, x1), (0, x2), (0, x3), (9, 0)] [] T V = some ((0, (-1)), T, V) := by
  refine Eq.trans (ev_ci (show zcode 75 26 = some (0, 27, 0, (-1), []) by decide +kernel) (by decide)) ?_
  exact ev_ri (show zcode 75 27 = some (72, 28, 0, 0, []) by decide +kernel)
theorem b75_28 {T : zT} {V : zM} {x1 : Int} {x2 : Int} {x3 : Int} (hS : zStr T)  : ev 75 28 [(2, 0), (0, x1), (0, x2), (0, x3), (9, 0)] [] T V = (zcall 74 [(2, 1), (0, x1)] T V).bind fun x => ev 75 36 [(2, 0), (0, x1), (0, x2), (0, x3), (9, 0)] (z_push x.1 []) x.2.1 x.2.2 := by
  refine Eq.trans (ev_lda (show zcode 75 28 = some (6, 29, 0, 0, []) by decide +kernel) rfl (by decide)) ?_
  refine Eq.trans (ev_gq (show zcode 75 29 = some (56, 32, 11, 0, []) by decide +kernel) (so0 hS) (sp0_0 hS)) ?_
  refine Eq.trans (ev_ldi (show zcode 75 32 = some (4, 33, 1, 0, []) by decide +kernel) rfl) ?_
  exact ev_cvirt (show zcode 75 33 = some (76, 36, 74, 2, [6]) by decide +kernel) (args := [(0, x1)]) (rest := []) rfl (so1 hS) rfl (show 0 ≤ 8 by decide) ⟨by decide, show 2 ≤ 2 by decide⟩
theorem b75_36 {T : zT} {V : zM} {x1 : Int} {x2 : Int} {x3 : Int} {p0 : Int} : ev 75 36 [(2, 0), (0, x1), (0, x2), (0, x3), (9, 0)] [(2, p0)] T V = if x3 = 0 then ev 75 42 [(2, 0), (0, x1), (0, x2), (0, x3), (2, p0)] [] T V else ev 75 50 [(2, 0), (0, x1), (0, x2), (0, x3), (2, p0)] [] T V := by
  refine Eq.trans (ev_sta (show zcode 75 36 = some (9, 38, 4, 0, []) by decide +kernel) ⟨show 4 < 5 by decide, Or.inr (show ¬ (0 : Nat) = 1 by decide)⟩) ?_
  refine Eq.trans (ev_ldi (show zcode 75 38 = some (4, 39, 3, 0, []) by decide +kernel) rfl) ?_
  exact ev_ne (show zcode 75 39 = some (41, 42, 50, 0, []) by decide +kernel)
theorem b75_42 {T : zT} {V : zM} {x1 : Int} {x2 : Int} {x3 : Int} {q4 : Int} (h1 : zTongue T q4) (h2 : (0 : Int) ≤ x2 ∧ x2 < 8) : ev 75 42 [(2, 0), (0, x1), (0, x2), (0, x3), (2, q4)] [] T V = some ((0, (V (q4 + 3) x2)), T, V) := by
  refine Eq.trans (ev_lda (show zcode 75 42 = some (6, 44, 4, 0, []) by decide +kernel) rfl (by decide)) ?_
  refine Eq.trans (ev_gq (show zcode 75 44 = some (56, 47, 9, 2, []) by decide +kernel) h1.o h1.p2) ?_
  refine Eq.trans (ev_ldi (show zcode 75 47 = some (4, 48, 2, 0, []) by decide +kernel) rfl) ?_
  refine Eq.trans (ev_ia (show zcode 75 48 = some (60, 49, 0, 0, []) by decide +kernel) h1.a3 h2) ?_
  exact ev_ri (show zcode 75 49 = some (72, 50, 0, 0, []) by decide +kernel)
theorem b75_50 {T : zT} {V : zM} {x1 : Int} {x2 : Int} {x3 : Int} {q4 : Int} : ev 75 50 [(2, 0), (0, x1), (0, x2), (0, x3), (2, q4)] [] T V = if x3 = 1 then ev 75 55 [(2, 0), (0, x1), (0, x2), (0, x3), (2, q4)] [] T V else ev 75 63 [(2, 0), (0, x1), (0, x2), (0, x3), (2, q4)] [] T V := by
  refine Eq.trans (ev_ldi (show zcode 75 50 = some (4, 51, 3, 0, []) by decide +kernel) rfl) ?_
  refine Eq.trans (ev_ci (show zcode 75 51 = some (0, 52, 0, 1, []) by decide +kernel) (by decide)) ?_
  exact ev_cne (show zcode 75 52 = some (47, 55, 63, 0, []) by decide +kernel)
theorem b75_55 {T : zT} {V : zM} {x1 : Int} {x2 : Int} {x3 : Int} {q4 : Int} (h1 : zTongue T q4) (h2 : (0 : Int) ≤ x2 ∧ x2 < 8) : ev 75 55 [(2, 0), (0, x1), (0, x2), (0, x3), (2, q4)] [] T V = some ((0, (V (q4 + 4) x2)), T, V) := by
  refine Eq.trans (ev_lda (show zcode 75 55 = some (6, 57, 4, 0, []) by decide +kernel) rfl (by decide)) ?_
  refine Eq.trans (ev_gq (show zcode 75 57 = some (56, 60, 9, 3, []) by decide +kernel) h1.o h1.p3) ?_
  refine Eq.trans (ev_ldi (show zcode 75 60 = some (4, 61, 2, 0, []) by decide +kernel) rfl) ?_
  refine Eq.trans (ev_ia (show zcode 75 61 = some (60, 62, 0, 0, []) by decide +kernel) h1.a4 h2) ?_
  exact ev_ri (show zcode 75 62 = some (72, 63, 0, 0, []) by decide +kernel)
theorem b75_63 {T : zT} {V : zM} {x1 : Int} {x2 : Int} {x3 : Int} {q4 : Int} : ev 75 63 [(2, 0), (0, x1), (0, x2), (0, x3), (2, q4)] [] T V = if x3 < 2 then ev 75 81 [(2, 0), (0, x1), (0, x2), (0, x3), (2, q4)] [] T V else ev 75 68 [(2, 0), (0, x1), (0, x2), (0, x3), (2, q4)] [] T V := by
  refine Eq.trans (ev_ldi (show zcode 75 63 = some (4, 64, 3, 0, []) by decide +kernel) rfl) ?_
  refine Eq.trans (ev_ci (show zcode 75 64 = some (0, 65, 0, 2, []) by decide +kernel) (by decide)) ?_
  exact ev_clt (show zcode 75 65 = some (48, 68, 81, 0, []) by decide +kernel)
theorem b75_68 {T : zT} {V : zM} {x1 : Int} {x2 : Int} {x3 : Int} {q4 : Int} (h1 : -2147483648 ≤ (x3 - 2) ∧ (x3 - 2) ≤ 2147483647) (h2 : zTongue T q4) (h3 : (0 : Int) ≤ x2 ∧ x2 < 8) : ev 75 68 [(2, 0), (0, x1), (0, x2), (0, x3), (2, q4)] [] T V = if (x3 - 2) < (V (q4 + 4) x2) then ev 75 83 [(2, 0), (0, x1), (0, x2), (0, x3), (2, q4)] [] T V else ev 75 81 [(2, 0), (0, x1), (0, x2), (0, x3), (2, q4)] [] T V := by
  refine Eq.trans (ev_ldi (show zcode 75 68 = some (4, 69, 3, 0, []) by decide +kernel) rfl) ?_
  refine Eq.trans (ev_ci (show zcode 75 69 = some (0, 70, 0, 2, []) by decide +kernel) (by decide)) ?_
  refine Eq.trans (ev_sub (show zcode 75 70 = some (12, 71, 0, 0, []) by decide +kernel) h1) ?_
  refine Eq.trans (ev_lda (show zcode 75 71 = some (6, 73, 4, 0, []) by decide +kernel) rfl (by decide)) ?_
  refine Eq.trans (ev_gq (show zcode 75 73 = some (56, 76, 9, 3, []) by decide +kernel) h2.o h2.p3) ?_
  refine Eq.trans (ev_ldi (show zcode 75 76 = some (4, 77, 2, 0, []) by decide +kernel) rfl) ?_
  refine Eq.trans (ev_ia (show zcode 75 77 = some (60, 78, 0, 0, []) by decide +kernel) h2.a4 h3) ?_
  exact ev_clt (show zcode 75 78 = some (48, 81, 83, 0, []) by decide +kernel)
theorem b75_81 {T : zT} {V : zM} {x1 : Int} {x2 : Int} {x3 : Int} {q4 : Int} : ev 75 81 [(2, 0), (0, x1), (0, x2), (0, x3), (2, q4)] [] T V = some ((0, (-1)), T, V) := by
  refine Eq.trans (ev_ci (show zcode 75 81 = some (0, 82, 0, (-1), []) by decide +kernel) (by decide)) ?_
  exact ev_ri (show zcode 75 82 = some (72, 83, 0, 0, []) by decide +kernel)
theorem b75_83 {T : zT} {V : zM} {x1 : Int} {x2 : Int} {x3 : Int} {q4 : Int} (h1 : -2147483648 ≤ (x3 - 2) ∧ (x3 - 2) ≤ 2147483647) (h2 : zTongue T q4) : ev 75 83 [(2, 0), (0, x1), (0, x2), (0, x3), (2, q4)] [] T V = (zcall 76 [(2, q4), (0, x2), (0, (x3 - 2))] T V).bind fun x => ev 75 92 [(2, 0), (0, x1), (0, x2), (0, x3), (2, q4)] (z_push x.1 []) x.2.1 x.2.2 := by
  refine Eq.trans (ev_lda (show zcode 75 83 = some (6, 85, 4, 0, []) by decide +kernel) rfl (by decide)) ?_
  refine Eq.trans (ev_ldi (show zcode 75 85 = some (4, 86, 2, 0, []) by decide +kernel) rfl) ?_
  refine Eq.trans (ev_ldi (show zcode 75 86 = some (4, 87, 3, 0, []) by decide +kernel) rfl) ?_
  refine Eq.trans (ev_ci (show zcode 75 87 = some (0, 88, 0, 2, []) by decide +kernel) (by decide)) ?_
  refine Eq.trans (ev_sub (show zcode 75 88 = some (12, 89, 0, 0, []) by decide +kernel) h1) ?_
  exact ev_cvirt (show zcode 75 89 = some (76, 92, 76, 3, [9]) by decide +kernel) (args := [(0, x2), (0, (x3 - 2))]) (rest := []) rfl h2.o rfl (show 0 ≤ 8 by decide) ⟨by decide, show 3 ≤ 3 by decide⟩
theorem b75_92 {T : zT} {V : zM} {x1 : Int} {x2 : Int} {x3 : Int} {q4 : Int} {y0 : Int} : ev 75 92 [(2, 0), (0, x1), (0, x2), (0, x3), (2, q4)] [(0, y0)] T V = some ((0, y0), T, V) := by
  exact ev_ri (show zcode 75 92 = some (72, 93, 0, 0, []) by decide +kernel)
/-! 77: TwoWayWall.reads(II)I -/
theorem e77 {T : zT} {V : zM} {x1 : Int} {x2 : Int} : zcall 77 [(2, 0), (0, x1), (0, x2)] T V = ev 77 0 [(2, 0), (0, x1), (0, x2)] [] T V := rfl
theorem b77_0 {T : zT} {V : zM} {x1 : Int} {x2 : Int} : ev 77 0 [(2, 0), (0, x1), (0, x2)] [] T V = (zcall 72 [(0, x1)] T V).bind fun x => ev 77 4 [(2, 0), (0, x1), (0, x2)] (z_push x.1 []) x.2.1 x.2.2 := by
  refine Eq.trans (ev_ldi (show zcode 77 0 = some (4, 1, 1, 0, []) by decide +kernel) rfl) ?_
  exact ev_cstat (show zcode 77 1 = some (74, 4, 72, 1, []) by decide +kernel) (args := [(0, x1)]) (rest := []) rfl rfl (show 0 ≤ 8 by decide) ⟨by decide, show 1 ≤ 1 by decide⟩
theorem b77_4 {T : zT} {V : zM} {x1 : Int} {x2 : Int} {y0 : Int} : ev 77 4 [(2, 0), (0, x1), (0, x2)] [(0, y0)] T V = if y0 = 0 then ev 77 14 [(2, 0), (0, x1), (0, x2)] [] T V else ev 77 7 [(2, 0), (0, x1), (0, x2)] [] T V := by
  exact ev_eq (show zcode 77 4 = some (40, 7, 14, 0, []) by decide +kernel)
theorem b77_7 {T : zT} {V : zM} {x1 : Int} {x2 : Int} : ev 77 7 [(2, 0), (0, x1), (0, x2)] [] T V = (zcall 29 [(0, x2)] T V).bind fun x => ev 77 11 [(2, 0), (0, x1), (0, x2)] (z_push x.1 []) x.2.1 x.2.2 := by
  refine Eq.trans (ev_ldi (show zcode 77 7 = some (4, 8, 2, 0, []) by decide +kernel) rfl) ?_
  exact ev_cstat (show zcode 77 8 = some (74, 11, 29, 1, []) by decide +kernel) (args := [(0, x2)]) (rest := []) rfl rfl (show 0 ≤ 8 by decide) ⟨by decide, show 1 ≤ 1 by decide⟩
theorem b77_11 {T : zT} {V : zM} {x1 : Int} {x2 : Int} {y0 : Int} : ev 77 11 [(2, 0), (0, x1), (0, x2)] [(0, y0)] T V = if y0 = 0 then ev 77 14 [(2, 0), (0, x1), (0, x2)] [] T V else ev 77 16 [(2, 0), (0, x1), (0, x2)] [] T V := by
  exact ev_ne (show zcode 77 11 = some (41, 14, 16, 0, []) by decide +kernel)
theorem b77_14 {T : zT} {V : zM} {x1 : Int} {x2 : Int} : ev 77 14 [(2, 0), (0, x1), (0, x2)] [] T V = some ((0, (-1)), T, V) := by
  refine Eq.trans (ev_ci (show zcode 77 14 = some (0, 15, 0, (-1), []) by decide +kernel) (by decide)) ?_
  exact ev_ri (show zcode 77 15 = some (72, 16, 0, 0, []) by decide +kernel)
theorem b77_16 {T : zT} {V : zM} {x1 : Int} {x2 : Int} (hS : zStr T)  : ev 77 16 [(2, 0), (0, x1), (0, x2)] [] T V = (zcall 78 [(2, 59), (0, x1), (0, x2)] T V).bind fun x => ev 77 25 [(2, 0), (0, x1), (0, x2)] (z_push x.1 []) x.2.1 x.2.2 := by
  refine Eq.trans (ev_lda (show zcode 77 16 = some (6, 17, 0, 0, []) by decide +kernel) rfl (by decide)) ?_
  refine Eq.trans (ev_gq (show zcode 77 17 = some (56, 20, 11, 5, []) by decide +kernel) (so0 hS) (sp0_5 hS)) ?_
  refine Eq.trans (ev_ldi (show zcode 77 20 = some (4, 21, 1, 0, []) by decide +kernel) rfl) ?_
  refine Eq.trans (ev_ldi (show zcode 77 21 = some (4, 22, 2, 0, []) by decide +kernel) rfl) ?_
  exact ev_cvirt (show zcode 77 22 = some (76, 25, 78, 3, [4]) by decide +kernel) (args := [(0, x1), (0, x2)]) (rest := []) rfl (so59 hS) rfl (show 0 ≤ 8 by decide) ⟨by decide, show 3 ≤ 3 by decide⟩
theorem b77_25 {T : zT} {V : zM} {x1 : Int} {x2 : Int} {y0 : Int} : ev 77 25 [(2, 0), (0, x1), (0, x2)] [(0, y0)] T V = (zcall 79 [(0, y0)] T V).bind fun x => ev 77 28 [(2, 0), (0, x1), (0, x2)] (z_push x.1 []) x.2.1 x.2.2 := by
  exact ev_cstat (show zcode 77 25 = some (74, 28, 79, 1, []) by decide +kernel) (args := [(0, y0)]) (rest := []) rfl rfl (show 0 ≤ 8 by decide) ⟨by decide, show 1 ≤ 1 by decide⟩
theorem b77_28 {T : zT} {V : zM} {x1 : Int} {x2 : Int} {y0 : Int} : ev 77 28 [(2, 0), (0, x1), (0, x2)] [(0, y0)] T V = some ((0, y0), T, V) := by
  exact ev_ri (show zcode 77 28 = some (72, 29, 0, 0, []) by decide +kernel)
/-! 79: TwoWayWall.noneForGap(I)I -/
theorem e79 {T : zT} {V : zM} {x0 : Int} : zcall 79 [(0, x0)] T V = ev 79 0 [(0, x0)] [] T V := rfl
theorem b79_0 {T : zT} {V : zM} {x0 : Int} : ev 79 0 [(0, x0)] [] T V = if x0 = 26 then ev 79 6 [(0, x0)] [] T V else ev 79 10 [(0, x0)] [] T V := by
  refine Eq.trans (ev_ldi (show zcode 79 0 = some (4, 1, 0, 0, []) by decide +kernel) rfl) ?_
  refine Eq.trans (ev_ci (show zcode 79 1 = some (0, 3, 0, 26, []) by decide +kernel) (by decide)) ?_
  exact ev_cne (show zcode 79 3 = some (47, 6, 10, 0, []) by decide +kernel)
theorem b79_6 {T : zT} {V : zM} {x0 : Int} : ev 79 6 [(0, x0)] [] T V = ev 79 11 [(0, x0)] [(0, (-1))] T V := by
  refine Eq.trans (ev_ci (show zcode 79 6 = some (0, 7, 0, (-1), []) by decide +kernel) (by decide)) ?_
  exact ev_goto (show zcode 79 7 = some (53, 10, 11, 0, []) by decide +kernel)
theorem b79_10 {T : zT} {V : zM} {x0 : Int} : ev 79 10 [(0, x0)] [] T V = ev 79 11 [(0, x0)] [(0, x0)] T V := by
  exact ev_ldi (show zcode 79 10 = some (4, 11, 0, 0, []) by decide +kernel) rfl
theorem b79_11 {T : zT} {V : zM} {x0 : Int} {y0 : Int} : ev 79 11 [(0, x0)] [(0, y0)] T V = some ((0, y0), T, V) := by
  exact ev_ri (show zcode 79 11 = some (72, 12, 0, 0, []) by decide +kernel)
/-! 80: TwoWayWall.read(II)I -/
theorem e80 {T : zT} {V : zM} {x1 : Int} {x2 : Int} : zcall 80 [(2, 0), (0, x1), (0, x2)] T V = ev 80 0 [(2, 0), (0, x1), (0, x2)] [] T V := rfl
theorem b80_0 {T : zT} {V : zM} {x1 : Int} {x2 : Int} : ev 80 0 [(2, 0), (0, x1), (0, x2)] [] T V = (zcall 72 [(0, x1)] T V).bind fun x => ev 80 4 [(2, 0), (0, x1), (0, x2)] (z_push x.1 []) x.2.1 x.2.2 := by
  refine Eq.trans (ev_ldi (show zcode 80 0 = some (4, 1, 1, 0, []) by decide +kernel) rfl) ?_
  exact ev_cstat (show zcode 80 1 = some (74, 4, 72, 1, []) by decide +kernel) (args := [(0, x1)]) (rest := []) rfl rfl (show 0 ≤ 8 by decide) ⟨by decide, show 1 ≤ 1 by decide⟩
theorem b80_4 {T : zT} {V : zM} {x1 : Int} {x2 : Int} {y0 : Int} : ev 80 4 [(2, 0), (0, x1), (0, x2)] [(0, y0)] T V = if y0 = 0 then ev 80 18 [(2, 0), (0, x1), (0, x2)] [] T V else ev 80 7 [(2, 0), (0, x1), (0, x2)] [] T V := by
  exact ev_eq (show zcode 80 4 = some (40, 7, 18, 0, []) by decide +kernel)
theorem b80_7 {T : zT} {V : zM} {x1 : Int} {x2 : Int} (hS : zStr T)  : ev 80 7 [(2, 0), (0, x1), (0, x2)] [] T V = (zcall 28 [(2, 1), (0, x2)] T V).bind fun x => ev 80 15 [(2, 0), (0, x1), (0, x2)] (z_push x.1 []) x.2.1 x.2.2 := by
  refine Eq.trans (ev_lda (show zcode 80 7 = some (6, 8, 0, 0, []) by decide +kernel) rfl (by decide)) ?_
  refine Eq.trans (ev_gq (show zcode 80 8 = some (56, 11, 11, 0, []) by decide +kernel) (so0 hS) (sp0_0 hS)) ?_
  refine Eq.trans (ev_ldi (show zcode 80 11 = some (4, 12, 2, 0, []) by decide +kernel) rfl) ?_
  exact ev_cvirt (show zcode 80 12 = some (76, 15, 28, 2, [6]) by decide +kernel) (args := [(0, x2)]) (rest := []) rfl (so1 hS) rfl (show 0 ≤ 8 by decide) ⟨by decide, show 2 ≤ 2 by decide⟩
theorem b80_15 {T : zT} {V : zM} {x1 : Int} {x2 : Int} {y0 : Int} : ev 80 15 [(2, 0), (0, x1), (0, x2)] [(0, y0)] T V = if y0 = 0 then ev 80 18 [(2, 0), (0, x1), (0, x2)] [] T V else ev 80 20 [(2, 0), (0, x1), (0, x2)] [] T V := by
  exact ev_ne (show zcode 80 15 = some (41, 18, 20, 0, []) by decide +kernel)
theorem b80_18 {T : zT} {V : zM} {x1 : Int} {x2 : Int} : ev 80 18 [(2, 0), (0, x1), (0, x2)] [] T V = some ((0, (-1)), T, V) := by
  refine Eq.trans (ev_ci (show zcode 80 18 = some (0, 19, 0, (-1), []) by decide +kernel) (by decide)) ?_
  exact ev_ri (show zcode 80 19 = some (72, 20, 0, 0, []) by decide +kernel)
theorem b80_20 {T : zT} {V : zM} {x1 : Int} {x2 : Int} (hS : zStr T)  : ev 80 20 [(2, 0), (0, x1), (0, x2)] [] T V = (zcall 81 [(2, 0), (0, x1), (0, x2)] T V).bind fun x => ev 80 26 [(2, 0), (0, x1), (0, x2)] (z_push x.1 []) x.2.1 x.2.2 := by
  refine Eq.trans (ev_lda (show zcode 80 20 = some (6, 21, 0, 0, []) by decide +kernel) rfl (by decide)) ?_
  refine Eq.trans (ev_ldi (show zcode 80 21 = some (4, 22, 1, 0, []) by decide +kernel) rfl) ?_
  refine Eq.trans (ev_ldi (show zcode 80 22 = some (4, 23, 2, 0, []) by decide +kernel) rfl) ?_
  exact ev_cvirt (show zcode 80 23 = some (76, 26, 81, 3, [11]) by decide +kernel) (args := [(0, x1), (0, x2)]) (rest := []) rfl (so0 hS) rfl (show 0 ≤ 8 by decide) ⟨by decide, show 3 ≤ 4 by decide⟩
theorem b80_26 {T : zT} {V : zM} {x1 : Int} {x2 : Int} {y0 : Int} : ev 80 26 [(2, 0), (0, x1), (0, x2)] [(0, y0)] T V = (zcall 79 [(0, y0)] T V).bind fun x => ev 80 29 [(2, 0), (0, x1), (0, x2)] (z_push x.1 []) x.2.1 x.2.2 := by
  exact ev_cstat (show zcode 80 26 = some (74, 29, 79, 1, []) by decide +kernel) (args := [(0, y0)]) (rest := []) rfl rfl (show 0 ≤ 8 by decide) ⟨by decide, show 1 ≤ 1 by decide⟩
theorem b80_29 {T : zT} {V : zM} {x1 : Int} {x2 : Int} {y0 : Int} : ev 80 29 [(2, 0), (0, x1), (0, x2)] [(0, y0)] T V = some ((0, y0), T, V) := by
  exact ev_ri (show zcode 80 29 = some (72, 30, 0, 0, []) by decide +kernel)
/-! 81: TwoWayWall.kindAt(II)I -/
theorem e81 {T : zT} {V : zM} {x1 : Int} {x2 : Int} : zcall 81 [(2, 0), (0, x1), (0, x2)] T V = ev 81 0 [(2, 0), (0, x1), (0, x2), (9, 0)] [] T V := rfl
theorem b81_0 {T : zT} {V : zM} {x1 : Int} {x2 : Int} : ev 81 0 [(2, 0), (0, x1), (0, x2), (9, 0)] [] T V = if x1 = 0 then ev 81 4 [(2, 0), (0, x1), (0, x2), (9, 0)] [] T V else ev 81 8 [(2, 0), (0, x1), (0, x2), (9, 0)] [] T V := by
  refine Eq.trans (ev_ldi (show zcode 81 0 = some (4, 1, 1, 0, []) by decide +kernel) rfl) ?_
  exact ev_ne (show zcode 81 1 = some (41, 4, 8, 0, []) by decide +kernel)
theorem b81_4 {T : zT} {V : zM} {x1 : Int} {x2 : Int} : ev 81 4 [(2, 0), (0, x1), (0, x2), (9, 0)] [] T V = ev 81 19 [(2, 0), (0, x1), (0, x2), (9, 0)] [(0, x2)] T V := by
  refine Eq.trans (ev_ldi (show zcode 81 4 = some (4, 5, 2, 0, []) by decide +kernel) rfl) ?_
  exact ev_goto (show zcode 81 5 = some (53, 8, 19, 0, []) by decide +kernel)
theorem b81_8 {T : zT} {V : zM} {x1 : Int} {x2 : Int} (hS : zStr T) (h1 : -2147483648 ≤ ((V 1 0) - 1) ∧ ((V 1 0) - 1) ≤ 2147483647) (h2 : -2147483648 ≤ (((V 1 0) - 1) - x2) ∧ (((V 1 0) - 1) - x2) ≤ 2147483647) : ev 81 8 [(2, 0), (0, x1), (0, x2), (9, 0)] [] T V = ev 81 19 [(2, 0), (0, x1), (0, x2), (9, 0)] [(0, (((V 1 0) - 1) - x2))] T V := by
  refine Eq.trans (ev_lda (show zcode 81 8 = some (6, 9, 0, 0, []) by decide +kernel) rfl (by decide)) ?_
  refine Eq.trans (ev_gq (show zcode 81 9 = some (56, 12, 11, 0, []) by decide +kernel) (so0 hS) (sp0_0 hS)) ?_
  refine Eq.trans (ev_gi (show zcode 81 12 = some (55, 15, 6, 0, []) by decide +kernel) (so1 hS)) ?_
  refine Eq.trans (ev_ci (show zcode 81 15 = some (0, 16, 0, 1, []) by decide +kernel) (by decide)) ?_
  refine Eq.trans (ev_sub (show zcode 81 16 = some (12, 17, 0, 0, []) by decide +kernel) h1) ?_
  refine Eq.trans (ev_ldi (show zcode 81 17 = some (4, 18, 2, 0, []) by decide +kernel) rfl) ?_
  exact ev_sub (show zcode 81 18 = some (12, 19, 0, 0, []) by decide +kernel) h2
theorem b81_19 {T : zT} {V : zM} {x1 : Int} {x2 : Int} {y0 : Int} (hS : zStr T) (h1 : (0 : Int) ≤ y0 ∧ y0 < 16) : ev 81 19 [(2, 0), (0, x1), (0, x2), (9, 0)] [(0, y0)] T V = (zcall 78 [(2, 59), (0, x1), (0, (V 2 y0))] T V).bind fun x => ev 81 37 [(2, 0), (0, x1), (0, x2), (0, y0)] (z_push x.1 []) x.2.1 x.2.2 := by
  refine Eq.trans (ev_sti (show zcode 81 19 = some (7, 20, 3, 0, []) by decide +kernel) ⟨show 3 < 4 by decide, Or.inr (show ¬ (0 : Nat) = 1 by decide)⟩) ?_
  refine Eq.trans (ev_lda (show zcode 81 20 = some (6, 21, 0, 0, []) by decide +kernel) rfl (by decide)) ?_
  refine Eq.trans (ev_gq (show zcode 81 21 = some (56, 24, 11, 5, []) by decide +kernel) (so0 hS) (sp0_5 hS)) ?_
  refine Eq.trans (ev_ldi (show zcode 81 24 = some (4, 25, 1, 0, []) by decide +kernel) rfl) ?_
  refine Eq.trans (ev_lda (show zcode 81 25 = some (6, 26, 0, 0, []) by decide +kernel) rfl (by decide)) ?_
  refine Eq.trans (ev_gq (show zcode 81 26 = some (56, 29, 11, 0, []) by decide +kernel) (so0 hS) (sp0_0 hS)) ?_
  refine Eq.trans (ev_gq (show zcode 81 29 = some (56, 32, 6, 1, []) by decide +kernel) (so1 hS) (sp1_1 hS)) ?_
  refine Eq.trans (ev_ldi (show zcode 81 32 = some (4, 33, 3, 0, []) by decide +kernel) rfl) ?_
  refine Eq.trans (ev_ia (show zcode 81 33 = some (60, 34, 0, 0, []) by decide +kernel) (sa2 hS) h1) ?_
  exact ev_cvirt (show zcode 81 34 = some (76, 37, 78, 3, [4]) by decide +kernel) (args := [(0, x1), (0, (V 2 y0))]) (rest := []) rfl (so59 hS) rfl (show 0 ≤ 8 by decide) ⟨by decide, show 3 ≤ 3 by decide⟩
theorem b81_37 {T : zT} {V : zM} {x1 : Int} {x2 : Int} {x3 : Int} {y0 : Int} : ev 81 37 [(2, 0), (0, x1), (0, x2), (0, x3)] [(0, y0)] T V = some ((0, y0), T, V) := by
  exact ev_ri (show zcode 81 37 = some (72, 38, 0, 0, []) by decide +kernel)
/-! 82: TwoWayWall.spoken(I)I -/
theorem e82 {T : zT} {V : zM} {x1 : Int} : zcall 82 [(2, 0), (0, x1)] T V = ev 82 0 [(2, 0), (0, x1), (9, 0), (9, 0), (9, 0)] [] T V := rfl
theorem b82_0 {T : zT} {V : zM} {x1 : Int} : ev 82 0 [(2, 0), (0, x1), (9, 0), (9, 0), (9, 0)] [] T V = (zcall 72 [(0, x1)] T V).bind fun x => ev 82 4 [(2, 0), (0, x1), (9, 0), (9, 0), (9, 0)] (z_push x.1 []) x.2.1 x.2.2 := by
  refine Eq.trans (ev_ldi (show zcode 82 0 = some (4, 1, 1, 0, []) by decide +kernel) rfl) ?_
  exact ev_cstat (show zcode 82 1 = some (74, 4, 72, 1, []) by decide +kernel) (args := [(0, x1)]) (rest := []) rfl rfl (show 0 ≤ 8 by decide) ⟨by decide, show 1 ≤ 1 by decide⟩
theorem b82_4 {T : zT} {V : zM} {x1 : Int} {y0 : Int} : ev 82 4 [(2, 0), (0, x1), (9, 0), (9, 0), (9, 0)] [(0, y0)] T V = if y0 = 0 then ev 82 7 [(2, 0), (0, x1), (9, 0), (9, 0), (9, 0)] [] T V else ev 82 9 [(2, 0), (0, x1), (9, 0), (9, 0), (9, 0)] [] T V := by
  exact ev_ne (show zcode 82 4 = some (41, 7, 9, 0, []) by decide +kernel)
theorem b82_7 {T : zT} {V : zM} {x1 : Int} : ev 82 7 [(2, 0), (0, x1), (9, 0), (9, 0), (9, 0)] [] T V = some ((0, (-1)), T, V) := by
  refine Eq.trans (ev_ci (show zcode 82 7 = some (0, 8, 0, (-1), []) by decide +kernel) (by decide)) ?_
  exact ev_ri (show zcode 82 8 = some (72, 9, 0, 0, []) by decide +kernel)
theorem b82_9 {T : zT} {V : zM} {x1 : Int} : ev 82 9 [(2, 0), (0, x1), (9, 0), (9, 0), (9, 0)] [] T V = ev 82 16 [(2, 0), (0, x1), (0, 0), (0, 0), (0, 0)] [] T V := by
  refine Eq.trans (ev_ci (show zcode 82 9 = some (0, 10, 0, 0, []) by decide +kernel) (by decide)) ?_
  refine Eq.trans (ev_sti (show zcode 82 10 = some (7, 11, 2, 0, []) by decide +kernel) ⟨show 2 < 5 by decide, Or.inr (show ¬ (0 : Nat) = 1 by decide)⟩) ?_
  refine Eq.trans (ev_ci (show zcode 82 11 = some (0, 12, 0, 0, []) by decide +kernel) (by decide)) ?_
  refine Eq.trans (ev_sti (show zcode 82 12 = some (7, 13, 3, 0, []) by decide +kernel) ⟨show 3 < 5 by decide, Or.inr (show ¬ (0 : Nat) = 1 by decide)⟩) ?_
  refine Eq.trans (ev_ci (show zcode 82 13 = some (0, 14, 0, 0, []) by decide +kernel) (by decide)) ?_
  exact ev_sti (show zcode 82 14 = some (7, 16, 4, 0, []) by decide +kernel) ⟨show 4 < 5 by decide, Or.inr (show ¬ (0 : Nat) = 1 by decide)⟩
theorem b82_16 {T : zT} {V : zM} {x1 : Int} {x2 : Int} {x3 : Int} {x4 : Int} (hS : zStr T)  : ev 82 16 [(2, 0), (0, x1), (0, x2), (0, x3), (0, x4)] [] T V = if (V 1 0) < x4 then ev 82 79 [(2, 0), (0, x1), (0, x2), (0, x3), (0, x4)] [] T V else ev 82 28 [(2, 0), (0, x1), (0, x2), (0, x3), (0, x4)] [] T V := by
  refine Eq.trans (ev_ldi (show zcode 82 16 = some (4, 18, 4, 0, []) by decide +kernel) rfl) ?_
  refine Eq.trans (ev_lda (show zcode 82 18 = some (6, 19, 0, 0, []) by decide +kernel) rfl (by decide)) ?_
  refine Eq.trans (ev_gq (show zcode 82 19 = some (56, 22, 11, 0, []) by decide +kernel) (so0 hS) (sp0_0 hS)) ?_
  refine Eq.trans (ev_gi (show zcode 82 22 = some (55, 25, 6, 0, []) by decide +kernel) (so1 hS)) ?_
  exact ev_cgt (show zcode 82 25 = some (50, 28, 79, 0, []) by decide +kernel)
theorem b82_28 {T : zT} {V : zM} {x1 : Int} {x2 : Int} {x3 : Int} {x4 : Int} (hS : zStr T)  : ev 82 28 [(2, 0), (0, x1), (0, x2), (0, x3), (0, x4)] [] T V = if x4 = (V 1 0) then ev 82 52 [(2, 0), (0, x1), (0, x2), (0, x3), (0, x4)] [] T V else ev 82 40 [(2, 0), (0, x1), (0, x2), (0, x3), (0, x4)] [] T V := by
  refine Eq.trans (ev_ldi (show zcode 82 28 = some (4, 30, 4, 0, []) by decide +kernel) rfl) ?_
  refine Eq.trans (ev_lda (show zcode 82 30 = some (6, 31, 0, 0, []) by decide +kernel) rfl (by decide)) ?_
  refine Eq.trans (ev_gq (show zcode 82 31 = some (56, 34, 11, 0, []) by decide +kernel) (so0 hS) (sp0_0 hS)) ?_
  refine Eq.trans (ev_gi (show zcode 82 34 = some (55, 37, 6, 0, []) by decide +kernel) (so1 hS)) ?_
  exact ev_ceq (show zcode 82 37 = some (46, 40, 52, 0, []) by decide +kernel)
theorem b82_40 {T : zT} {V : zM} {x1 : Int} {x2 : Int} {x3 : Int} {x4 : Int} (hS : zStr T)  : ev 82 40 [(2, 0), (0, x1), (0, x2), (0, x3), (0, x4)] [] T V = (zcall 81 [(2, 0), (0, x1), (0, x4)] T V).bind fun x => ev 82 47 [(2, 0), (0, x1), (0, x2), (0, x3), (0, x4)] (z_push x.1 []) x.2.1 x.2.2 := by
  refine Eq.trans (ev_lda (show zcode 82 40 = some (6, 41, 0, 0, []) by decide +kernel) rfl (by decide)) ?_
  refine Eq.trans (ev_ldi (show zcode 82 41 = some (4, 42, 1, 0, []) by decide +kernel) rfl) ?_
  refine Eq.trans (ev_ldi (show zcode 82 42 = some (4, 44, 4, 0, []) by decide +kernel) rfl) ?_
  exact ev_cvirt (show zcode 82 44 = some (76, 47, 81, 3, [11]) by decide +kernel) (args := [(0, x1), (0, x4)]) (rest := []) rfl (so0 hS) rfl (show 0 ≤ 8 by decide) ⟨by decide, show 3 ≤ 4 by decide⟩
theorem b82_47 {T : zT} {V : zM} {x1 : Int} {x2 : Int} {x3 : Int} {x4 : Int} {y0 : Int} : ev 82 47 [(2, 0), (0, x1), (0, x2), (0, x3), (0, x4)] [(0, y0)] T V = if y0 = 26 then ev 82 52 [(2, 0), (0, x1), (0, x2), (0, x3), (0, x4)] [] T V else ev 82 73 [(2, 0), (0, x1), (0, x2), (0, x3), (0, x4)] [] T V := by
  refine Eq.trans (ev_ci (show zcode 82 47 = some (0, 49, 0, 26, []) by decide +kernel) (by decide)) ?_
  exact ev_cne (show zcode 82 49 = some (47, 52, 73, 0, []) by decide +kernel)
theorem b82_52 {T : zT} {V : zM} {x1 : Int} {x2 : Int} {x3 : Int} {x4 : Int} (hS : zStr T)  : ev 82 52 [(2, 0), (0, x1), (0, x2), (0, x3), (0, x4)] [] T V = (zcall 83 [(2, 0), (0, x1), (0, x3), (0, x4)] T V).bind fun x => ev 82 60 [(2, 0), (0, x1), (0, x2), (0, x3), (0, x4)] (z_push x.1 []) x.2.1 x.2.2 := by
  refine Eq.trans (ev_lda (show zcode 82 52 = some (6, 53, 0, 0, []) by decide +kernel) rfl (by decide)) ?_
  refine Eq.trans (ev_ldi (show zcode 82 53 = some (4, 54, 1, 0, []) by decide +kernel) rfl) ?_
  refine Eq.trans (ev_ldi (show zcode 82 54 = some (4, 55, 3, 0, []) by decide +kernel) rfl) ?_
  refine Eq.trans (ev_ldi (show zcode 82 55 = some (4, 57, 4, 0, []) by decide +kernel) rfl) ?_
  exact ev_cvirt (show zcode 82 57 = some (76, 60, 83, 4, [11]) by decide +kernel) (args := [(0, x1), (0, x3), (0, x4)]) (rest := []) rfl (so0 hS) rfl (show 0 ≤ 8 by decide) ⟨by decide, show 4 ≤ 6 by decide⟩
theorem b82_60 {T : zT} {V : zM} {x1 : Int} {x2 : Int} {x3 : Int} {x4 : Int} {y0 : Int} : ev 82 60 [(2, 0), (0, x1), (0, x2), (0, x3), (0, x4)] [(0, y0)] T V = if y0 = 0 then ev 82 63 [(2, 0), (0, x1), (0, x2), (0, x3), (0, x4)] [] T V else ev 82 65 [(2, 0), (0, x1), (0, x2), (0, x3), (0, x4)] [] T V := by
  exact ev_ne (show zcode 82 60 = some (41, 63, 65, 0, []) by decide +kernel)
theorem b82_63 {T : zT} {V : zM} {x1 : Int} {x2 : Int} {x3 : Int} {x4 : Int} : ev 82 63 [(2, 0), (0, x1), (0, x2), (0, x3), (0, x4)] [] T V = some ((0, 0), T, V) := by
  refine Eq.trans (ev_ci (show zcode 82 63 = some (0, 64, 0, 0, []) by decide +kernel) (by decide)) ?_
  exact ev_ri (show zcode 82 64 = some (72, 65, 0, 0, []) by decide +kernel)
theorem b82_65 {T : zT} {V : zM} {x1 : Int} {x2 : Int} {x3 : Int} {x4 : Int} (h1 : -2147483648 ≤ (x2 + 1) ∧ (x2 + 1) ≤ 2147483647) (h2 : -2147483648 ≤ (x4 + 1) ∧ (x4 + 1) ≤ 2147483647) : ev 82 65 [(2, 0), (0, x1), (0, x2), (0, x3), (0, x4)] [] T V = ev 82 73 [(2, 0), (0, x1), (0, (x2 + 1)), (0, (x4 + 1)), (0, x4)] [] T V := by
  refine Eq.trans (ev_inc (show zcode 82 65 = some (10, 68, 2, 1, []) by decide +kernel) rfl h1 (Or.inr (show ¬ (0 : Nat) = 1 by decide))) ?_
  refine Eq.trans (ev_ldi (show zcode 82 68 = some (4, 70, 4, 0, []) by decide +kernel) rfl) ?_
  refine Eq.trans (ev_ci (show zcode 82 70 = some (0, 71, 0, 1, []) by decide +kernel) (by decide)) ?_
  refine Eq.trans (ev_add (show zcode 82 71 = some (11, 72, 0, 0, []) by decide +kernel) h2) ?_
  exact ev_sti (show zcode 82 72 = some (7, 73, 3, 0, []) by decide +kernel) ⟨show 3 < 5 by decide, Or.inr (show ¬ (0 : Nat) = 1 by decide)⟩
theorem b82_73 {T : zT} {V : zM} {x1 : Int} {x2 : Int} {x3 : Int} {x4 : Int} (h1 : -2147483648 ≤ (x4 + 1) ∧ (x4 + 1) ≤ 2147483647) : ev 82 73 [(2, 0), (0, x1), (0, x2), (0, x3), (0, x4)] [] T V = ev 82 16 [(2, 0), (0, x1), (0, x2), (0, x3), (0, (x4 + 1))] [] T V := by
  refine Eq.trans (ev_inc (show zcode 82 73 = some (10, 76, 4, 1, []) by decide +kernel) rfl h1 (Or.inr (show ¬ (0 : Nat) = 1 by decide))) ?_
  exact ev_goto (show zcode 82 76 = some (53, 79, 16, 0, []) by decide +kernel)
theorem b82_79 {T : zT} {V : zM} {x1 : Int} {x2 : Int} {x3 : Int} {x4 : Int} : ev 82 79 [(2, 0), (0, x1), (0, x2), (0, x3), (0, x4)] [] T V = some ((0, x2), T, V) := by
  refine Eq.trans (ev_ldi (show zcode 82 79 = some (4, 80, 2, 0, []) by decide +kernel) rfl) ?_
  exact ev_ri (show zcode 82 80 = some (72, 81, 0, 0, []) by decide +kernel)
/-! 83: TwoWayWall.isWord(III)Z -/
theorem e83 {T : zT} {V : zM} {x1 : Int} {x2 : Int} {x3 : Int} : zcall 83 [(2, 0), (0, x1), (0, x2), (0, x3)] T V = ev 83 0 [(2, 0), (0, x1), (0, x2), (0, x3), (9, 0), (9, 0)] [] T V := rfl
theorem b83_0 {T : zT} {V : zM} {x1 : Int} {x2 : Int} {x3 : Int} (hS : zStr T)  : ev 83 0 [(2, 0), (0, x1), (0, x2), (0, x3), (9, 0), (9, 0)] [] T V = (zcall 74 [(2, 1), (0, x1)] T V).bind fun x => ev 83 8 [(2, 0), (0, x1), (0, x2), (0, x3), (9, 0), (9, 0)] (z_push x.1 []) x.2.1 x.2.2 := by
  refine Eq.trans (ev_lda (show zcode 83 0 = some (6, 1, 0, 0, []) by decide +kernel) rfl (by decide)) ?_
  refine Eq.trans (ev_gq (show zcode 83 1 = some (56, 4, 11, 0, []) by decide +kernel) (so0 hS) (sp0_0 hS)) ?_
  refine Eq.trans (ev_ldi (show zcode 83 4 = some (4, 5, 1, 0, []) by decide +kernel) rfl) ?_
  exact ev_cvirt (show zcode 83 5 = some (76, 8, 74, 2, [6]) by decide +kernel) (args := [(0, x1)]) (rest := []) rfl (so1 hS) rfl (show 0 ≤ 8 by decide) ⟨by decide, show 2 ≤ 2 by decide⟩
theorem b83_8 {T : zT} {V : zM} {x1 : Int} {x2 : Int} {x3 : Int} {p0 : Int} : ev 83 8 [(2, 0), (0, x1), (0, x2), (0, x3), (9, 0), (9, 0)] [(2, p0)] T V = ev 83 13 [(2, 0), (0, x1), (0, x2), (0, x3), (2, p0), (0, 0)] [] T V := by
  refine Eq.trans (ev_sta (show zcode 83 8 = some (9, 10, 4, 0, []) by decide +kernel) ⟨show 4 < 6 by decide, Or.inr (show ¬ (0 : Nat) = 1 by decide)⟩) ?_
  refine Eq.trans (ev_ci (show zcode 83 10 = some (0, 11, 0, 0, []) by decide +kernel) (by decide)) ?_
  exact ev_sti (show zcode 83 11 = some (7, 13, 5, 0, []) by decide +kernel) ⟨show 5 < 6 by decide, Or.inr (show ¬ (2 : Nat) = 1 by decide)⟩
theorem b83_13 {T : zT} {V : zM} {x1 : Int} {x2 : Int} {x3 : Int} {q4 : Int} {x5 : Int} (h1 : zTongue T q4) : ev 83 13 [(2, 0), (0, x1), (0, x2), (0, x3), (2, q4), (0, x5)] [] T V = if (V q4 5) ≤ x5 then ev 83 56 [(2, 0), (0, x1), (0, x2), (0, x3), (2, q4), (0, x5)] [] T V else ev 83 23 [(2, 0), (0, x1), (0, x2), (0, x3), (2, q4), (0, x5)] [] T V := by
  refine Eq.trans (ev_ldi (show zcode 83 13 = some (4, 15, 5, 0, []) by decide +kernel) rfl) ?_
  refine Eq.trans (ev_lda (show zcode 83 15 = some (6, 17, 4, 0, []) by decide +kernel) rfl (by decide)) ?_
  refine Eq.trans (ev_gi (show zcode 83 17 = some (55, 20, 9, 5, []) by decide +kernel) h1.o) ?_
  exact ev_cge (show zcode 83 20 = some (49, 23, 56, 0, []) by decide +kernel)
theorem b83_23 {T : zT} {V : zM} {x1 : Int} {x2 : Int} {x3 : Int} {q4 : Int} {x5 : Int} (h1 : zTongue T q4) (h2 : (0 : Int) ≤ x5 ∧ x5 < 8) (h3 : -2147483648 ≤ (x3 - x2) ∧ (x3 - x2) ≤ 2147483647) : ev 83 23 [(2, 0), (0, x1), (0, x2), (0, x3), (2, q4), (0, x5)] [] T V = if (V (q4 + 4) x5) = (x3 - x2) then ev 83 37 [(2, 0), (0, x1), (0, x2), (0, x3), (2, q4), (0, x5)] [] T V else ev 83 50 [(2, 0), (0, x1), (0, x2), (0, x3), (2, q4), (0, x5)] [] T V := by
  refine Eq.trans (ev_lda (show zcode 83 23 = some (6, 25, 4, 0, []) by decide +kernel) rfl (by decide)) ?_
  refine Eq.trans (ev_gq (show zcode 83 25 = some (56, 28, 9, 3, []) by decide +kernel) h1.o h1.p3) ?_
  refine Eq.trans (ev_ldi (show zcode 83 28 = some (4, 30, 5, 0, []) by decide +kernel) rfl) ?_
  refine Eq.trans (ev_ia (show zcode 83 30 = some (60, 31, 0, 0, []) by decide +kernel) h1.a4 h2) ?_
  refine Eq.trans (ev_ldi (show zcode 83 31 = some (4, 32, 3, 0, []) by decide +kernel) rfl) ?_
  refine Eq.trans (ev_ldi (show zcode 83 32 = some (4, 33, 2, 0, []) by decide +kernel) rfl) ?_
  refine Eq.trans (ev_sub (show zcode 83 33 = some (12, 34, 0, 0, []) by decide +kernel) h3) ?_
  exact ev_cne (show zcode 83 34 = some (47, 37, 50, 0, []) by decide +kernel)
theorem b83_37 {T : zT} {V : zM} {x1 : Int} {x2 : Int} {x3 : Int} {q4 : Int} {x5 : Int} (hS : zStr T)  : ev 83 37 [(2, 0), (0, x1), (0, x2), (0, x3), (2, q4), (0, x5)] [] T V = (zcall 84 [(2, 0), (0, x1), (0, x5), (0, x2)] T V).bind fun x => ev 83 45 [(2, 0), (0, x1), (0, x2), (0, x3), (2, q4), (0, x5)] (z_push x.1 []) x.2.1 x.2.2 := by
  refine Eq.trans (ev_lda (show zcode 83 37 = some (6, 38, 0, 0, []) by decide +kernel) rfl (by decide)) ?_
  refine Eq.trans (ev_ldi (show zcode 83 38 = some (4, 39, 1, 0, []) by decide +kernel) rfl) ?_
  refine Eq.trans (ev_ldi (show zcode 83 39 = some (4, 41, 5, 0, []) by decide +kernel) rfl) ?_
  refine Eq.trans (ev_ldi (show zcode 83 41 = some (4, 42, 2, 0, []) by decide +kernel) rfl) ?_
  exact ev_cvirt (show zcode 83 42 = some (76, 45, 84, 4, [11]) by decide +kernel) (args := [(0, x1), (0, x5), (0, x2)]) (rest := []) rfl (so0 hS) rfl (show 0 ≤ 8 by decide) ⟨by decide, show 4 ≤ 6 by decide⟩
theorem b83_45 {T : zT} {V : zM} {x1 : Int} {x2 : Int} {x3 : Int} {q4 : Int} {x5 : Int} {y0 : Int} : ev 83 45 [(2, 0), (0, x1), (0, x2), (0, x3), (2, q4), (0, x5)] [(0, y0)] T V = if y0 = 0 then ev 83 50 [(2, 0), (0, x1), (0, x2), (0, x3), (2, q4), (0, x5)] [] T V else ev 83 48 [(2, 0), (0, x1), (0, x2), (0, x3), (2, q4), (0, x5)] [] T V := by
  exact ev_eq (show zcode 83 45 = some (40, 48, 50, 0, []) by decide +kernel)
theorem b83_48 {T : zT} {V : zM} {x1 : Int} {x2 : Int} {x3 : Int} {q4 : Int} {x5 : Int} : ev 83 48 [(2, 0), (0, x1), (0, x2), (0, x3), (2, q4), (0, x5)] [] T V = some ((0, 1), T, V) := by
  refine Eq.trans (ev_ci (show zcode 83 48 = some (0, 49, 0, 1, []) by decide +kernel) (by decide)) ?_
  exact ev_rz (show zcode 83 49 = some (72, 50, 3, 0, []) by decide +kernel) (by decide)
theorem b83_50 {T : zT} {V : zM} {x1 : Int} {x2 : Int} {x3 : Int} {q4 : Int} {x5 : Int} (h1 : -2147483648 ≤ (x5 + 1) ∧ (x5 + 1) ≤ 2147483647) : ev 83 50 [(2, 0), (0, x1), (0, x2), (0, x3), (2, q4), (0, x5)] [] T V = ev 83 13 [(2, 0), (0, x1), (0, x2), (0, x3), (2, q4), (0, (x5 + 1))] [] T V := by
  refine Eq.trans (ev_inc (show zcode 83 50 = some (10, 53, 5, 1, []) by decide +kernel) rfl h1 (Or.inr (show ¬ (2 : Nat) = 1 by decide))) ?_
  exact ev_goto (show zcode 83 53 = some (53, 56, 13, 0, []) by decide +kernel)
theorem b83_56 {T : zT} {V : zM} {x1 : Int} {x2 : Int} {x3 : Int} {q4 : Int} {x5 : Int} : ev 83 56 [(2, 0), (0, x1), (0, x2), (0, x3), (2, q4), (0, x5)] [] T V = some ((0, 0), T, V) := by
  refine Eq.trans (ev_ci (show zcode 83 56 = some (0, 57, 0, 0, []) by decide +kernel) (by decide)) ?_
  exact ev_rz (show zcode 83 57 = some (72, 58, 3, 0, []) by decide +kernel) (by decide)
/-! 84: TwoWayWall.isWordAt(III)Z -/
theorem e84 {T : zT} {V : zM} {x1 : Int} {x2 : Int} {x3 : Int} : zcall 84 [(2, 0), (0, x1), (0, x2), (0, x3)] T V = ev 84 0 [(2, 0), (0, x1), (0, x2), (0, x3), (9, 0), (9, 0)] [] T V := rfl
theorem b84_0 {T : zT} {V : zM} {x1 : Int} {x2 : Int} {x3 : Int} (hS : zStr T)  : ev 84 0 [(2, 0), (0, x1), (0, x2), (0, x3), (9, 0), (9, 0)] [] T V = (zcall 74 [(2, 1), (0, x1)] T V).bind fun x => ev 84 8 [(2, 0), (0, x1), (0, x2), (0, x3), (9, 0), (9, 0)] (z_push x.1 []) x.2.1 x.2.2 := by
  refine Eq.trans (ev_lda (show zcode 84 0 = some (6, 1, 0, 0, []) by decide +kernel) rfl (by decide)) ?_
  refine Eq.trans (ev_gq (show zcode 84 1 = some (56, 4, 11, 0, []) by decide +kernel) (so0 hS) (sp0_0 hS)) ?_
  refine Eq.trans (ev_ldi (show zcode 84 4 = some (4, 5, 1, 0, []) by decide +kernel) rfl) ?_
  exact ev_cvirt (show zcode 84 5 = some (76, 8, 74, 2, [6]) by decide +kernel) (args := [(0, x1)]) (rest := []) rfl (so1 hS) rfl (show 0 ≤ 8 by decide) ⟨by decide, show 2 ≤ 2 by decide⟩
theorem b84_8 {T : zT} {V : zM} {x1 : Int} {x2 : Int} {x3 : Int} {p0 : Int} : ev 84 8 [(2, 0), (0, x1), (0, x2), (0, x3), (9, 0), (9, 0)] [(2, p0)] T V = ev 84 13 [(2, 0), (0, x1), (0, x2), (0, x3), (2, p0), (0, 0)] [] T V := by
  refine Eq.trans (ev_sta (show zcode 84 8 = some (9, 10, 4, 0, []) by decide +kernel) ⟨show 4 < 6 by decide, Or.inr (show ¬ (0 : Nat) = 1 by decide)⟩) ?_
  refine Eq.trans (ev_ci (show zcode 84 10 = some (0, 11, 0, 0, []) by decide +kernel) (by decide)) ?_
  exact ev_sti (show zcode 84 11 = some (7, 13, 5, 0, []) by decide +kernel) ⟨show 5 < 6 by decide, Or.inr (show ¬ (2 : Nat) = 1 by decide)⟩
theorem b84_13 {T : zT} {V : zM} {x1 : Int} {x2 : Int} {x3 : Int} {q4 : Int} {x5 : Int} (h1 : zTongue T q4) (h2 : (0 : Int) ≤ x2 ∧ x2 < 8) : ev 84 13 [(2, 0), (0, x1), (0, x2), (0, x3), (2, q4), (0, x5)] [] T V = if (V (q4 + 4) x2) ≤ x5 then ev 84 53 [(2, 0), (0, x1), (0, x2), (0, x3), (2, q4), (0, x5)] [] T V else ev 84 25 [(2, 0), (0, x1), (0, x2), (0, x3), (2, q4), (0, x5)] [] T V := by
  refine Eq.trans (ev_ldi (show zcode 84 13 = some (4, 15, 5, 0, []) by decide +kernel) rfl) ?_
  refine Eq.trans (ev_lda (show zcode 84 15 = some (6, 17, 4, 0, []) by decide +kernel) rfl (by decide)) ?_
  refine Eq.trans (ev_gq (show zcode 84 17 = some (56, 20, 9, 3, []) by decide +kernel) h1.o h1.p3) ?_
  refine Eq.trans (ev_ldi (show zcode 84 20 = some (4, 21, 2, 0, []) by decide +kernel) rfl) ?_
  refine Eq.trans (ev_ia (show zcode 84 21 = some (60, 22, 0, 0, []) by decide +kernel) h1.a4 h2) ?_
  exact ev_cge (show zcode 84 22 = some (49, 25, 53, 0, []) by decide +kernel)
theorem b84_25 {T : zT} {V : zM} {x1 : Int} {x2 : Int} {x3 : Int} {q4 : Int} {x5 : Int} (hS : zStr T) (h1 : -2147483648 ≤ (x3 + x5) ∧ (x3 + x5) ≤ 2147483647) : ev 84 25 [(2, 0), (0, x1), (0, x2), (0, x3), (2, q4), (0, x5)] [] T V = (zcall 81 [(2, 0), (0, x1), (0, (x3 + x5))] T V).bind fun x => ev 84 34 [(2, 0), (0, x1), (0, x2), (0, x3), (2, q4), (0, x5)] (z_push x.1 []) x.2.1 x.2.2 := by
  refine Eq.trans (ev_lda (show zcode 84 25 = some (6, 26, 0, 0, []) by decide +kernel) rfl (by decide)) ?_
  refine Eq.trans (ev_ldi (show zcode 84 26 = some (4, 27, 1, 0, []) by decide +kernel) rfl) ?_
  refine Eq.trans (ev_ldi (show zcode 84 27 = some (4, 28, 3, 0, []) by decide +kernel) rfl) ?_
  refine Eq.trans (ev_ldi (show zcode 84 28 = some (4, 30, 5, 0, []) by decide +kernel) rfl) ?_
  refine Eq.trans (ev_add (show zcode 84 30 = some (11, 31, 0, 0, []) by decide +kernel) h1) ?_
  exact ev_cvirt (show zcode 84 31 = some (76, 34, 81, 3, [11]) by decide +kernel) (args := [(0, x1), (0, (x3 + x5))]) (rest := []) rfl (so0 hS) rfl (show 0 ≤ 8 by decide) ⟨by decide, show 3 ≤ 4 by decide⟩
theorem b84_34 {T : zT} {V : zM} {x1 : Int} {x2 : Int} {x3 : Int} {q4 : Int} {x5 : Int} {y0 : Int} (h1 : zTongue T q4) : ev 84 34 [(2, 0), (0, x1), (0, x2), (0, x3), (2, q4), (0, x5)] [(0, y0)] T V = (zcall 76 [(2, q4), (0, x2), (0, x5)] T V).bind fun x => ev 84 42 [(2, 0), (0, x1), (0, x2), (0, x3), (2, q4), (0, x5)] (z_push x.1 [(0, y0)]) x.2.1 x.2.2 := by
  refine Eq.trans (ev_lda (show zcode 84 34 = some (6, 36, 4, 0, []) by decide +kernel) rfl (by decide)) ?_
  refine Eq.trans (ev_ldi (show zcode 84 36 = some (4, 37, 2, 0, []) by decide +kernel) rfl) ?_
  refine Eq.trans (ev_ldi (show zcode 84 37 = some (4, 39, 5, 0, []) by decide +kernel) rfl) ?_
  exact ev_cvirt (show zcode 84 39 = some (76, 42, 76, 3, [9]) by decide +kernel) (args := [(0, x2), (0, x5)]) (rest := [(0, y0)]) rfl h1.o rfl (show 1 ≤ 8 by decide) ⟨by decide, show 3 ≤ 3 by decide⟩
theorem b84_42 {T : zT} {V : zM} {x1 : Int} {x2 : Int} {x3 : Int} {q4 : Int} {x5 : Int} {y0 : Int} {y1 : Int} : ev 84 42 [(2, 0), (0, x1), (0, x2), (0, x3), (2, q4), (0, x5)] [(0, y1), (0, y0)] T V = if y0 = y1 then ev 84 47 [(2, 0), (0, x1), (0, x2), (0, x3), (2, q4), (0, x5)] [] T V else ev 84 45 [(2, 0), (0, x1), (0, x2), (0, x3), (2, q4), (0, x5)] [] T V := by
  exact ev_ceq (show zcode 84 42 = some (46, 45, 47, 0, []) by decide +kernel)
theorem b84_45 {T : zT} {V : zM} {x1 : Int} {x2 : Int} {x3 : Int} {q4 : Int} {x5 : Int} : ev 84 45 [(2, 0), (0, x1), (0, x2), (0, x3), (2, q4), (0, x5)] [] T V = some ((0, 0), T, V) := by
  refine Eq.trans (ev_ci (show zcode 84 45 = some (0, 46, 0, 0, []) by decide +kernel) (by decide)) ?_
  exact ev_rz (show zcode 84 46 = some (72, 47, 3, 0, []) by decide +kernel) (by decide)
theorem b84_47 {T : zT} {V : zM} {x1 : Int} {x2 : Int} {x3 : Int} {q4 : Int} {x5 : Int} (h1 : -2147483648 ≤ (x5 + 1) ∧ (x5 + 1) ≤ 2147483647) : ev 84 47 [(2, 0), (0, x1), (0, x2), (0, x3), (2, q4), (0, x5)] [] T V = ev 84 13 [(2, 0), (0, x1), (0, x2), (0, x3), (2, q4), (0, (x5 + 1))] [] T V := by
  refine Eq.trans (ev_inc (show zcode 84 47 = some (10, 50, 5, 1, []) by decide +kernel) rfl h1 (Or.inr (show ¬ (2 : Nat) = 1 by decide))) ?_
  exact ev_goto (show zcode 84 50 = some (53, 53, 13, 0, []) by decide +kernel)
theorem b84_53 {T : zT} {V : zM} {x1 : Int} {x2 : Int} {x3 : Int} {q4 : Int} {x5 : Int} : ev 84 53 [(2, 0), (0, x1), (0, x2), (0, x3), (2, q4), (0, x5)] [] T V = some ((0, 1), T, V) := by
  refine Eq.trans (ev_ci (show zcode 84 53 = some (0, 54, 0, 1, []) by decide +kernel) (by decide)) ?_
  exact ev_rz (show zcode 84 54 = some (72, 55, 3, 0, []) by decide +kernel) (by decide)
/-! 85: TwoWayWall.pair(III)I -/
theorem e85 {T : zT} {V : zM} {x1 : Int} {x2 : Int} {x3 : Int} : zcall 85 [(2, 0), (0, x1), (0, x2), (0, x3)] T V = ev 85 0 [(2, 0), (0, x1), (0, x2), (0, x3), (9, 0)] [] T V := rfl
theorem b85_0 {T : zT} {V : zM} {x1 : Int} {x2 : Int} {x3 : Int} : ev 85 0 [(2, 0), (0, x1), (0, x2), (0, x3), (9, 0)] [] T V = (zcall 86 [(0, x1)] T V).bind fun x => ev 85 4 [(2, 0), (0, x1), (0, x2), (0, x3), (9, 0)] (z_push x.1 []) x.2.1 x.2.2 := by
  refine Eq.trans (ev_ldi (show zcode 85 0 = some (4, 1, 1, 0, []) by decide +kernel) rfl) ?_
  exact ev_cstat (show zcode 85 1 = some (74, 4, 86, 1, []) by decide +kernel) (args := [(0, x1)]) (rest := []) rfl rfl (show 0 ≤ 8 by decide) ⟨by decide, show 1 ≤ 1 by decide⟩
theorem b85_4 {T : zT} {V : zM} {x1 : Int} {x2 : Int} {x3 : Int} {y0 : Int} : ev 85 4 [(2, 0), (0, x1), (0, x2), (0, x3), (9, 0)] [(0, y0)] T V = if y0 = 0 then ev 85 14 [(2, 0), (0, x1), (0, x2), (0, x3), (9, 0)] [] T V else ev 85 7 [(2, 0), (0, x1), (0, x2), (0, x3), (9, 0)] [] T V := by
  exact ev_eq (show zcode 85 4 = some (40, 7, 14, 0, []) by decide +kernel)
theorem b85_7 {T : zT} {V : zM} {x1 : Int} {x2 : Int} {x3 : Int} : ev 85 7 [(2, 0), (0, x1), (0, x2), (0, x3), (9, 0)] [] T V = (zcall 86 [(0, x2)] T V).bind fun x => ev 85 11 [(2, 0), (0, x1), (0, x2), (0, x3), (9, 0)] (z_push x.1 []) x.2.1 x.2.2 := by
  refine Eq.trans (ev_ldi (show zcode 85 7 = some (4, 8, 2, 0, []) by decide +kernel) rfl) ?_
  exact ev_cstat (show zcode 85 8 = some (74, 11, 86, 1, []) by decide +kernel) (args := [(0, x2)]) (rest := []) rfl rfl (show 0 ≤ 8 by decide) ⟨by decide, show 1 ≤ 1 by decide⟩
theorem b85_11 {T : zT} {V : zM} {x1 : Int} {x2 : Int} {x3 : Int} {y0 : Int} : ev 85 11 [(2, 0), (0, x1), (0, x2), (0, x3), (9, 0)] [(0, y0)] T V = if y0 = 0 then ev 85 14 [(2, 0), (0, x1), (0, x2), (0, x3), (9, 0)] [] T V else ev 85 16 [(2, 0), (0, x1), (0, x2), (0, x3), (9, 0)] [] T V := by
  exact ev_ne (show zcode 85 11 = some (41, 14, 16, 0, []) by decide +kernel)
theorem b85_14 {T : zT} {V : zM} {x1 : Int} {x2 : Int} {x3 : Int} : ev 85 14 [(2, 0), (0, x1), (0, x2), (0, x3), (9, 0)] [] T V = some ((0, (-1)), T, V) := by
  refine Eq.trans (ev_ci (show zcode 85 14 = some (0, 15, 0, (-1), []) by decide +kernel) (by decide)) ?_
  exact ev_ri (show zcode 85 15 = some (72, 16, 0, 0, []) by decide +kernel)
theorem b85_16 {T : zT} {V : zM} {x1 : Int} {x2 : Int} {x3 : Int} : ev 85 16 [(2, 0), (0, x1), (0, x2), (0, x3), (9, 0)] [] T V = (zcall 87 [(0, x1)] T V).bind fun x => ev 85 20 [(2, 0), (0, x1), (0, x2), (0, x3), (9, 0)] (z_push x.1 []) x.2.1 x.2.2 := by
  refine Eq.trans (ev_ldi (show zcode 85 16 = some (4, 17, 1, 0, []) by decide +kernel) rfl) ?_
  exact ev_cstat (show zcode 85 17 = some (74, 20, 87, 1, []) by decide +kernel) (args := [(0, x1)]) (rest := []) rfl rfl (show 0 ≤ 8 by decide) ⟨by decide, show 1 ≤ 1 by decide⟩
theorem b85_20 {T : zT} {V : zM} {x1 : Int} {x2 : Int} {x3 : Int} {y0 : Int} : ev 85 20 [(2, 0), (0, x1), (0, x2), (0, x3), (9, 0)] [(0, y0)] T V = (zcall 87 [(0, x2)] T V).bind fun x => ev 85 24 [(2, 0), (0, x1), (0, x2), (0, x3), (9, 0)] (z_push x.1 [(0, y0)]) x.2.1 x.2.2 := by
  refine Eq.trans (ev_ldi (show zcode 85 20 = some (4, 21, 2, 0, []) by decide +kernel) rfl) ?_
  exact ev_cstat (show zcode 85 21 = some (74, 24, 87, 1, []) by decide +kernel) (args := [(0, x2)]) (rest := [(0, y0)]) rfl rfl (show 1 ≤ 8 by decide) ⟨by decide, show 1 ≤ 1 by decide⟩
theorem b85_24 {T : zT} {V : zM} {x1 : Int} {x2 : Int} {x3 : Int} {y0 : Int} {y1 : Int} : ev 85 24 [(2, 0), (0, x1), (0, x2), (0, x3), (9, 0)] [(0, y1), (0, y0)] T V = (zcall 22 [(0, y0), (0, y1)] T V).bind fun x => ev 85 27 [(2, 0), (0, x1), (0, x2), (0, x3), (9, 0)] (z_push x.1 []) x.2.1 x.2.2 := by
  exact ev_cstat (show zcode 85 24 = some (74, 27, 22, 2, []) by decide +kernel) (args := [(0, y0), (0, y1)]) (rest := []) rfl rfl (show 0 ≤ 8 by decide) ⟨by decide, show 2 ≤ 2 by decide⟩
theorem b85_27 {T : zT} {V : zM} {x1 : Int} {x2 : Int} {x3 : Int} {y0 : Int} : ev 85 27 [(2, 0), (0, x1), (0, x2), (0, x3), (9, 0)] [(0, y0)] T V = if x3 = 0 then ev 85 33 [(2, 0), (0, x1), (0, x2), (0, x3), (0, y0)] [] T V else ev 85 44 [(2, 0), (0, x1), (0, x2), (0, x3), (0, y0)] [] T V := by
  refine Eq.trans (ev_sti (show zcode 85 27 = some (7, 29, 4, 0, []) by decide +kernel) ⟨show 4 < 5 by decide, Or.inr (show ¬ (0 : Nat) = 1 by decide)⟩) ?_
  refine Eq.trans (ev_ldi (show zcode 85 29 = some (4, 30, 3, 0, []) by decide +kernel) rfl) ?_
  exact ev_ne (show zcode 85 30 = some (41, 33, 44, 0, []) by decide +kernel)
theorem b85_33 {T : zT} {V : zM} {x1 : Int} {x2 : Int} {x3 : Int} {x4 : Int} (hS : zStr T) (h1 : (0 : Int) ≤ x4 ∧ x4 < 729) : ev 85 33 [(2, 0), (0, x1), (0, x2), (0, x3), (0, x4)] [] T V = some ((0, (V 66 x4)), T, V) := by
  refine Eq.trans (ev_lda (show zcode 85 33 = some (6, 34, 0, 0, []) by decide +kernel) rfl (by decide)) ?_
  refine Eq.trans (ev_gq (show zcode 85 34 = some (56, 37, 11, 6, []) by decide +kernel) (so0 hS) (sp0_6 hS)) ?_
  refine Eq.trans (ev_gq (show zcode 85 37 = some (56, 40, 3, 0, []) by decide +kernel) (so65 hS) (sp65_0 hS)) ?_
  refine Eq.trans (ev_ldi (show zcode 85 40 = some (4, 42, 4, 0, []) by decide +kernel) rfl) ?_
  refine Eq.trans (ev_ia (show zcode 85 42 = some (60, 43, 0, 0, []) by decide +kernel) (sa66 hS) h1) ?_
  exact ev_ri (show zcode 85 43 = some (72, 44, 0, 0, []) by decide +kernel)
theorem b85_44 {T : zT} {V : zM} {x1 : Int} {x2 : Int} {x3 : Int} {x4 : Int} : ev 85 44 [(2, 0), (0, x1), (0, x2), (0, x3), (0, x4)] [] T V = if x3 = 1 then ev 85 49 [(2, 0), (0, x1), (0, x2), (0, x3), (0, x4)] [] T V else ev 85 75 [(2, 0), (0, x1), (0, x2), (0, x3), (0, x4)] [] T V := by
  refine Eq.trans (ev_ldi (show zcode 85 44 = some (4, 45, 3, 0, []) by decide +kernel) rfl) ?_
  refine Eq.trans (ev_ci (show zcode 85 45 = some (0, 46, 0, 1, []) by decide +kernel) (by decide)) ?_
  exact ev_cne (show zcode 85 46 = some (47, 49, 75, 0, []) by decide +kernel)
theorem b85_49 {T : zT} {V : zM} {x1 : Int} {x2 : Int} {x3 : Int} {x4 : Int} (hS : zStr T) (h1 : (0 : Int) ≤ x4 ∧ x4 < 729) : ev 85 49 [(2, 0), (0, x1), (0, x2), (0, x3), (0, x4)] [] T V = if (V 66 x4) ≤ 0 then ev 85 75 [(2, 0), (0, x1), (0, x2), (0, x3), (0, x4)] [] T V else ev 85 62 [(2, 0), (0, x1), (0, x2), (0, x3), (0, x4)] [] T V := by
  refine Eq.trans (ev_lda (show zcode 85 49 = some (6, 50, 0, 0, []) by decide +kernel) rfl (by decide)) ?_
  refine Eq.trans (ev_gq (show zcode 85 50 = some (56, 53, 11, 6, []) by decide +kernel) (so0 hS) (sp0_6 hS)) ?_
  refine Eq.trans (ev_gq (show zcode 85 53 = some (56, 56, 3, 0, []) by decide +kernel) (so65 hS) (sp65_0 hS)) ?_
  refine Eq.trans (ev_ldi (show zcode 85 56 = some (4, 58, 4, 0, []) by decide +kernel) rfl) ?_
  refine Eq.trans (ev_ia (show zcode 85 58 = some (60, 59, 0, 0, []) by decide +kernel) (sa66 hS) h1) ?_
  exact ev_le (show zcode 85 59 = some (45, 62, 75, 0, []) by decide +kernel)
theorem b85_62 {T : zT} {V : zM} {x1 : Int} {x2 : Int} {x3 : Int} {x4 : Int} (hS : zStr T) (h1 : (0 : Int) ≤ x4 ∧ x4 < 729) : ev 85 62 [(2, 0), (0, x1), (0, x2), (0, x3), (0, x4)] [] T V = ev 85 76 [(2, 0), (0, x1), (0, x2), (0, x3), (0, x4)] [(0, (V 67 x4))] T V := by
  refine Eq.trans (ev_lda (show zcode 85 62 = some (6, 63, 0, 0, []) by decide +kernel) rfl (by decide)) ?_
  refine Eq.trans (ev_gq (show zcode 85 63 = some (56, 66, 11, 6, []) by decide +kernel) (so0 hS) (sp0_6 hS)) ?_
  refine Eq.trans (ev_gq (show zcode 85 66 = some (56, 69, 3, 1, []) by decide +kernel) (so65 hS) (sp65_1 hS)) ?_
  refine Eq.trans (ev_ldi (show zcode 85 69 = some (4, 71, 4, 0, []) by decide +kernel) rfl) ?_
  refine Eq.trans (ev_ia (show zcode 85 71 = some (60, 72, 0, 0, []) by decide +kernel) (sa67 hS) h1) ?_
  exact ev_goto (show zcode 85 72 = some (53, 75, 76, 0, []) by decide +kernel)
theorem b85_75 {T : zT} {V : zM} {x1 : Int} {x2 : Int} {x3 : Int} {x4 : Int} : ev 85 75 [(2, 0), (0, x1), (0, x2), (0, x3), (0, x4)] [] T V = ev 85 76 [(2, 0), (0, x1), (0, x2), (0, x3), (0, x4)] [(0, (-1))] T V := by
  exact ev_ci (show zcode 85 75 = some (0, 76, 0, (-1), []) by decide +kernel) (by decide)
theorem b85_76 {T : zT} {V : zM} {x1 : Int} {x2 : Int} {x3 : Int} {x4 : Int} {y0 : Int} : ev 85 76 [(2, 0), (0, x1), (0, x2), (0, x3), (0, x4)] [(0, y0)] T V = some ((0, y0), T, V) := by
  exact ev_ri (show zcode 85 76 = some (72, 77, 0, 0, []) by decide +kernel)
/-! 86: TwoWayWall.isLetterOrGap(I)Z -/
theorem e86 {T : zT} {V : zM} {x0 : Int} : zcall 86 [(0, x0)] T V = ev 86 0 [(0, x0)] [] T V := rfl
theorem b86_0 {T : zT} {V : zM} {x0 : Int} : ev 86 0 [(0, x0)] [] T V = if x0 = (-1) then ev 86 12 [(0, x0)] [] T V else ev 86 5 [(0, x0)] [] T V := by
  refine Eq.trans (ev_ldi (show zcode 86 0 = some (4, 1, 0, 0, []) by decide +kernel) rfl) ?_
  refine Eq.trans (ev_ci (show zcode 86 1 = some (0, 2, 0, (-1), []) by decide +kernel) (by decide)) ?_
  exact ev_ceq (show zcode 86 2 = some (46, 5, 12, 0, []) by decide +kernel)
theorem b86_5 {T : zT} {V : zM} {x0 : Int} : ev 86 5 [(0, x0)] [] T V = (zcall 73 [(0, x0)] T V).bind fun x => ev 86 9 [(0, x0)] (z_push x.1 []) x.2.1 x.2.2 := by
  refine Eq.trans (ev_ldi (show zcode 86 5 = some (4, 6, 0, 0, []) by decide +kernel) rfl) ?_
  exact ev_cstat (show zcode 86 6 = some (74, 9, 73, 1, []) by decide +kernel) (args := [(0, x0)]) (rest := []) rfl rfl (show 0 ≤ 8 by decide) ⟨by decide, show 1 ≤ 1 by decide⟩
theorem b86_9 {T : zT} {V : zM} {x0 : Int} {y0 : Int} : ev 86 9 [(0, x0)] [(0, y0)] T V = if y0 = 0 then ev 86 16 [(0, x0)] [] T V else ev 86 12 [(0, x0)] [] T V := by
  exact ev_eq (show zcode 86 9 = some (40, 12, 16, 0, []) by decide +kernel)
theorem b86_12 {T : zT} {V : zM} {x0 : Int} : ev 86 12 [(0, x0)] [] T V = ev 86 17 [(0, x0)] [(0, 1)] T V := by
  refine Eq.trans (ev_ci (show zcode 86 12 = some (0, 13, 0, 1, []) by decide +kernel) (by decide)) ?_
  exact ev_goto (show zcode 86 13 = some (53, 16, 17, 0, []) by decide +kernel)
theorem b86_16 {T : zT} {V : zM} {x0 : Int} : ev 86 16 [(0, x0)] [] T V = ev 86 17 [(0, x0)] [(0, 0)] T V := by
  exact ev_ci (show zcode 86 16 = some (0, 17, 0, 0, []) by decide +kernel) (by decide)
theorem b86_17 {T : zT} {V : zM} {x0 : Int} {y0 : Int} (h1 : (0 : Int) ≤ y0 ∧ y0 ≤ 1) : ev 86 17 [(0, x0)] [(0, y0)] T V = some ((0, y0), T, V) := by
  exact ev_rz (show zcode 86 17 = some (72, 18, 3, 0, []) by decide +kernel) h1
/-! 87: TwoWayWall.gapForNone(I)I -/
theorem e87 {T : zT} {V : zM} {x0 : Int} : zcall 87 [(0, x0)] T V = ev 87 0 [(0, x0)] [] T V := rfl
theorem b87_0 {T : zT} {V : zM} {x0 : Int} : ev 87 0 [(0, x0)] [] T V = if x0 = (-1) then ev 87 5 [(0, x0)] [] T V else ev 87 10 [(0, x0)] [] T V := by
  refine Eq.trans (ev_ldi (show zcode 87 0 = some (4, 1, 0, 0, []) by decide +kernel) rfl) ?_
  refine Eq.trans (ev_ci (show zcode 87 1 = some (0, 2, 0, (-1), []) by decide +kernel) (by decide)) ?_
  exact ev_cne (show zcode 87 2 = some (47, 5, 10, 0, []) by decide +kernel)
theorem b87_5 {T : zT} {V : zM} {x0 : Int} : ev 87 5 [(0, x0)] [] T V = ev 87 11 [(0, x0)] [(0, 26)] T V := by
  refine Eq.trans (ev_ci (show zcode 87 5 = some (0, 7, 0, 26, []) by decide +kernel) (by decide)) ?_
  exact ev_goto (show zcode 87 7 = some (53, 10, 11, 0, []) by decide +kernel)
theorem b87_10 {T : zT} {V : zM} {x0 : Int} : ev 87 10 [(0, x0)] [] T V = ev 87 11 [(0, x0)] [(0, x0)] T V := by
  exact ev_ldi (show zcode 87 10 = some (4, 11, 0, 0, []) by decide +kernel) rfl
theorem b87_11 {T : zT} {V : zM} {x0 : Int} {y0 : Int} : ev 87 11 [(0, x0)] [(0, y0)] T V = some ((0, y0), T, V) := by
  exact ev_ri (show zcode 87 11 = some (72, 12, 0, 0, []) by decide +kernel)
/-! 88: TwoWayWall.partners(I)I -/
theorem e88 {T : zT} {V : zM} {x1 : Int} : zcall 88 [(2, 0), (0, x1)] T V = ev 88 0 [(2, 0), (0, x1), (9, 0), (9, 0)] [] T V := rfl
theorem b88_0 {T : zT} {V : zM} {x1 : Int} : ev 88 0 [(2, 0), (0, x1), (9, 0), (9, 0)] [] T V = (zcall 86 [(0, x1)] T V).bind fun x => ev 88 4 [(2, 0), (0, x1), (9, 0), (9, 0)] (z_push x.1 []) x.2.1 x.2.2 := by
  refine Eq.trans (ev_ldi (show zcode 88 0 = some (4, 1, 1, 0, []) by decide +kernel) rfl) ?_
  exact ev_cstat (show zcode 88 1 = some (74, 4, 86, 1, []) by decide +kernel) (args := [(0, x1)]) (rest := []) rfl rfl (show 0 ≤ 8 by decide) ⟨by decide, show 1 ≤ 1 by decide⟩
theorem b88_4 {T : zT} {V : zM} {x1 : Int} {y0 : Int} : ev 88 4 [(2, 0), (0, x1), (9, 0), (9, 0)] [(0, y0)] T V = if y0 = 0 then ev 88 7 [(2, 0), (0, x1), (9, 0), (9, 0)] [] T V else ev 88 9 [(2, 0), (0, x1), (9, 0), (9, 0)] [] T V := by
  exact ev_ne (show zcode 88 4 = some (41, 7, 9, 0, []) by decide +kernel)
theorem b88_7 {T : zT} {V : zM} {x1 : Int} : ev 88 7 [(2, 0), (0, x1), (9, 0), (9, 0)] [] T V = some ((0, (-1)), T, V) := by
  refine Eq.trans (ev_ci (show zcode 88 7 = some (0, 8, 0, (-1), []) by decide +kernel) (by decide)) ?_
  exact ev_ri (show zcode 88 8 = some (72, 9, 0, 0, []) by decide +kernel)
theorem b88_9 {T : zT} {V : zM} {x1 : Int} : ev 88 9 [(2, 0), (0, x1), (9, 0), (9, 0)] [] T V = ev 88 13 [(2, 0), (0, x1), (0, 0), (0, 0)] [] T V := by
  refine Eq.trans (ev_ci (show zcode 88 9 = some (0, 10, 0, 0, []) by decide +kernel) (by decide)) ?_
  refine Eq.trans (ev_sti (show zcode 88 10 = some (7, 11, 2, 0, []) by decide +kernel) ⟨show 2 < 4 by decide, Or.inr (show ¬ (0 : Nat) = 1 by decide)⟩) ?_
  refine Eq.trans (ev_ci (show zcode 88 11 = some (0, 12, 0, 0, []) by decide +kernel) (by decide)) ?_
  exact ev_sti (show zcode 88 12 = some (7, 13, 3, 0, []) by decide +kernel) ⟨show 3 < 4 by decide, Or.inr (show ¬ (0 : Nat) = 1 by decide)⟩
theorem b88_13 {T : zT} {V : zM} {x1 : Int} {x2 : Int} {x3 : Int} : ev 88 13 [(2, 0), (0, x1), (0, x2), (0, x3)] [] T V = if 27 ≤ x3 then ev 88 50 [(2, 0), (0, x1), (0, x2), (0, x3)] [] T V else ev 88 19 [(2, 0), (0, x1), (0, x2), (0, x3)] [] T V := by
  refine Eq.trans (ev_ldi (show zcode 88 13 = some (4, 14, 3, 0, []) by decide +kernel) rfl) ?_
  refine Eq.trans (ev_ci (show zcode 88 14 = some (0, 16, 0, 27, []) by decide +kernel) (by decide)) ?_
  exact ev_cge (show zcode 88 16 = some (49, 19, 50, 0, []) by decide +kernel)
theorem b88_19 {T : zT} {V : zM} {x1 : Int} {x2 : Int} {x3 : Int} (hS : zStr T)  : ev 88 19 [(2, 0), (0, x1), (0, x2), (0, x3)] [] T V = (zcall 87 [(0, x1)] T V).bind fun x => ev 88 30 [(2, 0), (0, x1), (0, x2), (0, x3)] (z_push x.1 [(2, 66)]) x.2.1 x.2.2 := by
  refine Eq.trans (ev_lda (show zcode 88 19 = some (6, 20, 0, 0, []) by decide +kernel) rfl (by decide)) ?_
  refine Eq.trans (ev_gq (show zcode 88 20 = some (56, 23, 11, 6, []) by decide +kernel) (so0 hS) (sp0_6 hS)) ?_
  refine Eq.trans (ev_gq (show zcode 88 23 = some (56, 26, 3, 0, []) by decide +kernel) (so65 hS) (sp65_0 hS)) ?_
  refine Eq.trans (ev_ldi (show zcode 88 26 = some (4, 27, 1, 0, []) by decide +kernel) rfl) ?_
  exact ev_cstat (show zcode 88 27 = some (74, 30, 87, 1, []) by decide +kernel) (args := [(0, x1)]) (rest := [(2, 66)]) rfl rfl (show 1 ≤ 8 by decide) ⟨by decide, show 1 ≤ 1 by decide⟩
theorem b88_30 {T : zT} {V : zM} {x1 : Int} {x2 : Int} {x3 : Int} {y1 : Int} : ev 88 30 [(2, 0), (0, x1), (0, x2), (0, x3)] [(0, y1), (2, 66)] T V = (zcall 22 [(0, y1), (0, x3)] T V).bind fun x => ev 88 34 [(2, 0), (0, x1), (0, x2), (0, x3)] (z_push x.1 [(2, 66)]) x.2.1 x.2.2 := by
  refine Eq.trans (ev_ldi (show zcode 88 30 = some (4, 31, 3, 0, []) by decide +kernel) rfl) ?_
  exact ev_cstat (show zcode 88 31 = some (74, 34, 22, 2, []) by decide +kernel) (args := [(0, y1), (0, x3)]) (rest := [(2, 66)]) rfl rfl (show 1 ≤ 8 by decide) ⟨by decide, show 2 ≤ 2 by decide⟩
theorem b88_34 {T : zT} {V : zM} {x1 : Int} {x2 : Int} {x3 : Int} {y1 : Int} (hS : zStr T) (h1 : (0 : Int) ≤ y1 ∧ y1 < 729) : ev 88 34 [(2, 0), (0, x1), (0, x2), (0, x3)] [(0, y1), (2, 66)] T V = if (V 66 y1) ≤ 0 then ev 88 44 [(2, 0), (0, x1), (0, x2), (0, x3)] [] T V else ev 88 38 [(2, 0), (0, x1), (0, x2), (0, x3)] [] T V := by
  refine Eq.trans (ev_ia (show zcode 88 34 = some (60, 35, 0, 0, []) by decide +kernel) (sa66 hS) h1) ?_
  exact ev_le (show zcode 88 35 = some (45, 38, 44, 0, []) by decide +kernel)
theorem b88_38 {T : zT} {V : zM} {x1 : Int} {x2 : Int} {x3 : Int} (h1 : (0 : Int) ≤ x3 ∧ x3 ≤ 30) : ev 88 38 [(2, 0), (0, x1), (0, x2), (0, x3)] [] T V = ev 88 44 [(2, 0), (0, x1), (0, (zor x2 ((2 : Int) ^ (x3).toNat))), (0, x3)] [] T V := by
  refine Eq.trans (ev_ldi (show zcode 88 38 = some (4, 39, 2, 0, []) by decide +kernel) rfl) ?_
  refine Eq.trans (ev_ci (show zcode 88 39 = some (0, 40, 0, 1, []) by decide +kernel) (by decide)) ?_
  refine Eq.trans (ev_ldi (show zcode 88 40 = some (4, 41, 3, 0, []) by decide +kernel) rfl) ?_
  refine Eq.trans (ev_shl1 (show zcode 88 41 = some (20, 42, 0, 0, []) by decide +kernel) h1) ?_
  refine Eq.trans (ev_or (show zcode 88 42 = some (15, 43, 0, 0, []) by decide +kernel)) ?_
  exact ev_sti (show zcode 88 43 = some (7, 44, 2, 0, []) by decide +kernel) ⟨show 2 < 4 by decide, Or.inr (show ¬ (0 : Nat) = 1 by decide)⟩
theorem b88_44 {T : zT} {V : zM} {x1 : Int} {x2 : Int} {x3 : Int} (h1 : -2147483648 ≤ (x3 + 1) ∧ (x3 + 1) ≤ 2147483647) : ev 88 44 [(2, 0), (0, x1), (0, x2), (0, x3)] [] T V = ev 88 13 [(2, 0), (0, x1), (0, x2), (0, (x3 + 1))] [] T V := by
  refine Eq.trans (ev_inc (show zcode 88 44 = some (10, 47, 3, 1, []) by decide +kernel) rfl h1 (Or.inr (show ¬ (0 : Nat) = 1 by decide))) ?_
  exact ev_goto (show zcode 88 47 = some (53, 50, 13, 0, []) by decide +kernel)
theorem b88_50 {T : zT} {V : zM} {x1 : Int} {x2 : Int} {x3 : Int} : ev 88 50 [(2, 0), (0, x1), (0, x2), (0, x3)] [] T V = some ((0, x2), T, V) := by
  refine Eq.trans (ev_ldi (show zcode 88 50 = some (4, 51, 2, 0, []) by decide +kernel) rfl) ?_
  exact ev_ri (show zcode 88 51 = some (72, 52, 0, 0, []) by decide +kernel)
/-! 89: TwoWayWall.pairs()I -/
theorem e89 {T : zT} {V : zM}  : zcall 89 [(2, 0)] T V = ev 89 0 [(2, 0), (9, 0), (9, 0), (9, 0)] [] T V := rfl
theorem b89_0 {T : zT} {V : zM}  : ev 89 0 [(2, 0), (9, 0), (9, 0), (9, 0)] [] T V = ev 89 4 [(2, 0), (0, 0), (0, 0), (9, 0)] [] T V := by
  refine Eq.trans (ev_ci (show zcode 89 0 = some (0, 1, 0, 0, []) by decide +kernel) (by decide)) ?_
  refine Eq.trans (ev_sti (show zcode 89 1 = some (7, 2, 1, 0, []) by decide +kernel) ⟨show 1 < 4 by decide, Or.inr (show ¬ (2 : Nat) = 1 by decide)⟩) ?_
  refine Eq.trans (ev_ci (show zcode 89 2 = some (0, 3, 0, 0, []) by decide +kernel) (by decide)) ?_
  exact ev_sti (show zcode 89 3 = some (7, 4, 2, 0, []) by decide +kernel) ⟨show 2 < 4 by decide, Or.inr (show ¬ (0 : Nat) = 1 by decide)⟩
theorem b89_4 {T : zT} {V : zM} {x1 : Int} {x2 : Int} {v3 : zV} (hS : zStr T)  : ev 89 4 [(2, 0), (0, x1), (0, x2), v3] [] T V = if (V 65 5) ≤ x2 then ev 89 52 [(2, 0), (0, x1), (0, x2), v3] [] T V else ev 89 15 [(2, 0), (0, x1), (0, x2), v3] [] T V := by
  refine Eq.trans (ev_ldi (show zcode 89 4 = some (4, 5, 2, 0, []) by decide +kernel) rfl) ?_
  refine Eq.trans (ev_lda (show zcode 89 5 = some (6, 6, 0, 0, []) by decide +kernel) rfl (by decide)) ?_
  refine Eq.trans (ev_gq (show zcode 89 6 = some (56, 9, 11, 6, []) by decide +kernel) (so0 hS) (sp0_6 hS)) ?_
  refine Eq.trans (ev_gi (show zcode 89 9 = some (55, 12, 3, 5, []) by decide +kernel) (so65 hS)) ?_
  exact ev_cge (show zcode 89 12 = some (49, 15, 52, 0, []) by decide +kernel)
theorem b89_15 {T : zT} {V : zM} {x1 : Int} {x2 : Int} {v3 : zV} (hS : zStr T) (h1 : (0 : Int) ≤ x2 ∧ x2 < 128) (h2 : (0 : Int) ≤ (V 70 x2)) : ev 89 15 [(2, 0), (0, x1), (0, x2), v3] [] T V = if ((V 70 x2) / 27) = 26 then ev 89 46 [(2, 0), (0, x1), (0, x2), (0, (V 70 x2))] [] T V else ev 89 34 [(2, 0), (0, x1), (0, x2), (0, (V 70 x2))] [] T V := by
  refine Eq.trans (ev_lda (show zcode 89 15 = some (6, 16, 0, 0, []) by decide +kernel) rfl (by decide)) ?_
  refine Eq.trans (ev_gq (show zcode 89 16 = some (56, 19, 11, 6, []) by decide +kernel) (so0 hS) (sp0_6 hS)) ?_
  refine Eq.trans (ev_gq (show zcode 89 19 = some (56, 22, 3, 4, []) by decide +kernel) (so65 hS) (sp65_4 hS)) ?_
  refine Eq.trans (ev_ldi (show zcode 89 22 = some (4, 23, 2, 0, []) by decide +kernel) rfl) ?_
  refine Eq.trans (ev_ia (show zcode 89 23 = some (60, 24, 0, 0, []) by decide +kernel) (sa70 hS) h1) ?_
  refine Eq.trans (ev_sti (show zcode 89 24 = some (7, 25, 3, 0, []) by decide +kernel) ⟨show 3 < 4 by decide, Or.inr (show ¬ (0 : Nat) = 1 by decide)⟩) ?_
  refine Eq.trans (ev_ldi (show zcode 89 25 = some (4, 26, 3, 0, []) by decide +kernel) rfl) ?_
  refine Eq.trans (ev_ci (show zcode 89 26 = some (0, 28, 0, 27, []) by decide +kernel) (by decide)) ?_
  refine Eq.trans (ev_div (show zcode 89 28 = some (17, 29, 0, 0, []) by decide +kernel) ⟨h2, by decide⟩) ?_
  refine Eq.trans (ev_ci (show zcode 89 29 = some (0, 31, 0, 26, []) by decide +kernel) (by decide)) ?_
  exact ev_ceq (show zcode 89 31 = some (46, 34, 46, 0, []) by decide +kernel)
theorem b89_34 {T : zT} {V : zM} {x1 : Int} {x2 : Int} {x3 : Int} (h1 : (0 : Int) ≤ x3) : ev 89 34 [(2, 0), (0, x1), (0, x2), (0, x3)] [] T V = if (x3 % 27) = 26 then ev 89 46 [(2, 0), (0, x1), (0, x2), (0, x3)] [] T V else ev 89 43 [(2, 0), (0, x1), (0, x2), (0, x3)] [] T V := by
  refine Eq.trans (ev_ldi (show zcode 89 34 = some (4, 35, 3, 0, []) by decide +kernel) rfl) ?_
  refine Eq.trans (ev_ci (show zcode 89 35 = some (0, 37, 0, 27, []) by decide +kernel) (by decide)) ?_
  refine Eq.trans (ev_rem (show zcode 89 37 = some (18, 38, 0, 0, []) by decide +kernel) ⟨h1, by decide⟩) ?_
  refine Eq.trans (ev_ci (show zcode 89 38 = some (0, 40, 0, 26, []) by decide +kernel) (by decide)) ?_
  exact ev_ceq (show zcode 89 40 = some (46, 43, 46, 0, []) by decide +kernel)
theorem b89_43 {T : zT} {V : zM} {x1 : Int} {x2 : Int} {x3 : Int} (h1 : -2147483648 ≤ (x1 + 1) ∧ (x1 + 1) ≤ 2147483647) : ev 89 43 [(2, 0), (0, x1), (0, x2), (0, x3)] [] T V = ev 89 46 [(2, 0), (0, (x1 + 1)), (0, x2), (0, x3)] [] T V := by
  exact ev_inc (show zcode 89 43 = some (10, 46, 1, 1, []) by decide +kernel) rfl h1 (Or.inr (show ¬ (2 : Nat) = 1 by decide))
theorem b89_46 {T : zT} {V : zM} {x1 : Int} {x2 : Int} {x3 : Int} (h1 : -2147483648 ≤ (x2 + 1) ∧ (x2 + 1) ≤ 2147483647) : ev 89 46 [(2, 0), (0, x1), (0, x2), (0, x3)] [] T V = ev 89 4 [(2, 0), (0, x1), (0, (x2 + 1)), (0, x3)] [] T V := by
  refine Eq.trans (ev_inc (show zcode 89 46 = some (10, 49, 2, 1, []) by decide +kernel) rfl h1 (Or.inr (show ¬ (0 : Nat) = 1 by decide))) ?_
  exact ev_goto (show zcode 89 49 = some (53, 52, 4, 0, []) by decide +kernel)
theorem b89_52 {T : zT} {V : zM} {x1 : Int} {x2 : Int} {v3 : zV} : ev 89 52 [(2, 0), (0, x1), (0, x2), v3] [] T V = some ((0, x1), T, V) := by
  refine Eq.trans (ev_ldi (show zcode 89 52 = some (4, 53, 1, 0, []) by decide +kernel) rfl) ?_
  exact ev_ri (show zcode 89 53 = some (72, 54, 0, 0, []) by decide +kernel)
/-! 90: TwoWayWall.say(II)I -/
theorem e90 {T : zT} {V : zM} {x1 : Int} {x2 : Int} : zcall 90 [(2, 0), (0, x1), (0, x2)] T V = ev 90 0 [(2, 0), (0, x1), (0, x2), (9, 0)] [] T V := rfl
theorem b90_0 {T : zT} {V : zM} {x1 : Int} {x2 : Int} : ev 90 0 [(2, 0), (0, x1), (0, x2), (9, 0)] [] T V = (zcall 72 [(0, x1)] T V).bind fun x => ev 90 4 [(2, 0), (0, x1), (0, x2), (9, 0)] (z_push x.1 []) x.2.1 x.2.2 := by
  refine Eq.trans (ev_ldi (show zcode 90 0 = some (4, 1, 1, 0, []) by decide +kernel) rfl) ?_
  exact ev_cstat (show zcode 90 1 = some (74, 4, 72, 1, []) by decide +kernel) (args := [(0, x1)]) (rest := []) rfl rfl (show 0 ≤ 8 by decide) ⟨by decide, show 1 ≤ 1 by decide⟩
theorem b90_4 {T : zT} {V : zM} {x1 : Int} {x2 : Int} {y0 : Int} : ev 90 4 [(2, 0), (0, x1), (0, x2), (9, 0)] [(0, y0)] T V = if y0 = 0 then ev 90 14 [(2, 0), (0, x1), (0, x2), (9, 0)] [] T V else ev 90 7 [(2, 0), (0, x1), (0, x2), (9, 0)] [] T V := by
  exact ev_eq (show zcode 90 4 = some (40, 7, 14, 0, []) by decide +kernel)
theorem b90_7 {T : zT} {V : zM} {x1 : Int} {x2 : Int} : ev 90 7 [(2, 0), (0, x1), (0, x2), (9, 0)] [] T V = (zcall 86 [(0, x2)] T V).bind fun x => ev 90 11 [(2, 0), (0, x1), (0, x2), (9, 0)] (z_push x.1 []) x.2.1 x.2.2 := by
  refine Eq.trans (ev_ldi (show zcode 90 7 = some (4, 8, 2, 0, []) by decide +kernel) rfl) ?_
  exact ev_cstat (show zcode 90 8 = some (74, 11, 86, 1, []) by decide +kernel) (args := [(0, x2)]) (rest := []) rfl rfl (show 0 ≤ 8 by decide) ⟨by decide, show 1 ≤ 1 by decide⟩
theorem b90_11 {T : zT} {V : zM} {x1 : Int} {x2 : Int} {y0 : Int} : ev 90 11 [(2, 0), (0, x1), (0, x2), (9, 0)] [(0, y0)] T V = if y0 = 0 then ev 90 14 [(2, 0), (0, x1), (0, x2), (9, 0)] [] T V else ev 90 20 [(2, 0), (0, x1), (0, x2), (9, 0)] [] T V := by
  exact ev_ne (show zcode 90 11 = some (41, 14, 20, 0, []) by decide +kernel)
theorem b90_14 {T : zT} {V : zM} {x1 : Int} {x2 : Int} (hS : zStr T)  : ev 90 14 [(2, 0), (0, x1), (0, x2), (9, 0)] [] T V = (zcall 24 [(2, 0), (0, (-1))] T V).bind fun x => ev 90 19 [(2, 0), (0, x1), (0, x2), (9, 0)] (z_push x.1 []) x.2.1 x.2.2 := by
  refine Eq.trans (ev_lda (show zcode 90 14 = some (6, 15, 0, 0, []) by decide +kernel) rfl (by decide)) ?_
  refine Eq.trans (ev_ci (show zcode 90 15 = some (0, 16, 0, (-1), []) by decide +kernel) (by decide)) ?_
  exact ev_cvirt (show zcode 90 16 = some (76, 19, 24, 2, [11]) by decide +kernel) (args := [(0, (-1))]) (rest := []) rfl (so0 hS) rfl (show 0 ≤ 8 by decide) ⟨by decide, show 2 ≤ 2 by decide⟩
theorem b90_19 {T : zT} {V : zM} {x1 : Int} {x2 : Int} {y0 : Int} : ev 90 19 [(2, 0), (0, x1), (0, x2), (9, 0)] [(0, y0)] T V = some ((0, y0), T, V) := by
  exact ev_ri (show zcode 90 19 = some (72, 20, 0, 0, []) by decide +kernel)
theorem b90_20 {T : zT} {V : zM} {x1 : Int} {x2 : Int} (hS : zStr T)  : ev 90 20 [(2, 0), (0, x1), (0, x2), (9, 0)] [] T V = (zcall 74 [(2, 1), (0, x1)] T V).bind fun x => ev 90 28 [(2, 0), (0, x1), (0, x2), (9, 0)] (z_push x.1 []) x.2.1 x.2.2 := by
  refine Eq.trans (ev_lda (show zcode 90 20 = some (6, 21, 0, 0, []) by decide +kernel) rfl (by decide)) ?_
  refine Eq.trans (ev_gq (show zcode 90 21 = some (56, 24, 11, 0, []) by decide +kernel) (so0 hS) (sp0_0 hS)) ?_
  refine Eq.trans (ev_ldi (show zcode 90 24 = some (4, 25, 1, 0, []) by decide +kernel) rfl) ?_
  exact ev_cvirt (show zcode 90 25 = some (76, 28, 74, 2, [6]) by decide +kernel) (args := [(0, x1)]) (rest := []) rfl (so1 hS) rfl (show 0 ≤ 8 by decide) ⟨by decide, show 2 ≤ 2 by decide⟩
theorem b90_28 {T : zT} {V : zM} {x1 : Int} {x2 : Int} {p0 : Int} (h1 : zTongue T p0) : ev 90 28 [(2, 0), (0, x1), (0, x2), (9, 0)] [(2, p0)] T V = if (V p0 7) < 16 then ev 90 45 [(2, 0), (0, x1), (0, x2), (2, p0)] [] T V else ev 90 38 [(2, 0), (0, x1), (0, x2), (2, p0)] [] T V := by
  refine Eq.trans (ev_sta (show zcode 90 28 = some (9, 29, 3, 0, []) by decide +kernel) ⟨show 3 < 4 by decide, Or.inr (show ¬ (0 : Nat) = 1 by decide)⟩) ?_
  refine Eq.trans (ev_lda (show zcode 90 29 = some (6, 30, 3, 0, []) by decide +kernel) rfl (by decide)) ?_
  refine Eq.trans (ev_gi (show zcode 90 30 = some (55, 33, 9, 7, []) by decide +kernel) h1.o) ?_
  refine Eq.trans (ev_ci (show zcode 90 33 = some (0, 35, 0, 16, []) by decide +kernel) (by decide)) ?_
  exact ev_clt (show zcode 90 35 = some (48, 38, 45, 0, []) by decide +kernel)
theorem b90_38 {T : zT} {V : zM} {x1 : Int} {x2 : Int} {q3 : Int} (hS : zStr T)  : ev 90 38 [(2, 0), (0, x1), (0, x2), (2, q3)] [] T V = (zcall 24 [(2, 0), (0, (-5))] T V).bind fun x => ev 90 44 [(2, 0), (0, x1), (0, x2), (2, q3)] (z_push x.1 []) x.2.1 x.2.2 := by
  refine Eq.trans (ev_lda (show zcode 90 38 = some (6, 39, 0, 0, []) by decide +kernel) rfl (by decide)) ?_
  refine Eq.trans (ev_ci (show zcode 90 39 = some (0, 41, 0, (-5), []) by decide +kernel) (by decide)) ?_
  exact ev_cvirt (show zcode 90 41 = some (76, 44, 24, 2, [11]) by decide +kernel) (args := [(0, (-5))]) (rest := []) rfl (so0 hS) rfl (show 0 ≤ 8 by decide) ⟨by decide, show 2 ≤ 2 by decide⟩
theorem b90_44 {T : zT} {V : zM} {x1 : Int} {x2 : Int} {q3 : Int} {y0 : Int} : ev 90 44 [(2, 0), (0, x1), (0, x2), (2, q3)] [(0, y0)] T V = some ((0, y0), T, V) := by
  exact ev_ri (show zcode 90 44 = some (72, 45, 0, 0, []) by decide +kernel)
theorem b90_45 {T : zT} {V : zM} {x1 : Int} {x2 : Int} {q3 : Int} (h1 : zTongue T q3) : ev 90 45 [(2, 0), (0, x1), (0, x2), (2, q3)] [] T V = (zcall 87 [(0, x2)] T V).bind fun x => ev 90 57 [(2, 0), (0, x1), (0, x2), (2, q3)] (z_push x.1 [(0, (V q3 7)), (2, (q3 + 6))]) x.2.1 x.2.2 := by
  refine Eq.trans (ev_lda (show zcode 90 45 = some (6, 46, 3, 0, []) by decide +kernel) rfl (by decide)) ?_
  refine Eq.trans (ev_gq (show zcode 90 46 = some (56, 49, 9, 6, []) by decide +kernel) h1.o h1.p6) ?_
  refine Eq.trans (ev_lda (show zcode 90 49 = some (6, 50, 3, 0, []) by decide +kernel) rfl (by decide)) ?_
  refine Eq.trans (ev_gi (show zcode 90 50 = some (55, 53, 9, 7, []) by decide +kernel) h1.o) ?_
  refine Eq.trans (ev_ldi (show zcode 90 53 = some (4, 54, 2, 0, []) by decide +kernel) rfl) ?_
  exact ev_cstat (show zcode 90 54 = some (74, 57, 87, 1, []) by decide +kernel) (args := [(0, x2)]) (rest := [(0, (V q3 7)), (2, (q3 + 6))]) rfl rfl (show 2 ≤ 8 by decide) ⟨by decide, show 1 ≤ 1 by decide⟩
theorem b90_57 {T : zT} {V : zM} {x1 : Int} {x2 : Int} {q3 : Int} {p0 : Int} {y1 : Int} {y2 : Int} {n1 : Int} (hS : zStr T) (h1 : zAr T p0 0 n1) (h2 : (0 : Int) ≤ y1 ∧ y1 < n1) (h3 : zTongue T q3) (h4 : -2147483648 ≤ (((zwr V p0 y1 y2) q3 7) + 1) ∧ (((zwr V p0 y1 y2) q3 7) + 1) ≤ 2147483647) : ev 90 57 [(2, 0), (0, x1), (0, x2), (2, q3)] [(0, y2), (0, y1), (2, p0)] T V = (zcall 26 [(2, 0), (0, ((zwr (zwr V p0 y1 y2) q3 7 (((zwr V p0 y1 y2) q3 7) + 1)) q3 7))] T (zwr (zwr V p0 y1 y2) q3 7 (((zwr V p0 y1 y2) q3 7) + 1))).bind fun x => ev 90 76 [(2, 0), (0, x1), (0, x2), (2, q3)] (z_push x.1 []) x.2.1 x.2.2 := by
  refine Eq.trans (ev_is (show zcode 90 57 = some (64, 58, 0, 0, []) by decide +kernel) h1 h2) ?_
  refine Eq.trans (ev_lda (show zcode 90 58 = some (6, 59, 3, 0, []) by decide +kernel) rfl (by decide)) ?_
  refine Eq.trans (ev_dup (show zcode 90 59 = some (36, 60, 0, 0, []) by decide +kernel) (by decide)) ?_
  refine Eq.trans (ev_gi (show zcode 90 60 = some (55, 63, 9, 7, []) by decide +kernel) h3.o) ?_
  refine Eq.trans (ev_ci (show zcode 90 63 = some (0, 64, 0, 1, []) by decide +kernel) (by decide)) ?_
  refine Eq.trans (ev_add (show zcode 90 64 = some (11, 65, 0, 0, []) by decide +kernel) h4) ?_
  refine Eq.trans (ev_pi (show zcode 90 65 = some (57, 68, 9, 7, []) by decide +kernel) h3.o) ?_
  refine Eq.trans (ev_lda (show zcode 90 68 = some (6, 69, 0, 0, []) by decide +kernel) rfl (by decide)) ?_
  refine Eq.trans (ev_lda (show zcode 90 69 = some (6, 70, 3, 0, []) by decide +kernel) rfl (by decide)) ?_
  refine Eq.trans (ev_gi (show zcode 90 70 = some (55, 73, 9, 7, []) by decide +kernel) h3.o) ?_
  exact ev_cvirt (show zcode 90 73 = some (76, 76, 26, 2, [11]) by decide +kernel) (args := [(0, ((zwr (zwr V p0 y1 y2) q3 7 (((zwr V p0 y1 y2) q3 7) + 1)) q3 7))]) (rest := []) rfl (so0 hS) rfl (show 0 ≤ 8 by decide) ⟨by decide, show 2 ≤ 2 by decide⟩
theorem b90_76 {T : zT} {V : zM} {x1 : Int} {x2 : Int} {q3 : Int} {y0 : Int} : ev 90 76 [(2, 0), (0, x1), (0, x2), (2, q3)] [(0, y0)] T V = some ((0, y0), T, V) := by
  exact ev_ri (show zcode 90 76 = some (72, 77, 0, 0, []) by decide +kernel)
/-! 91: TwoWayWall.hush(I)I -/
theorem e91 {T : zT} {V : zM} {x1 : Int} : zcall 91 [(2, 0), (0, x1)] T V = ev 91 0 [(2, 0), (0, x1), (9, 0)] [] T V := rfl
theorem b91_0 {T : zT} {V : zM} {x1 : Int} : ev 91 0 [(2, 0), (0, x1), (9, 0)] [] T V = (zcall 72 [(0, x1)] T V).bind fun x => ev 91 4 [(2, 0), (0, x1), (9, 0)] (z_push x.1 []) x.2.1 x.2.2 := by
  refine Eq.trans (ev_ldi (show zcode 91 0 = some (4, 1, 1, 0, []) by decide +kernel) rfl) ?_
  exact ev_cstat (show zcode 91 1 = some (74, 4, 72, 1, []) by decide +kernel) (args := [(0, x1)]) (rest := []) rfl rfl (show 0 ≤ 8 by decide) ⟨by decide, show 1 ≤ 1 by decide⟩
theorem b91_4 {T : zT} {V : zM} {x1 : Int} {y0 : Int} : ev 91 4 [(2, 0), (0, x1), (9, 0)] [(0, y0)] T V = if y0 = 0 then ev 91 7 [(2, 0), (0, x1), (9, 0)] [] T V else ev 91 13 [(2, 0), (0, x1), (9, 0)] [] T V := by
  exact ev_ne (show zcode 91 4 = some (41, 7, 13, 0, []) by decide +kernel)
theorem b91_7 {T : zT} {V : zM} {x1 : Int} (hS : zStr T)  : ev 91 7 [(2, 0), (0, x1), (9, 0)] [] T V = (zcall 24 [(2, 0), (0, (-1))] T V).bind fun x => ev 91 12 [(2, 0), (0, x1), (9, 0)] (z_push x.1 []) x.2.1 x.2.2 := by
  refine Eq.trans (ev_lda (show zcode 91 7 = some (6, 8, 0, 0, []) by decide +kernel) rfl (by decide)) ?_
  refine Eq.trans (ev_ci (show zcode 91 8 = some (0, 9, 0, (-1), []) by decide +kernel) (by decide)) ?_
  exact ev_cvirt (show zcode 91 9 = some (76, 12, 24, 2, [11]) by decide +kernel) (args := [(0, (-1))]) (rest := []) rfl (so0 hS) rfl (show 0 ≤ 8 by decide) ⟨by decide, show 2 ≤ 2 by decide⟩
theorem b91_12 {T : zT} {V : zM} {x1 : Int} {y0 : Int} : ev 91 12 [(2, 0), (0, x1), (9, 0)] [(0, y0)] T V = some ((0, y0), T, V) := by
  exact ev_ri (show zcode 91 12 = some (72, 13, 0, 0, []) by decide +kernel)
theorem b91_13 {T : zT} {V : zM} {x1 : Int} (hS : zStr T)  : ev 91 13 [(2, 0), (0, x1), (9, 0)] [] T V = (zcall 74 [(2, 1), (0, x1)] T V).bind fun x => ev 91 21 [(2, 0), (0, x1), (9, 0)] (z_push x.1 []) x.2.1 x.2.2 := by
  refine Eq.trans (ev_lda (show zcode 91 13 = some (6, 14, 0, 0, []) by decide +kernel) rfl (by decide)) ?_
  refine Eq.trans (ev_gq (show zcode 91 14 = some (56, 17, 11, 0, []) by decide +kernel) (so0 hS) (sp0_0 hS)) ?_
  refine Eq.trans (ev_ldi (show zcode 91 17 = some (4, 18, 1, 0, []) by decide +kernel) rfl) ?_
  exact ev_cvirt (show zcode 91 18 = some (76, 21, 74, 2, [6]) by decide +kernel) (args := [(0, x1)]) (rest := []) rfl (so1 hS) rfl (show 0 ≤ 8 by decide) ⟨by decide, show 2 ≤ 2 by decide⟩
theorem b91_21 {T : zT} {V : zM} {x1 : Int} {p0 : Int} (hS : zStr T) (h1 : zTongue T p0) : ev 91 21 [(2, 0), (0, x1), (9, 0)] [(2, p0)] T V = (zcall 74 [(2, 1), (0, x1)] T V).bind fun x => ev 91 33 [(2, 0), (0, x1), (0, (V p0 7))] (z_push x.1 []) x.2.1 x.2.2 := by
  refine Eq.trans (ev_gi (show zcode 91 21 = some (55, 24, 9, 7, []) by decide +kernel) h1.o) ?_
  refine Eq.trans (ev_sti (show zcode 91 24 = some (7, 25, 2, 0, []) by decide +kernel) ⟨show 2 < 3 by decide, Or.inr (show ¬ (0 : Nat) = 1 by decide)⟩) ?_
  refine Eq.trans (ev_lda (show zcode 91 25 = some (6, 26, 0, 0, []) by decide +kernel) rfl (by decide)) ?_
  refine Eq.trans (ev_gq (show zcode 91 26 = some (56, 29, 11, 0, []) by decide +kernel) (so0 hS) (sp0_0 hS)) ?_
  refine Eq.trans (ev_ldi (show zcode 91 29 = some (4, 30, 1, 0, []) by decide +kernel) rfl) ?_
  exact ev_cvirt (show zcode 91 30 = some (76, 33, 74, 2, [6]) by decide +kernel) (args := [(0, x1)]) (rest := []) rfl (so1 hS) rfl (show 0 ≤ 8 by decide) ⟨by decide, show 2 ≤ 2 by decide⟩
theorem b91_33 {T : zT} {V : zM} {x1 : Int} {x2 : Int} {p0 : Int} (hS : zStr T) (h1 : zTongue T p0) : ev 91 33 [(2, 0), (0, x1), (0, x2)] [(2, p0)] T V = (zcall 26 [(2, 0), (0, x2)] T (zwr V p0 7 0)).bind fun x => ev 91 42 [(2, 0), (0, x1), (0, x2)] (z_push x.1 []) x.2.1 x.2.2 := by
  refine Eq.trans (ev_ci (show zcode 91 33 = some (0, 34, 0, 0, []) by decide +kernel) (by decide)) ?_
  refine Eq.trans (ev_pi (show zcode 91 34 = some (57, 37, 9, 7, []) by decide +kernel) h1.o) ?_
  refine Eq.trans (ev_lda (show zcode 91 37 = some (6, 38, 0, 0, []) by decide +kernel) rfl (by decide)) ?_
  refine Eq.trans (ev_ldi (show zcode 91 38 = some (4, 39, 2, 0, []) by decide +kernel) rfl) ?_
  exact ev_cvirt (show zcode 91 39 = some (76, 42, 26, 2, [11]) by decide +kernel) (args := [(0, x2)]) (rest := []) rfl (so0 hS) rfl (show 0 ≤ 8 by decide) ⟨by decide, show 2 ≤ 2 by decide⟩
theorem b91_42 {T : zT} {V : zM} {x1 : Int} {x2 : Int} {y0 : Int} : ev 91 42 [(2, 0), (0, x1), (0, x2)] [(0, y0)] T V = some ((0, y0), T, V) := by
  exact ev_ri (show zcode 91 42 = some (72, 43, 0, 0, []) by decide +kernel)
/-! 92: TwoWayWall.near(I)I -/
theorem e92 {T : zT} {V : zM} {x1 : Int} : zcall 92 [(2, 0), (0, x1)] T V = ev 92 0 [(2, 0), (0, x1), (9, 0), (9, 0), (9, 0), (9, 0), (9, 0), (9, 0)] [] T V := rfl
theorem b92_0 {T : zT} {V : zM} {x1 : Int} (hS : zStr T)  : ev 92 0 [(2, 0), (0, x1), (9, 0), (9, 0), (9, 0), (9, 0), (9, 0), (9, 0)] [] T V = if x1 < 0 then ev 92 34 [(2, 0), (0, x1), (0, (V 6 7)), (9, 0), (9, 0), (9, 0), (9, 0), (9, 0)] [] T V else ev 92 15 [(2, 0), (0, x1), (0, (V 6 7)), (9, 0), (9, 0), (9, 0), (9, 0), (9, 0)] [] T V := by
  refine Eq.trans (ev_lda (show zcode 92 0 = some (6, 1, 0, 0, []) by decide +kernel) rfl (by decide)) ?_
  refine Eq.trans (ev_gq (show zcode 92 1 = some (56, 4, 11, 0, []) by decide +kernel) (so0 hS) (sp0_0 hS)) ?_
  refine Eq.trans (ev_gq (show zcode 92 4 = some (56, 7, 6, 5, []) by decide +kernel) (so1 hS) (sp1_5 hS)) ?_
  refine Eq.trans (ev_gi (show zcode 92 7 = some (55, 10, 9, 7, []) by decide +kernel) (so6 hS)) ?_
  refine Eq.trans (ev_sti (show zcode 92 10 = some (7, 11, 2, 0, []) by decide +kernel) ⟨show 2 < 8 by decide, Or.inr (show ¬ (0 : Nat) = 1 by decide)⟩) ?_
  refine Eq.trans (ev_ldi (show zcode 92 11 = some (4, 12, 1, 0, []) by decide +kernel) rfl) ?_
  exact ev_lt (show zcode 92 12 = some (42, 15, 34, 0, []) by decide +kernel)
theorem b92_15 {T : zT} {V : zM} {x1 : Int} {x2 : Int} : ev 92 15 [(2, 0), (0, x1), (0, x2), (9, 0), (9, 0), (9, 0), (9, 0), (9, 0)] [] T V = if 2 < x1 then ev 92 34 [(2, 0), (0, x1), (0, x2), (9, 0), (9, 0), (9, 0), (9, 0), (9, 0)] [] T V else ev 92 20 [(2, 0), (0, x1), (0, x2), (9, 0), (9, 0), (9, 0), (9, 0), (9, 0)] [] T V := by
  refine Eq.trans (ev_ldi (show zcode 92 15 = some (4, 16, 1, 0, []) by decide +kernel) rfl) ?_
  refine Eq.trans (ev_ci (show zcode 92 16 = some (0, 17, 0, 2, []) by decide +kernel) (by decide)) ?_
  exact ev_cgt (show zcode 92 17 = some (50, 20, 34, 0, []) by decide +kernel)
theorem b92_20 {T : zT} {V : zM} {x1 : Int} {x2 : Int} (hS : zStr T)  : ev 92 20 [(2, 0), (0, x1), (0, x2), (9, 0), (9, 0), (9, 0), (9, 0), (9, 0)] [] T V = if x2 = (V 14 7) then ev 92 36 [(2, 0), (0, x1), (0, x2), (9, 0), (9, 0), (9, 0), (9, 0), (9, 0)] [] T V else ev 92 34 [(2, 0), (0, x1), (0, x2), (9, 0), (9, 0), (9, 0), (9, 0), (9, 0)] [] T V := by
  refine Eq.trans (ev_ldi (show zcode 92 20 = some (4, 21, 2, 0, []) by decide +kernel) rfl) ?_
  refine Eq.trans (ev_lda (show zcode 92 21 = some (6, 22, 0, 0, []) by decide +kernel) rfl (by decide)) ?_
  refine Eq.trans (ev_gq (show zcode 92 22 = some (56, 25, 11, 0, []) by decide +kernel) (so0 hS) (sp0_0 hS)) ?_
  refine Eq.trans (ev_gq (show zcode 92 25 = some (56, 28, 6, 6, []) by decide +kernel) (so1 hS) (sp1_6 hS)) ?_
  refine Eq.trans (ev_gi (show zcode 92 28 = some (55, 31, 9, 7, []) by decide +kernel) (so14 hS)) ?_
  exact ev_ceq (show zcode 92 31 = some (46, 34, 36, 0, []) by decide +kernel)
theorem b92_34 {T : zT} {V : zM} {x1 : Int} {x2 : Int} : ev 92 34 [(2, 0), (0, x1), (0, x2), (9, 0), (9, 0), (9, 0), (9, 0), (9, 0)] [] T V = some ((0, (-1)), T, V) := by
  refine Eq.trans (ev_ci (show zcode 92 34 = some (0, 35, 0, (-1), []) by decide +kernel) (by decide)) ?_
  exact ev_ri (show zcode 92 35 = some (72, 36, 0, 0, []) by decide +kernel)
theorem b92_36 {T : zT} {V : zM} {x1 : Int} {x2 : Int} : ev 92 36 [(2, 0), (0, x1), (0, x2), (9, 0), (9, 0), (9, 0), (9, 0), (9, 0)] [] T V = ev 92 47 [(2, 0), (0, x1), (0, x2), (0, 0), (0, 0), (1, 1), (9, 0), (0, 0)] [] T V := by
  refine Eq.trans (ev_ci (show zcode 92 36 = some (0, 37, 0, 0, []) by decide +kernel) (by decide)) ?_
  refine Eq.trans (ev_sti (show zcode 92 37 = some (7, 38, 3, 0, []) by decide +kernel) ⟨show 3 < 8 by decide, Or.inr (show ¬ (0 : Nat) = 1 by decide)⟩) ?_
  refine Eq.trans (ev_ci (show zcode 92 38 = some (0, 39, 0, 0, []) by decide +kernel) (by decide)) ?_
  refine Eq.trans (ev_sti (show zcode 92 39 = some (7, 41, 4, 0, []) by decide +kernel) ⟨show 4 < 8 by decide, Or.inr (show ¬ (0 : Nat) = 1 by decide)⟩) ?_
  refine Eq.trans (ev_cl (show zcode 92 41 = some (1, 42, 0, 1, []) by decide +kernel) (by decide)) ?_
  refine Eq.trans (ev_stl (show zcode 92 42 = some (8, 44, 5, 0, []) by decide +kernel) ⟨show 6 < 8 by decide, Or.inr (show ¬ (0 : Nat) = 1 by decide)⟩) ?_
  refine Eq.trans (ev_ci (show zcode 92 44 = some (0, 45, 0, 0, []) by decide +kernel) (by decide)) ?_
  exact ev_sti (show zcode 92 45 = some (7, 47, 7, 0, []) by decide +kernel) ⟨show 7 < 8 by decide, Or.inr (show ¬ (9 : Nat) = 1 by decide)⟩
theorem b92_47 {T : zT} {V : zM} {x1 : Int} {x2 : Int} {x3 : Int} {x4 : Int} {x5 : Int} {x7 : Int} : ev 92 47 [(2, 0), (0, x1), (0, x2), (0, x3), (0, x4), (1, x5), (9, 0), (0, x7)] [] T V = if x2 ≤ x7 then ev 92 107 [(2, 0), (0, x1), (0, x2), (0, x3), (0, x4), (1, x5), (9, 0), (0, x7)] [] T V else ev 92 53 [(2, 0), (0, x1), (0, x2), (0, x3), (0, x4), (1, x5), (9, 0), (0, x7)] [] T V := by
  refine Eq.trans (ev_ldi (show zcode 92 47 = some (4, 49, 7, 0, []) by decide +kernel) rfl) ?_
  refine Eq.trans (ev_ldi (show zcode 92 49 = some (4, 50, 2, 0, []) by decide +kernel) rfl) ?_
  exact ev_cge (show zcode 92 50 = some (49, 53, 107, 0, []) by decide +kernel)
theorem b92_53 {T : zT} {V : zM} {x1 : Int} {x2 : Int} {x3 : Int} {x4 : Int} {x5 : Int} {x7 : Int} (hS : zStr T)  : ev 92 53 [(2, 0), (0, x1), (0, x2), (0, x3), (0, x4), (1, x5), (9, 0), (0, x7)] [] T V = (zcall 93 [(2, 0), (0, x7), (0, x2)] T V).bind fun x => ev 92 60 [(2, 0), (0, x1), (0, x2), (0, x3), (0, x4), (1, x5), (9, 0), (0, x7)] (z_push x.1 []) x.2.1 x.2.2 := by
  refine Eq.trans (ev_lda (show zcode 92 53 = some (6, 54, 0, 0, []) by decide +kernel) rfl (by decide)) ?_
  refine Eq.trans (ev_ldi (show zcode 92 54 = some (4, 56, 7, 0, []) by decide +kernel) rfl) ?_
  refine Eq.trans (ev_ldi (show zcode 92 56 = some (4, 57, 2, 0, []) by decide +kernel) rfl) ?_
  exact ev_cvirt (show zcode 92 57 = some (76, 60, 93, 3, [11]) by decide +kernel) (args := [(0, x7), (0, x2)]) (rest := []) rfl (so0 hS) rfl (show 0 ≤ 8 by decide) ⟨by decide, show 3 ≤ 3 by decide⟩
theorem b92_60 {T : zT} {V : zM} {x1 : Int} {x2 : Int} {x3 : Int} {x4 : Int} {x5 : Int} {x7 : Int} (hS : zStr T) (h1 : -2147483648 ≤ (x3 + (V 77 0)) ∧ (x3 + (V 77 0)) ≤ 2147483647) (h2 : -2147483648 ≤ (x4 + (V 77 1)) ∧ (x4 + (V 77 1)) ≤ 2147483647) (h3 : -9223372036854775808 ≤ (x5 * (V 77 3)) ∧ (x5 * (V 77 3)) ≤ 9223372036854775807) (h4 : -2147483648 ≤ (x7 + 1) ∧ (x7 + 1) ≤ 2147483647) : ev 92 60 [(2, 0), (0, x1), (0, x2), (0, x3), (0, x4), (1, x5), (9, 0), (0, x7)] [] T V = ev 92 47 [(2, 0), (0, x1), (0, x2), (0, (x3 + (V 77 0))), (0, (x4 + (V 77 1))), (1, (min 1000000000 (x5 * (V 77 3)))), (9, 0), (0, (x7 + 1))] [] T V := by
  refine Eq.trans (ev_ldi (show zcode 92 60 = some (4, 61, 3, 0, []) by decide +kernel) rfl) ?_
  refine Eq.trans (ev_lda (show zcode 92 61 = some (6, 62, 0, 0, []) by decide +kernel) rfl (by decide)) ?_
  refine Eq.trans (ev_gq (show zcode 92 62 = some (56, 65, 11, 8, []) by decide +kernel) (so0 hS) (sp0_8 hS)) ?_
  refine Eq.trans (ev_gi (show zcode 92 65 = some (55, 68, 2, 0, []) by decide +kernel) (so77 hS)) ?_
  refine Eq.trans (ev_add (show zcode 92 68 = some (11, 69, 0, 0, []) by decide +kernel) h1) ?_
  refine Eq.trans (ev_sti (show zcode 92 69 = some (7, 70, 3, 0, []) by decide +kernel) ⟨show 3 < 8 by decide, Or.inr (show ¬ (0 : Nat) = 1 by decide)⟩) ?_
  refine Eq.trans (ev_ldi (show zcode 92 70 = some (4, 72, 4, 0, []) by decide +kernel) rfl) ?_
  refine Eq.trans (ev_lda (show zcode 92 72 = some (6, 73, 0, 0, []) by decide +kernel) rfl (by decide)) ?_
  refine Eq.trans (ev_gq (show zcode 92 73 = some (56, 76, 11, 8, []) by decide +kernel) (so0 hS) (sp0_8 hS)) ?_
  refine Eq.trans (ev_gi (show zcode 92 76 = some (55, 79, 2, 1, []) by decide +kernel) (so77 hS)) ?_
  refine Eq.trans (ev_add (show zcode 92 79 = some (11, 80, 0, 0, []) by decide +kernel) h2) ?_
  refine Eq.trans (ev_sti (show zcode 92 80 = some (7, 82, 4, 0, []) by decide +kernel) ⟨show 4 < 8 by decide, Or.inr (show ¬ (0 : Nat) = 1 by decide)⟩) ?_
  refine Eq.trans (ev_cl (show zcode 92 82 = some (1, 85, 0, 1000000000, []) by decide +kernel) (by decide)) ?_
  refine Eq.trans (ev_ldl (show zcode 92 85 = some (5, 87, 5, 0, []) by decide +kernel) rfl) ?_
  refine Eq.trans (ev_lda (show zcode 92 87 = some (6, 88, 0, 0, []) by decide +kernel) rfl (by decide)) ?_
  refine Eq.trans (ev_gq (show zcode 92 88 = some (56, 91, 11, 8, []) by decide +kernel) (so0 hS) (sp0_8 hS)) ?_
  refine Eq.trans (ev_gi (show zcode 92 91 = some (55, 94, 2, 3, []) by decide +kernel) (so77 hS)) ?_
  refine Eq.trans (ev_i2l (show zcode 92 94 = some (32, 95, 0, 0, []) by decide +kernel)) ?_
  refine Eq.trans (ev_lmul (show zcode 92 95 = some (25, 96, 0, 0, []) by decide +kernel) h3) ?_
  refine Eq.trans (ev_minl (show zcode 92 96 = some (86, 99, 0, 0, []) by decide +kernel) (show 0 ≤ 8 by decide)) ?_
  refine Eq.trans (ev_stl (show zcode 92 99 = some (8, 101, 5, 0, []) by decide +kernel) ⟨show 6 < 8 by decide, Or.inr (show ¬ (0 : Nat) = 1 by decide)⟩) ?_
  refine Eq.trans (ev_inc (show zcode 92 101 = some (10, 104, 7, 1, []) by decide +kernel) rfl h4 (Or.inr (show ¬ (9 : Nat) = 1 by decide))) ?_
  exact ev_goto (show zcode 92 104 = some (53, 107, 47, 0, []) by decide +kernel)
theorem b92_107 {T : zT} {V : zM} {x1 : Int} {x2 : Int} {x3 : Int} {x4 : Int} {x5 : Int} {x7 : Int} : ev 92 107 [(2, 0), (0, x1), (0, x2), (0, x3), (0, x4), (1, x5), (9, 0), (0, x7)] [] T V = if x1 = 0 then ev 92 111 [(2, 0), (0, x1), (0, x2), (0, x3), (0, x4), (1, x5), (9, 0), (0, x7)] [] T V else ev 92 113 [(2, 0), (0, x1), (0, x2), (0, x3), (0, x4), (1, x5), (9, 0), (0, x7)] [] T V := by
  refine Eq.trans (ev_ldi (show zcode 92 107 = some (4, 108, 1, 0, []) by decide +kernel) rfl) ?_
  exact ev_ne (show zcode 92 108 = some (41, 111, 113, 0, []) by decide +kernel)
theorem b92_111 {T : zT} {V : zM} {x1 : Int} {x2 : Int} {x3 : Int} {x4 : Int} {x5 : Int} {x7 : Int} : ev 92 111 [(2, 0), (0, x1), (0, x2), (0, x3), (0, x4), (1, x5), (9, 0), (0, x7)] [] T V = some ((0, x3), T, V) := by
  refine Eq.trans (ev_ldi (show zcode 92 111 = some (4, 112, 3, 0, []) by decide +kernel) rfl) ?_
  exact ev_ri (show zcode 92 112 = some (72, 113, 0, 0, []) by decide +kernel)
theorem b92_113 {T : zT} {V : zM} {x1 : Int} {x2 : Int} {x3 : Int} {x4 : Int} {x5 : Int} {x7 : Int} : ev 92 113 [(2, 0), (0, x1), (0, x2), (0, x3), (0, x4), (1, x5), (9, 0), (0, x7)] [] T V = if x1 = 1 then ev 92 118 [(2, 0), (0, x1), (0, x2), (0, x3), (0, x4), (1, x5), (9, 0), (0, x7)] [] T V else ev 92 123 [(2, 0), (0, x1), (0, x2), (0, x3), (0, x4), (1, x5), (9, 0), (0, x7)] [] T V := by
  refine Eq.trans (ev_ldi (show zcode 92 113 = some (4, 114, 1, 0, []) by decide +kernel) rfl) ?_
  refine Eq.trans (ev_ci (show zcode 92 114 = some (0, 115, 0, 1, []) by decide +kernel) (by decide)) ?_
  exact ev_cne (show zcode 92 115 = some (47, 118, 123, 0, []) by decide +kernel)
theorem b92_118 {T : zT} {V : zM} {x1 : Int} {x2 : Int} {x3 : Int} {x4 : Int} {x5 : Int} {x7 : Int} : ev 92 118 [(2, 0), (0, x1), (0, x2), (0, x3), (0, x4), (1, x5), (9, 0), (0, x7)] [] T V = ev 92 126 [(2, 0), (0, x1), (0, x2), (0, x3), (0, x4), (1, x5), (9, 0), (0, x7)] [(0, x4)] T V := by
  refine Eq.trans (ev_ldi (show zcode 92 118 = some (4, 120, 4, 0, []) by decide +kernel) rfl) ?_
  exact ev_goto (show zcode 92 120 = some (53, 123, 126, 0, []) by decide +kernel)
theorem b92_123 {T : zT} {V : zM} {x1 : Int} {x2 : Int} {x3 : Int} {x4 : Int} {x5 : Int} {x7 : Int} (h1 : -2147483648 ≤ x5 ∧ x5 ≤ 2147483647) : ev 92 123 [(2, 0), (0, x1), (0, x2), (0, x3), (0, x4), (1, x5), (9, 0), (0, x7)] [] T V = ev 92 126 [(2, 0), (0, x1), (0, x2), (0, x3), (0, x4), (1, x5), (9, 0), (0, x7)] [(0, x5)] T V := by
  refine Eq.trans (ev_ldl (show zcode 92 123 = some (5, 125, 5, 0, []) by decide +kernel) rfl) ?_
  exact ev_l2i (show zcode 92 125 = some (33, 126, 0, 0, []) by decide +kernel) h1
theorem b92_126 {T : zT} {V : zM} {x1 : Int} {x2 : Int} {x3 : Int} {x4 : Int} {x5 : Int} {x7 : Int} {y0 : Int} : ev 92 126 [(2, 0), (0, x1), (0, x2), (0, x3), (0, x4), (1, x5), (9, 0), (0, x7)] [(0, y0)] T V = some ((0, y0), T, V) := by
  exact ev_ri (show zcode 92 126 = some (72, 127, 0, 0, []) by decide +kernel)
/-! 93: TwoWayWall.findNearest(II)V -/
theorem e93 {T : zT} {V : zM} {x1 : Int} {x2 : Int} : zcall 93 [(2, 0), (0, x1), (0, x2)] T V = ev 93 0 [(2, 0), (0, x1), (0, x2)] [] T V := rfl
theorem b93_0 {T : zT} {V : zM} {x1 : Int} {x2 : Int} (hS : zStr T) (h1 : (0 : Int) ≤ x1 ∧ x1 < 16) (h2 : -2147483648 ≤ (x2 - 1) ∧ (x2 - 1) ≤ 2147483647) (h3 : -2147483648 ≤ ((x2 - 1) - x1) ∧ ((x2 - 1) - x1) ≤ 2147483647) (h4 : (0 : Int) ≤ ((x2 - 1) - x1) ∧ ((x2 - 1) - x1) < 16) : ev 93 0 [(2, 0), (0, x1), (0, x2)] [] T V = (zcall 94 [(2, 77), (2, 65), (0, (V 12 x1)), (0, (V 20 ((x2 - 1) - x1)))] T V).bind fun x => ev 93 39 [(2, 0), (0, x1), (0, x2)] (z_push x.1 []) x.2.1 x.2.2 := by
  refine Eq.trans (ev_lda (show zcode 93 0 = some (6, 1, 0, 0, []) by decide +kernel) rfl (by decide)) ?_
  refine Eq.trans (ev_gq (show zcode 93 1 = some (56, 4, 11, 8, []) by decide +kernel) (so0 hS) (sp0_8 hS)) ?_
  refine Eq.trans (ev_lda (show zcode 93 4 = some (6, 5, 0, 0, []) by decide +kernel) rfl (by decide)) ?_
  refine Eq.trans (ev_gq (show zcode 93 5 = some (56, 8, 11, 6, []) by decide +kernel) (so0 hS) (sp0_6 hS)) ?_
  refine Eq.trans (ev_lda (show zcode 93 8 = some (6, 9, 0, 0, []) by decide +kernel) rfl (by decide)) ?_
  refine Eq.trans (ev_gq (show zcode 93 9 = some (56, 12, 11, 0, []) by decide +kernel) (so0 hS) (sp0_0 hS)) ?_
  refine Eq.trans (ev_gq (show zcode 93 12 = some (56, 15, 6, 5, []) by decide +kernel) (so1 hS) (sp1_5 hS)) ?_
  refine Eq.trans (ev_gq (show zcode 93 15 = some (56, 18, 9, 6, []) by decide +kernel) (so6 hS) (sp6_6 hS)) ?_
  refine Eq.trans (ev_ldi (show zcode 93 18 = some (4, 19, 1, 0, []) by decide +kernel) rfl) ?_
  refine Eq.trans (ev_ia (show zcode 93 19 = some (60, 20, 0, 0, []) by decide +kernel) (sa12 hS) h1) ?_
  refine Eq.trans (ev_lda (show zcode 93 20 = some (6, 21, 0, 0, []) by decide +kernel) rfl (by decide)) ?_
  refine Eq.trans (ev_gq (show zcode 93 21 = some (56, 24, 11, 0, []) by decide +kernel) (so0 hS) (sp0_0 hS)) ?_
  refine Eq.trans (ev_gq (show zcode 93 24 = some (56, 27, 6, 6, []) by decide +kernel) (so1 hS) (sp1_6 hS)) ?_
  refine Eq.trans (ev_gq (show zcode 93 27 = some (56, 30, 9, 6, []) by decide +kernel) (so14 hS) (sp14_6 hS)) ?_
  refine Eq.trans (ev_ldi (show zcode 93 30 = some (4, 31, 2, 0, []) by decide +kernel) rfl) ?_
  refine Eq.trans (ev_ci (show zcode 93 31 = some (0, 32, 0, 1, []) by decide +kernel) (by decide)) ?_
  refine Eq.trans (ev_sub (show zcode 93 32 = some (12, 33, 0, 0, []) by decide +kernel) h2) ?_
  refine Eq.trans (ev_ldi (show zcode 93 33 = some (4, 34, 1, 0, []) by decide +kernel) rfl) ?_
  refine Eq.trans (ev_sub (show zcode 93 34 = some (12, 35, 0, 0, []) by decide +kernel) h3) ?_
  refine Eq.trans (ev_ia (show zcode 93 35 = some (60, 36, 0, 0, []) by decide +kernel) (sa20 hS) h4) ?_
  exact ev_cvirt (show zcode 93 36 = some (76, 39, 94, 4, [2]) by decide +kernel) (args := [(2, 65), (0, (V 12 x1)), (0, (V 20 ((x2 - 1) - x1)))]) (rest := []) rfl (so77 hS) rfl (show 0 ≤ 8 by decide) ⟨by decide, show 4 ≤ 7 by decide⟩
theorem b93_39 {T : zT} {V : zM} {x1 : Int} {x2 : Int} : ev 93 39 [(2, 0), (0, x1), (0, x2)] [] T V = some ((9, 0), T, V) := by
  exact ev_rn (show zcode 93 39 = some (73, 40, 0, 0, []) by decide +kernel)
/-! 97: TwoWayWall.nearAt(I)I -/
theorem e97 {T : zT} {V : zM} {x1 : Int} : zcall 97 [(2, 0), (0, x1)] T V = ev 97 0 [(2, 0), (0, x1), (9, 0)] [] T V := rfl
theorem b97_0 {T : zT} {V : zM} {x1 : Int} (hS : zStr T)  : ev 97 0 [(2, 0), (0, x1), (9, 0)] [] T V = if (V 6 7) = (V 14 7) then ev 97 25 [(2, 0), (0, x1), (0, (V 6 7))] [] T V else ev 97 34 [(2, 0), (0, x1), (0, (V 6 7))] [] T V := by
  refine Eq.trans (ev_lda (show zcode 97 0 = some (6, 1, 0, 0, []) by decide +kernel) rfl (by decide)) ?_
  refine Eq.trans (ev_gq (show zcode 97 1 = some (56, 4, 11, 0, []) by decide +kernel) (so0 hS) (sp0_0 hS)) ?_
  refine Eq.trans (ev_gq (show zcode 97 4 = some (56, 7, 6, 5, []) by decide +kernel) (so1 hS) (sp1_5 hS)) ?_
  refine Eq.trans (ev_gi (show zcode 97 7 = some (55, 10, 9, 7, []) by decide +kernel) (so6 hS)) ?_
  refine Eq.trans (ev_sti (show zcode 97 10 = some (7, 11, 2, 0, []) by decide +kernel) ⟨show 2 < 3 by decide, Or.inr (show ¬ (0 : Nat) = 1 by decide)⟩) ?_
  refine Eq.trans (ev_ldi (show zcode 97 11 = some (4, 12, 2, 0, []) by decide +kernel) rfl) ?_
  refine Eq.trans (ev_lda (show zcode 97 12 = some (6, 13, 0, 0, []) by decide +kernel) rfl (by decide)) ?_
  refine Eq.trans (ev_gq (show zcode 97 13 = some (56, 16, 11, 0, []) by decide +kernel) (so0 hS) (sp0_0 hS)) ?_
  refine Eq.trans (ev_gq (show zcode 97 16 = some (56, 19, 6, 6, []) by decide +kernel) (so1 hS) (sp1_6 hS)) ?_
  refine Eq.trans (ev_gi (show zcode 97 19 = some (55, 22, 9, 7, []) by decide +kernel) (so14 hS)) ?_
  exact ev_cne (show zcode 97 22 = some (47, 25, 34, 0, []) by decide +kernel)
theorem b97_25 {T : zT} {V : zM} {x1 : Int} {x2 : Int} : ev 97 25 [(2, 0), (0, x1), (0, x2)] [] T V = if x1 < 0 then ev 97 34 [(2, 0), (0, x1), (0, x2)] [] T V else ev 97 29 [(2, 0), (0, x1), (0, x2)] [] T V := by
  refine Eq.trans (ev_ldi (show zcode 97 25 = some (4, 26, 1, 0, []) by decide +kernel) rfl) ?_
  exact ev_lt (show zcode 97 26 = some (42, 29, 34, 0, []) by decide +kernel)
theorem b97_29 {T : zT} {V : zM} {x1 : Int} {x2 : Int} : ev 97 29 [(2, 0), (0, x1), (0, x2)] [] T V = if x1 < x2 then ev 97 36 [(2, 0), (0, x1), (0, x2)] [] T V else ev 97 34 [(2, 0), (0, x1), (0, x2)] [] T V := by
  refine Eq.trans (ev_ldi (show zcode 97 29 = some (4, 30, 1, 0, []) by decide +kernel) rfl) ?_
  refine Eq.trans (ev_ldi (show zcode 97 30 = some (4, 31, 2, 0, []) by decide +kernel) rfl) ?_
  exact ev_clt (show zcode 97 31 = some (48, 34, 36, 0, []) by decide +kernel)
theorem b97_34 {T : zT} {V : zM} {x1 : Int} {x2 : Int} : ev 97 34 [(2, 0), (0, x1), (0, x2)] [] T V = some ((0, (-1)), T, V) := by
  refine Eq.trans (ev_ci (show zcode 97 34 = some (0, 35, 0, (-1), []) by decide +kernel) (by decide)) ?_
  exact ev_ri (show zcode 97 35 = some (72, 36, 0, 0, []) by decide +kernel)
theorem b97_36 {T : zT} {V : zM} {x1 : Int} {x2 : Int} (hS : zStr T)  : ev 97 36 [(2, 0), (0, x1), (0, x2)] [] T V = (zcall 93 [(2, 0), (0, x1), (0, x2)] T V).bind fun x => ev 97 42 [(2, 0), (0, x1), (0, x2)] (z_push x.1 []) x.2.1 x.2.2 := by
  refine Eq.trans (ev_lda (show zcode 97 36 = some (6, 37, 0, 0, []) by decide +kernel) rfl (by decide)) ?_
  refine Eq.trans (ev_ldi (show zcode 97 37 = some (4, 38, 1, 0, []) by decide +kernel) rfl) ?_
  refine Eq.trans (ev_ldi (show zcode 97 38 = some (4, 39, 2, 0, []) by decide +kernel) rfl) ?_
  exact ev_cvirt (show zcode 97 39 = some (76, 42, 93, 3, [11]) by decide +kernel) (args := [(0, x1), (0, x2)]) (rest := []) rfl (so0 hS) rfl (show 0 ≤ 8 by decide) ⟨by decide, show 3 ≤ 3 by decide⟩
theorem b97_42 {T : zT} {V : zM} {x1 : Int} {x2 : Int} (hS : zStr T)  : ev 97 42 [(2, 0), (0, x1), (0, x2)] [] T V = some ((0, (V 77 2)), T, V) := by
  refine Eq.trans (ev_lda (show zcode 97 42 = some (6, 43, 0, 0, []) by decide +kernel) rfl (by decide)) ?_
  refine Eq.trans (ev_gq (show zcode 97 43 = some (56, 46, 11, 8, []) by decide +kernel) (so0 hS) (sp0_8 hS)) ?_
  refine Eq.trans (ev_gi (show zcode 97 46 = some (55, 49, 2, 2, []) by decide +kernel) (so77 hS)) ?_
  exact ev_ri (show zcode 97 49 = some (72, 50, 0, 0, []) by decide +kernel)
/-! 98: TwoWayWall.mean(II)I -/
theorem e98 {T : zT} {V : zM} {x1 : Int} {x2 : Int} : zcall 98 [(2, 0), (0, x1), (0, x2)] T V = ev 98 0 [(2, 0), (0, x1), (0, x2), (9, 0)] [] T V := rfl
theorem b98_0 {T : zT} {V : zM} {x1 : Int} {x2 : Int} : ev 98 0 [(2, 0), (0, x1), (0, x2), (9, 0)] [] T V = (zcall 72 [(0, x1)] T V).bind fun x => ev 98 4 [(2, 0), (0, x1), (0, x2), (9, 0)] (z_push x.1 []) x.2.1 x.2.2 := by
  refine Eq.trans (ev_ldi (show zcode 98 0 = some (4, 1, 1, 0, []) by decide +kernel) rfl) ?_
  exact ev_cstat (show zcode 98 1 = some (74, 4, 72, 1, []) by decide +kernel) (args := [(0, x1)]) (rest := []) rfl rfl (show 0 ≤ 8 by decide) ⟨by decide, show 1 ≤ 1 by decide⟩
theorem b98_4 {T : zT} {V : zM} {x1 : Int} {x2 : Int} {y0 : Int} : ev 98 4 [(2, 0), (0, x1), (0, x2), (9, 0)] [(0, y0)] T V = if y0 = 0 then ev 98 17 [(2, 0), (0, x1), (0, x2), (9, 0)] [] T V else ev 98 7 [(2, 0), (0, x1), (0, x2), (9, 0)] [] T V := by
  exact ev_eq (show zcode 98 4 = some (40, 7, 17, 0, []) by decide +kernel)
theorem b98_7 {T : zT} {V : zM} {x1 : Int} {x2 : Int} : ev 98 7 [(2, 0), (0, x1), (0, x2), (9, 0)] [] T V = if x2 < 0 then ev 98 17 [(2, 0), (0, x1), (0, x2), (9, 0)] [] T V else ev 98 11 [(2, 0), (0, x1), (0, x2), (9, 0)] [] T V := by
  refine Eq.trans (ev_ldi (show zcode 98 7 = some (4, 8, 2, 0, []) by decide +kernel) rfl) ?_
  exact ev_lt (show zcode 98 8 = some (42, 11, 17, 0, []) by decide +kernel)
theorem b98_11 {T : zT} {V : zM} {x1 : Int} {x2 : Int} : ev 98 11 [(2, 0), (0, x1), (0, x2), (9, 0)] [] T V = if x2 < 8 then ev 98 23 [(2, 0), (0, x1), (0, x2), (9, 0)] [] T V else ev 98 17 [(2, 0), (0, x1), (0, x2), (9, 0)] [] T V := by
  refine Eq.trans (ev_ldi (show zcode 98 11 = some (4, 12, 2, 0, []) by decide +kernel) rfl) ?_
  refine Eq.trans (ev_ci (show zcode 98 12 = some (0, 14, 0, 8, []) by decide +kernel) (by decide)) ?_
  exact ev_clt (show zcode 98 14 = some (48, 17, 23, 0, []) by decide +kernel)
theorem b98_17 {T : zT} {V : zM} {x1 : Int} {x2 : Int} (hS : zStr T)  : ev 98 17 [(2, 0), (0, x1), (0, x2), (9, 0)] [] T V = (zcall 24 [(2, 0), (0, (-1))] T V).bind fun x => ev 98 22 [(2, 0), (0, x1), (0, x2), (9, 0)] (z_push x.1 []) x.2.1 x.2.2 := by
  refine Eq.trans (ev_lda (show zcode 98 17 = some (6, 18, 0, 0, []) by decide +kernel) rfl (by decide)) ?_
  refine Eq.trans (ev_ci (show zcode 98 18 = some (0, 19, 0, (-1), []) by decide +kernel) (by decide)) ?_
  exact ev_cvirt (show zcode 98 19 = some (76, 22, 24, 2, [11]) by decide +kernel) (args := [(0, (-1))]) (rest := []) rfl (so0 hS) rfl (show 0 ≤ 8 by decide) ⟨by decide, show 2 ≤ 2 by decide⟩
theorem b98_22 {T : zT} {V : zM} {x1 : Int} {x2 : Int} {y0 : Int} : ev 98 22 [(2, 0), (0, x1), (0, x2), (9, 0)] [(0, y0)] T V = some ((0, y0), T, V) := by
  exact ev_ri (show zcode 98 22 = some (72, 23, 0, 0, []) by decide +kernel)
theorem b98_23 {T : zT} {V : zM} {x1 : Int} {x2 : Int} (hS : zStr T)  : ev 98 23 [(2, 0), (0, x1), (0, x2), (9, 0)] [] T V = (zcall 74 [(2, 1), (0, x1)] T V).bind fun x => ev 98 31 [(2, 0), (0, x1), (0, x2), (9, 0)] (z_push x.1 []) x.2.1 x.2.2 := by
  refine Eq.trans (ev_lda (show zcode 98 23 = some (6, 24, 0, 0, []) by decide +kernel) rfl (by decide)) ?_
  refine Eq.trans (ev_gq (show zcode 98 24 = some (56, 27, 11, 0, []) by decide +kernel) (so0 hS) (sp0_0 hS)) ?_
  refine Eq.trans (ev_ldi (show zcode 98 27 = some (4, 28, 1, 0, []) by decide +kernel) rfl) ?_
  exact ev_cvirt (show zcode 98 28 = some (76, 31, 74, 2, [6]) by decide +kernel) (args := [(0, x1)]) (rest := []) rfl (so1 hS) rfl (show 0 ≤ 8 by decide) ⟨by decide, show 2 ≤ 2 by decide⟩
theorem b98_31 {T : zT} {V : zM} {x1 : Int} {x2 : Int} {p0 : Int} (h1 : zTongue T p0) : ev 98 31 [(2, 0), (0, x1), (0, x2), (9, 0)] [(2, p0)] T V = if (V p0 9) < 4 then ev 98 47 [(2, 0), (0, x1), (0, x2), (2, p0)] [] T V else ev 98 40 [(2, 0), (0, x1), (0, x2), (2, p0)] [] T V := by
  refine Eq.trans (ev_sta (show zcode 98 31 = some (9, 32, 3, 0, []) by decide +kernel) ⟨show 3 < 4 by decide, Or.inr (show ¬ (0 : Nat) = 1 by decide)⟩) ?_
  refine Eq.trans (ev_lda (show zcode 98 32 = some (6, 33, 3, 0, []) by decide +kernel) rfl (by decide)) ?_
  refine Eq.trans (ev_gi (show zcode 98 33 = some (55, 36, 9, 9, []) by decide +kernel) h1.o) ?_
  refine Eq.trans (ev_ci (show zcode 98 36 = some (0, 37, 0, 4, []) by decide +kernel) (by decide)) ?_
  exact ev_clt (show zcode 98 37 = some (48, 40, 47, 0, []) by decide +kernel)
theorem b98_40 {T : zT} {V : zM} {x1 : Int} {x2 : Int} {q3 : Int} (hS : zStr T)  : ev 98 40 [(2, 0), (0, x1), (0, x2), (2, q3)] [] T V = (zcall 24 [(2, 0), (0, (-5))] T V).bind fun x => ev 98 46 [(2, 0), (0, x1), (0, x2), (2, q3)] (z_push x.1 []) x.2.1 x.2.2 := by
  refine Eq.trans (ev_lda (show zcode 98 40 = some (6, 41, 0, 0, []) by decide +kernel) rfl (by decide)) ?_
  refine Eq.trans (ev_ci (show zcode 98 41 = some (0, 43, 0, (-5), []) by decide +kernel) (by decide)) ?_
  exact ev_cvirt (show zcode 98 43 = some (76, 46, 24, 2, [11]) by decide +kernel) (args := [(0, (-5))]) (rest := []) rfl (so0 hS) rfl (show 0 ≤ 8 by decide) ⟨by decide, show 2 ≤ 2 by decide⟩
theorem b98_46 {T : zT} {V : zM} {x1 : Int} {x2 : Int} {q3 : Int} {y0 : Int} : ev 98 46 [(2, 0), (0, x1), (0, x2), (2, q3)] [(0, y0)] T V = some ((0, y0), T, V) := by
  exact ev_ri (show zcode 98 46 = some (72, 47, 0, 0, []) by decide +kernel)
theorem b98_47 {T : zT} {V : zM} {x1 : Int} {x2 : Int} {q3 : Int} (hS : zStr T) (h1 : zTongue T q3) (h2 : (0 : Int) ≤ (V q3 9) ∧ (V q3 9) < 4) (h3 : -2147483648 ≤ (((zwr V (q3 + 7) (V q3 9) x2) q3 9) + 1) ∧ (((zwr V (q3 + 7) (V q3 9) x2) q3 9) + 1) ≤ 2147483647) : ev 98 47 [(2, 0), (0, x1), (0, x2), (2, q3)] [] T V = (zcall 26 [(2, 0), (0, ((zwr (zwr (zwr V (q3 + 7) (V q3 9) x2) q3 9 (((zwr V (q3 + 7) (V q3 9) x2) q3 9) + 1)) 0 14 0) q3 9))] T (zwr (zwr (zwr V (q3 + 7) (V q3 9) x2) q3 9 (((zwr V (q3 + 7) (V q3 9) x2) q3 9) + 1)) 0 14 0)).bind fun x => ev 98 80 [(2, 0), (0, x1), (0, x2), (2, q3)] (z_push x.1 []) x.2.1 x.2.2 := by
  refine Eq.trans (ev_lda (show zcode 98 47 = some (6, 48, 3, 0, []) by decide +kernel) rfl (by decide)) ?_
  refine Eq.trans (ev_gq (show zcode 98 48 = some (56, 51, 9, 8, []) by decide +kernel) h1.o h1.p8) ?_
  refine Eq.trans (ev_lda (show zcode 98 51 = some (6, 52, 3, 0, []) by decide +kernel) rfl (by decide)) ?_
  refine Eq.trans (ev_gi (show zcode 98 52 = some (55, 55, 9, 9, []) by decide +kernel) h1.o) ?_
  refine Eq.trans (ev_ldi (show zcode 98 55 = some (4, 56, 2, 0, []) by decide +kernel) rfl) ?_
  refine Eq.trans (ev_is (show zcode 98 56 = some (64, 57, 0, 0, []) by decide +kernel) h1.a7 h2) ?_
  refine Eq.trans (ev_lda (show zcode 98 57 = some (6, 58, 3, 0, []) by decide +kernel) rfl (by decide)) ?_
  refine Eq.trans (ev_dup (show zcode 98 58 = some (36, 59, 0, 0, []) by decide +kernel) (by decide)) ?_
  refine Eq.trans (ev_gi (show zcode 98 59 = some (55, 62, 9, 9, []) by decide +kernel) h1.o) ?_
  refine Eq.trans (ev_ci (show zcode 98 62 = some (0, 63, 0, 1, []) by decide +kernel) (by decide)) ?_
  refine Eq.trans (ev_add (show zcode 98 63 = some (11, 64, 0, 0, []) by decide +kernel) h3) ?_
  refine Eq.trans (ev_pi (show zcode 98 64 = some (57, 67, 9, 9, []) by decide +kernel) h1.o) ?_
  refine Eq.trans (ev_lda (show zcode 98 67 = some (6, 68, 0, 0, []) by decide +kernel) rfl (by decide)) ?_
  refine Eq.trans (ev_ci (show zcode 98 68 = some (0, 69, 0, 0, []) by decide +kernel) (by decide)) ?_
  refine Eq.trans (ev_pz (show zcode 98 69 = some (58, 72, 11, 14, []) by decide +kernel) (so0 hS) (by decide)) ?_
  refine Eq.trans (ev_lda (show zcode 98 72 = some (6, 73, 0, 0, []) by decide +kernel) rfl (by decide)) ?_
  refine Eq.trans (ev_lda (show zcode 98 73 = some (6, 74, 3, 0, []) by decide +kernel) rfl (by decide)) ?_
  refine Eq.trans (ev_gi (show zcode 98 74 = some (55, 77, 9, 9, []) by decide +kernel) h1.o) ?_
  exact ev_cvirt (show zcode 98 77 = some (76, 80, 26, 2, [11]) by decide +kernel) (args := [(0, ((zwr (zwr (zwr V (q3 + 7) (V q3 9) x2) q3 9 (((zwr V (q3 + 7) (V q3 9) x2) q3 9) + 1)) 0 14 0) q3 9))]) (rest := []) rfl (so0 hS) rfl (show 0 ≤ 8 by decide) ⟨by decide, show 2 ≤ 2 by decide⟩
theorem b98_80 {T : zT} {V : zM} {x1 : Int} {x2 : Int} {q3 : Int} {y0 : Int} : ev 98 80 [(2, 0), (0, x1), (0, x2), (2, q3)] [(0, y0)] T V = some ((0, y0), T, V) := by
  exact ev_ri (show zcode 98 80 = some (72, 81, 0, 0, []) by decide +kernel)
/-! 99: TwoWayWall.forget(I)I -/
theorem e99 {T : zT} {V : zM} {x1 : Int} : zcall 99 [(2, 0), (0, x1)] T V = ev 99 0 [(2, 0), (0, x1), (9, 0)] [] T V := rfl
theorem b99_0 {T : zT} {V : zM} {x1 : Int} : ev 99 0 [(2, 0), (0, x1), (9, 0)] [] T V = (zcall 72 [(0, x1)] T V).bind fun x => ev 99 4 [(2, 0), (0, x1), (9, 0)] (z_push x.1 []) x.2.1 x.2.2 := by
  refine Eq.trans (ev_ldi (show zcode 99 0 = some (4, 1, 1, 0, []) by decide +kernel) rfl) ?_
  exact ev_cstat (show zcode 99 1 = some (74, 4, 72, 1, []) by decide +kernel) (args := [(0, x1)]) (rest := []) rfl rfl (show 0 ≤ 8 by decide) ⟨by decide, show 1 ≤ 1 by decide⟩
theorem b99_4 {T : zT} {V : zM} {x1 : Int} {y0 : Int} : ev 99 4 [(2, 0), (0, x1), (9, 0)] [(0, y0)] T V = if y0 = 0 then ev 99 7 [(2, 0), (0, x1), (9, 0)] [] T V else ev 99 13 [(2, 0), (0, x1), (9, 0)] [] T V := by
  exact ev_ne (show zcode 99 4 = some (41, 7, 13, 0, []) by decide +kernel)
theorem b99_7 {T : zT} {V : zM} {x1 : Int} (hS : zStr T)  : ev 99 7 [(2, 0), (0, x1), (9, 0)] [] T V = (zcall 24 [(2, 0), (0, (-1))] T V).bind fun x => ev 99 12 [(2, 0), (0, x1), (9, 0)] (z_push x.1 []) x.2.1 x.2.2 := by
  refine Eq.trans (ev_lda (show zcode 99 7 = some (6, 8, 0, 0, []) by decide +kernel) rfl (by decide)) ?_
  refine Eq.trans (ev_ci (show zcode 99 8 = some (0, 9, 0, (-1), []) by decide +kernel) (by decide)) ?_
  exact ev_cvirt (show zcode 99 9 = some (76, 12, 24, 2, [11]) by decide +kernel) (args := [(0, (-1))]) (rest := []) rfl (so0 hS) rfl (show 0 ≤ 8 by decide) ⟨by decide, show 2 ≤ 2 by decide⟩
theorem b99_12 {T : zT} {V : zM} {x1 : Int} {y0 : Int} : ev 99 12 [(2, 0), (0, x1), (9, 0)] [(0, y0)] T V = some ((0, y0), T, V) := by
  exact ev_ri (show zcode 99 12 = some (72, 13, 0, 0, []) by decide +kernel)
theorem b99_13 {T : zT} {V : zM} {x1 : Int} (hS : zStr T)  : ev 99 13 [(2, 0), (0, x1), (9, 0)] [] T V = (zcall 74 [(2, 1), (0, x1)] T V).bind fun x => ev 99 21 [(2, 0), (0, x1), (9, 0)] (z_push x.1 []) x.2.1 x.2.2 := by
  refine Eq.trans (ev_lda (show zcode 99 13 = some (6, 14, 0, 0, []) by decide +kernel) rfl (by decide)) ?_
  refine Eq.trans (ev_gq (show zcode 99 14 = some (56, 17, 11, 0, []) by decide +kernel) (so0 hS) (sp0_0 hS)) ?_
  refine Eq.trans (ev_ldi (show zcode 99 17 = some (4, 18, 1, 0, []) by decide +kernel) rfl) ?_
  exact ev_cvirt (show zcode 99 18 = some (76, 21, 74, 2, [6]) by decide +kernel) (args := [(0, x1)]) (rest := []) rfl (so1 hS) rfl (show 0 ≤ 8 by decide) ⟨by decide, show 2 ≤ 2 by decide⟩
theorem b99_21 {T : zT} {V : zM} {x1 : Int} {p0 : Int} (hS : zStr T) (h1 : zTongue T p0) : ev 99 21 [(2, 0), (0, x1), (9, 0)] [(2, p0)] T V = (zcall 74 [(2, 1), (0, x1)] T V).bind fun x => ev 99 33 [(2, 0), (0, x1), (0, (V p0 9))] (z_push x.1 []) x.2.1 x.2.2 := by
  refine Eq.trans (ev_gi (show zcode 99 21 = some (55, 24, 9, 9, []) by decide +kernel) h1.o) ?_
  refine Eq.trans (ev_sti (show zcode 99 24 = some (7, 25, 2, 0, []) by decide +kernel) ⟨show 2 < 3 by decide, Or.inr (show ¬ (0 : Nat) = 1 by decide)⟩) ?_
  refine Eq.trans (ev_lda (show zcode 99 25 = some (6, 26, 0, 0, []) by decide +kernel) rfl (by decide)) ?_
  refine Eq.trans (ev_gq (show zcode 99 26 = some (56, 29, 11, 0, []) by decide +kernel) (so0 hS) (sp0_0 hS)) ?_
  refine Eq.trans (ev_ldi (show zcode 99 29 = some (4, 30, 1, 0, []) by decide +kernel) rfl) ?_
  exact ev_cvirt (show zcode 99 30 = some (76, 33, 74, 2, [6]) by decide +kernel) (args := [(0, x1)]) (rest := []) rfl (so1 hS) rfl (show 0 ≤ 8 by decide) ⟨by decide, show 2 ≤ 2 by decide⟩
theorem b99_33 {T : zT} {V : zM} {x1 : Int} {x2 : Int} {p0 : Int} (hS : zStr T) (h1 : zTongue T p0) : ev 99 33 [(2, 0), (0, x1), (0, x2)] [(2, p0)] T V = (zcall 26 [(2, 0), (0, x2)] T (zwr (zwr V p0 9 0) 0 14 0)).bind fun x => ev 99 47 [(2, 0), (0, x1), (0, x2)] (z_push x.1 []) x.2.1 x.2.2 := by
  refine Eq.trans (ev_ci (show zcode 99 33 = some (0, 34, 0, 0, []) by decide +kernel) (by decide)) ?_
  refine Eq.trans (ev_pi (show zcode 99 34 = some (57, 37, 9, 9, []) by decide +kernel) h1.o) ?_
  refine Eq.trans (ev_lda (show zcode 99 37 = some (6, 38, 0, 0, []) by decide +kernel) rfl (by decide)) ?_
  refine Eq.trans (ev_ci (show zcode 99 38 = some (0, 39, 0, 0, []) by decide +kernel) (by decide)) ?_
  refine Eq.trans (ev_pz (show zcode 99 39 = some (58, 42, 11, 14, []) by decide +kernel) (so0 hS) (by decide)) ?_
  refine Eq.trans (ev_lda (show zcode 99 42 = some (6, 43, 0, 0, []) by decide +kernel) rfl (by decide)) ?_
  refine Eq.trans (ev_ldi (show zcode 99 43 = some (4, 44, 2, 0, []) by decide +kernel) rfl) ?_
  exact ev_cvirt (show zcode 99 44 = some (76, 47, 26, 2, [11]) by decide +kernel) (args := [(0, x2)]) (rest := []) rfl (so0 hS) rfl (show 0 ≤ 8 by decide) ⟨by decide, show 2 ≤ 2 by decide⟩
theorem b99_47 {T : zT} {V : zM} {x1 : Int} {x2 : Int} {y0 : Int} : ev 99 47 [(2, 0), (0, x1), (0, x2)] [(0, y0)] T V = some ((0, y0), T, V) := by
  exact ev_ri (show zcode 99 47 = some (72, 48, 0, 0, []) by decide +kernel)
/-! 100: TwoWayWall.tells()J -/
theorem e100 {T : zT} {V : zM}  : zcall 100 [(2, 0)] T V = ev 100 0 [(2, 0)] [] T V := rfl
theorem b100_0 {T : zT} {V : zM}  (hS : zStr T)  : ev 100 0 [(2, 0)] [] T V = (zcall 101 [(2, 0)] T V).bind fun x => ev 100 4 [(2, 0)] (z_push x.1 []) x.2.1 x.2.2 := by
  refine Eq.trans (ev_lda (show zcode 100 0 = some (6, 1, 0, 0, []) by decide +kernel) rfl (by decide)) ?_
  exact ev_cvirt (show zcode 100 1 = some (76, 4, 101, 1, [11]) by decide +kernel) (args := []) (rest := []) rfl (so0 hS) rfl (show 0 ≤ 8 by decide) ⟨by decide, show 1 ≤ 2 by decide⟩
theorem b100_4 {T : zT} {V : zM}  (hS : zStr T) (h1 : (0 : Int) ≤ (V 1 0) ∧ (V 1 0) < 17) : ev 100 4 [(2, 0)] [] T V = some ((1, (V 115 (V 1 0))), T, V) := by
  refine Eq.trans (ev_lda (show zcode 100 4 = some (6, 5, 0, 0, []) by decide +kernel) rfl (by decide)) ?_
  refine Eq.trans (ev_gq (show zcode 100 5 = some (56, 8, 11, 10, []) by decide +kernel) (so0 hS) (sp0_10 hS)) ?_
  refine Eq.trans (ev_gq (show zcode 100 8 = some (56, 11, 1, 3, []) by decide +kernel) (so112 hS) (sp112_3 hS)) ?_
  refine Eq.trans (ev_lda (show zcode 100 11 = some (6, 12, 0, 0, []) by decide +kernel) rfl (by decide)) ?_
  refine Eq.trans (ev_gq (show zcode 100 12 = some (56, 15, 11, 0, []) by decide +kernel) (so0 hS) (sp0_0 hS)) ?_
  refine Eq.trans (ev_gi (show zcode 100 15 = some (55, 18, 6, 0, []) by decide +kernel) (so1 hS)) ?_
  refine Eq.trans (ev_la (show zcode 100 18 = some (61, 19, 0, 0, []) by decide +kernel) (sa115 hS) h1) ?_
  exact ev_rl (show zcode 100 19 = some (72, 20, 1, 0, []) by decide +kernel)
/-! 101: TwoWayWall.findTellings()V -/
theorem e101 {T : zT} {V : zM}  : zcall 101 [(2, 0)] T V = ev 101 0 [(2, 0), (9, 0)] [] T V := rfl
theorem b101_0 {T : zT} {V : zM}  (hS : zStr T)  : ev 101 0 [(2, 0), (9, 0)] [] T V = if (V 0 14) = 0 then ev 101 8 [(2, 0), (9, 0)] [] T V else ev 101 7 [(2, 0), (9, 0)] [] T V := by
  refine Eq.trans (ev_lda (show zcode 101 0 = some (6, 1, 0, 0, []) by decide +kernel) rfl (by decide)) ?_
  refine Eq.trans (ev_gi (show zcode 101 1 = some (55, 4, 11, 14, []) by decide +kernel) (so0 hS)) ?_
  exact ev_eq (show zcode 101 4 = some (40, 7, 8, 0, []) by decide +kernel)
theorem b101_7 {T : zT} {V : zM}  : ev 101 7 [(2, 0), (9, 0)] [] T V = some ((9, 0), T, V) := by
  exact ev_rn (show zcode 101 7 = some (73, 8, 0, 0, []) by decide +kernel)
theorem b101_8 {T : zT} {V : zM}  (hS : zStr T)  : ev 101 8 [(2, 0), (9, 0)] [] T V = (zcall 102 [(2, 79), (2, 6), (0, 0)] T V).bind fun x => ev 101 26 [(2, 0), (9, 0)] (z_push x.1 []) x.2.1 x.2.2 := by
  refine Eq.trans (ev_lda (show zcode 101 8 = some (6, 9, 0, 0, []) by decide +kernel) rfl (by decide)) ?_
  refine Eq.trans (ev_gq (show zcode 101 9 = some (56, 12, 11, 9, []) by decide +kernel) (so0 hS) (sp0_9 hS)) ?_
  refine Eq.trans (ev_gq (show zcode 101 12 = some (56, 15, 0, 0, []) by decide +kernel) (so78 hS) (sp78_0 hS)) ?_
  refine Eq.trans (ev_lda (show zcode 101 15 = some (6, 16, 0, 0, []) by decide +kernel) rfl (by decide)) ?_
  refine Eq.trans (ev_gq (show zcode 101 16 = some (56, 19, 11, 0, []) by decide +kernel) (so0 hS) (sp0_0 hS)) ?_
  refine Eq.trans (ev_gq (show zcode 101 19 = some (56, 22, 6, 5, []) by decide +kernel) (so1 hS) (sp1_5 hS)) ?_
  refine Eq.trans (ev_ci (show zcode 101 22 = some (0, 23, 0, 0, []) by decide +kernel) (by decide)) ?_
  exact ev_cvirt (show zcode 101 23 = some (76, 26, 102, 3, [5]) by decide +kernel) (args := [(2, 6), (0, 0)]) (rest := []) rfl (so79 hS) rfl (show 0 ≤ 8 by decide) ⟨by decide, show 3 ≤ 9 by decide⟩
theorem b101_26 {T : zT} {V : zM}  (hS : zStr T)  : ev 101 26 [(2, 0), (9, 0)] [] T V = (zcall 102 [(2, 87), (2, 14), (0, 1)] T V).bind fun x => ev 101 44 [(2, 0), (9, 0)] (z_push x.1 []) x.2.1 x.2.2 := by
  refine Eq.trans (ev_lda (show zcode 101 26 = some (6, 27, 0, 0, []) by decide +kernel) rfl (by decide)) ?_
  refine Eq.trans (ev_gq (show zcode 101 27 = some (56, 30, 11, 9, []) by decide +kernel) (so0 hS) (sp0_9 hS)) ?_
  refine Eq.trans (ev_gq (show zcode 101 30 = some (56, 33, 0, 1, []) by decide +kernel) (so78 hS) (sp78_1 hS)) ?_
  refine Eq.trans (ev_lda (show zcode 101 33 = some (6, 34, 0, 0, []) by decide +kernel) rfl (by decide)) ?_
  refine Eq.trans (ev_gq (show zcode 101 34 = some (56, 37, 11, 0, []) by decide +kernel) (so0 hS) (sp0_0 hS)) ?_
  refine Eq.trans (ev_gq (show zcode 101 37 = some (56, 40, 6, 6, []) by decide +kernel) (so1 hS) (sp1_6 hS)) ?_
  refine Eq.trans (ev_ci (show zcode 101 40 = some (0, 41, 0, 1, []) by decide +kernel) (by decide)) ?_
  exact ev_cvirt (show zcode 101 41 = some (76, 44, 102, 3, [5]) by decide +kernel) (args := [(2, 14), (0, 1)]) (rest := []) rfl (so87 hS) rfl (show 0 ≤ 8 by decide) ⟨by decide, show 3 ≤ 9 by decide⟩
theorem b101_44 {T : zT} {V : zM}  (hS : zStr T)  : ev 101 44 [(2, 0), (9, 0)] [] T V = (zcall 106 [(2, 78)] T V).bind fun x => ev 101 51 [(2, 0), (9, 0)] (z_push x.1 []) x.2.1 x.2.2 := by
  refine Eq.trans (ev_lda (show zcode 101 44 = some (6, 45, 0, 0, []) by decide +kernel) rfl (by decide)) ?_
  refine Eq.trans (ev_gq (show zcode 101 45 = some (56, 48, 11, 9, []) by decide +kernel) (so0 hS) (sp0_9 hS)) ?_
  exact ev_cvirt (show zcode 101 48 = some (76, 51, 106, 1, [0]) by decide +kernel) (args := []) (rest := []) rfl (so78 hS) rfl (show 0 ≤ 8 by decide) ⟨by decide, show 1 ≤ 3 by decide⟩
theorem b101_51 {T : zT} {V : zM}  : ev 101 51 [(2, 0), (9, 0)] [] T V = ev 101 53 [(2, 0), (0, 0)] [] T V := by
  refine Eq.trans (ev_ci (show zcode 101 51 = some (0, 52, 0, 0, []) by decide +kernel) (by decide)) ?_
  exact ev_sti (show zcode 101 52 = some (7, 53, 1, 0, []) by decide +kernel) ⟨show 1 < 2 by decide, Or.inr (show ¬ (2 : Nat) = 1 by decide)⟩
theorem b101_53 {T : zT} {V : zM} {x1 : Int} : ev 101 53 [(2, 0), (0, x1)] [] T V = if 16 ≤ x1 then ev 101 91 [(2, 0), (0, x1)] [] T V else ev 101 59 [(2, 0), (0, x1)] [] T V := by
  refine Eq.trans (ev_ldi (show zcode 101 53 = some (4, 54, 1, 0, []) by decide +kernel) rfl) ?_
  refine Eq.trans (ev_ci (show zcode 101 54 = some (0, 56, 0, 16, []) by decide +kernel) (by decide)) ?_
  exact ev_cge (show zcode 101 56 = some (49, 59, 91, 0, []) by decide +kernel)
theorem b101_59 {T : zT} {V : zM} {x1 : Int} (hS : zStr T)  : ev 101 59 [(2, 0), (0, x1)] [] T V = (zcall 113 [(2, 78), (2, 65), (0, x1)] T V).bind fun x => ev 101 71 [(2, 0), (0, x1)] (z_push x.1 []) x.2.1 x.2.2 := by
  refine Eq.trans (ev_lda (show zcode 101 59 = some (6, 60, 0, 0, []) by decide +kernel) rfl (by decide)) ?_
  refine Eq.trans (ev_gq (show zcode 101 60 = some (56, 63, 11, 9, []) by decide +kernel) (so0 hS) (sp0_9 hS)) ?_
  refine Eq.trans (ev_lda (show zcode 101 63 = some (6, 64, 0, 0, []) by decide +kernel) rfl (by decide)) ?_
  refine Eq.trans (ev_gq (show zcode 101 64 = some (56, 67, 11, 6, []) by decide +kernel) (so0 hS) (sp0_6 hS)) ?_
  refine Eq.trans (ev_ldi (show zcode 101 67 = some (4, 68, 1, 0, []) by decide +kernel) rfl) ?_
  exact ev_cvirt (show zcode 101 68 = some (76, 71, 113, 3, [0]) by decide +kernel) (args := [(2, 65), (0, x1)]) (rest := []) rfl (so78 hS) rfl (show 0 ≤ 8 by decide) ⟨by decide, show 3 ≤ 8 by decide⟩
theorem b101_71 {T : zT} {V : zM} {x1 : Int} (hS : zStr T) (h1 : -2147483648 ≤ (x1 + 1) ∧ (x1 + 1) ≤ 2147483647) : ev 101 71 [(2, 0), (0, x1)] [] T V = (zcall 118 [(2, 78), (2, 112), (0, (x1 + 1))] T V).bind fun x => ev 101 85 [(2, 0), (0, x1)] (z_push x.1 []) x.2.1 x.2.2 := by
  refine Eq.trans (ev_lda (show zcode 101 71 = some (6, 72, 0, 0, []) by decide +kernel) rfl (by decide)) ?_
  refine Eq.trans (ev_gq (show zcode 101 72 = some (56, 75, 11, 9, []) by decide +kernel) (so0 hS) (sp0_9 hS)) ?_
  refine Eq.trans (ev_lda (show zcode 101 75 = some (6, 76, 0, 0, []) by decide +kernel) rfl (by decide)) ?_
  refine Eq.trans (ev_gq (show zcode 101 76 = some (56, 79, 11, 10, []) by decide +kernel) (so0 hS) (sp0_10 hS)) ?_
  refine Eq.trans (ev_ldi (show zcode 101 79 = some (4, 80, 1, 0, []) by decide +kernel) rfl) ?_
  refine Eq.trans (ev_ci (show zcode 101 80 = some (0, 81, 0, 1, []) by decide +kernel) (by decide)) ?_
  refine Eq.trans (ev_add (show zcode 101 81 = some (11, 82, 0, 0, []) by decide +kernel) h1) ?_
  exact ev_cvirt (show zcode 101 82 = some (76, 85, 118, 3, [0]) by decide +kernel) (args := [(2, 112), (0, (x1 + 1))]) (rest := []) rfl (so78 hS) rfl (show 0 ≤ 8 by decide) ⟨by decide, show 3 ≤ 4 by decide⟩
theorem b101_85 {T : zT} {V : zM} {x1 : Int} (h1 : -2147483648 ≤ (x1 + 1) ∧ (x1 + 1) ≤ 2147483647) : ev 101 85 [(2, 0), (0, x1)] [] T V = ev 101 53 [(2, 0), (0, (x1 + 1))] [] T V := by
  refine Eq.trans (ev_inc (show zcode 101 85 = some (10, 88, 1, 1, []) by decide +kernel) rfl h1 (Or.inr (show ¬ (2 : Nat) = 1 by decide))) ?_
  exact ev_goto (show zcode 101 88 = some (53, 91, 53, 0, []) by decide +kernel)
theorem b101_91 {T : zT} {V : zM} {x1 : Int} (hS : zStr T)  : ev 101 91 [(2, 0), (0, x1)] [] T V = some ((9, 0), T, (zwr V 0 14 1)) := by
  refine Eq.trans (ev_lda (show zcode 101 91 = some (6, 92, 0, 0, []) by decide +kernel) rfl (by decide)) ?_
  refine Eq.trans (ev_ci (show zcode 101 92 = some (0, 93, 0, 1, []) by decide +kernel) (by decide)) ?_
  refine Eq.trans (ev_pz (show zcode 101 93 = some (58, 96, 11, 14, []) by decide +kernel) (so0 hS) (by decide)) ?_
  exact ev_rn (show zcode 101 96 = some (73, 97, 0, 0, []) by decide +kernel)
/-! 119: TwoWayWall.price()I -/
theorem e119 {T : zT} {V : zM}  : zcall 119 [(2, 0)] T V = ev 119 0 [(2, 0)] [] T V := rfl
theorem b119_0 {T : zT} {V : zM}  (hS : zStr T)  : ev 119 0 [(2, 0)] [] T V = (zcall 101 [(2, 0)] T V).bind fun x => ev 119 4 [(2, 0)] (z_push x.1 []) x.2.1 x.2.2 := by
  refine Eq.trans (ev_lda (show zcode 119 0 = some (6, 1, 0, 0, []) by decide +kernel) rfl (by decide)) ?_
  exact ev_cvirt (show zcode 119 1 = some (76, 4, 101, 1, [11]) by decide +kernel) (args := []) (rest := []) rfl (so0 hS) rfl (show 0 ≤ 8 by decide) ⟨by decide, show 1 ≤ 2 by decide⟩
theorem b119_4 {T : zT} {V : zM}  (hS : zStr T) (h1 : (0 : Int) ≤ (V 1 0) ∧ (V 1 0) < 17) : ev 119 4 [(2, 0)] [] T V = if (V 115 (V 1 0)) ≤ 0 then ev 119 42 [(2, 0)] [] T V else ev 119 24 [(2, 0)] [] T V := by
  refine Eq.trans (ev_lda (show zcode 119 4 = some (6, 5, 0, 0, []) by decide +kernel) rfl (by decide)) ?_
  refine Eq.trans (ev_gq (show zcode 119 5 = some (56, 8, 11, 10, []) by decide +kernel) (so0 hS) (sp0_10 hS)) ?_
  refine Eq.trans (ev_gq (show zcode 119 8 = some (56, 11, 1, 3, []) by decide +kernel) (so112 hS) (sp112_3 hS)) ?_
  refine Eq.trans (ev_lda (show zcode 119 11 = some (6, 12, 0, 0, []) by decide +kernel) rfl (by decide)) ?_
  refine Eq.trans (ev_gq (show zcode 119 12 = some (56, 15, 11, 0, []) by decide +kernel) (so0 hS) (sp0_0 hS)) ?_
  refine Eq.trans (ev_gi (show zcode 119 15 = some (55, 18, 6, 0, []) by decide +kernel) (so1 hS)) ?_
  refine Eq.trans (ev_la (show zcode 119 18 = some (61, 19, 0, 0, []) by decide +kernel) (sa115 hS) h1) ?_
  refine Eq.trans (ev_cl (show zcode 119 19 = some (1, 20, 0, 0, []) by decide +kernel) (by decide)) ?_
  exact ev_lle (show zcode 119 20 = some (31, 21, 0, 0, []) by decide +kernel) (show zcode 119 21 = some (45, 24, 42, 0, []) by decide +kernel)
theorem b119_24 {T : zT} {V : zM}  (hS : zStr T) (h1 : (0 : Int) ≤ (V 1 0) ∧ (V 1 0) < 17) : ev 119 24 [(2, 0)] [] T V = ev 119 43 [(2, 0)] [(0, (V 116 (V 1 0)))] T V := by
  refine Eq.trans (ev_lda (show zcode 119 24 = some (6, 25, 0, 0, []) by decide +kernel) rfl (by decide)) ?_
  refine Eq.trans (ev_gq (show zcode 119 25 = some (56, 28, 11, 10, []) by decide +kernel) (so0 hS) (sp0_10 hS)) ?_
  refine Eq.trans (ev_gq (show zcode 119 28 = some (56, 31, 1, 4, []) by decide +kernel) (so112 hS) (sp112_4 hS)) ?_
  refine Eq.trans (ev_lda (show zcode 119 31 = some (6, 32, 0, 0, []) by decide +kernel) rfl (by decide)) ?_
  refine Eq.trans (ev_gq (show zcode 119 32 = some (56, 35, 11, 0, []) by decide +kernel) (so0 hS) (sp0_0 hS)) ?_
  refine Eq.trans (ev_gi (show zcode 119 35 = some (55, 38, 6, 0, []) by decide +kernel) (so1 hS)) ?_
  refine Eq.trans (ev_ia (show zcode 119 38 = some (60, 39, 0, 0, []) by decide +kernel) (sa116 hS) h1) ?_
  exact ev_goto (show zcode 119 39 = some (53, 42, 43, 0, []) by decide +kernel)
theorem b119_42 {T : zT} {V : zM}  : ev 119 42 [(2, 0)] [] T V = ev 119 43 [(2, 0)] [(0, (-1))] T V := by
  exact ev_ci (show zcode 119 42 = some (0, 43, 0, (-1), []) by decide +kernel) (by decide)
theorem b119_43 {T : zT} {V : zM} {y0 : Int} : ev 119 43 [(2, 0)] [(0, y0)] T V = some ((0, y0), T, V) := by
  exact ev_ri (show zcode 119 43 = some (72, 44, 0, 0, []) by decide +kernel)
/-! 120: TwoWayWall.first(I)I -/
theorem e120 {T : zT} {V : zM} {x1 : Int} : zcall 120 [(2, 0), (0, x1)] T V = ev 120 0 [(2, 0), (0, x1), (9, 0)] [] T V := rfl
theorem b120_0 {T : zT} {V : zM} {x1 : Int} (hS : zStr T)  : ev 120 0 [(2, 0), (0, x1), (9, 0)] [] T V = (zcall 101 [(2, 0)] T V).bind fun x => ev 120 4 [(2, 0), (0, x1), (9, 0)] (z_push x.1 []) x.2.1 x.2.2 := by
  refine Eq.trans (ev_lda (show zcode 120 0 = some (6, 1, 0, 0, []) by decide +kernel) rfl (by decide)) ?_
  exact ev_cvirt (show zcode 120 1 = some (76, 4, 101, 1, [11]) by decide +kernel) (args := []) (rest := []) rfl (so0 hS) rfl (show 0 ≤ 8 by decide) ⟨by decide, show 1 ≤ 2 by decide⟩
theorem b120_4 {T : zT} {V : zM} {x1 : Int} (hS : zStr T)  : ev 120 4 [(2, 0), (0, x1), (9, 0)] [] T V = (zcall 28 [(2, 1), (0, x1)] T V).bind fun x => ev 120 20 [(2, 0), (0, x1), (0, (V 1 0))] (z_push x.1 []) x.2.1 x.2.2 := by
  refine Eq.trans (ev_lda (show zcode 120 4 = some (6, 5, 0, 0, []) by decide +kernel) rfl (by decide)) ?_
  refine Eq.trans (ev_gq (show zcode 120 5 = some (56, 8, 11, 0, []) by decide +kernel) (so0 hS) (sp0_0 hS)) ?_
  refine Eq.trans (ev_gi (show zcode 120 8 = some (55, 11, 6, 0, []) by decide +kernel) (so1 hS)) ?_
  refine Eq.trans (ev_sti (show zcode 120 11 = some (7, 12, 2, 0, []) by decide +kernel) ⟨show 2 < 3 by decide, Or.inr (show ¬ (0 : Nat) = 1 by decide)⟩) ?_
  refine Eq.trans (ev_lda (show zcode 120 12 = some (6, 13, 0, 0, []) by decide +kernel) rfl (by decide)) ?_
  refine Eq.trans (ev_gq (show zcode 120 13 = some (56, 16, 11, 0, []) by decide +kernel) (so0 hS) (sp0_0 hS)) ?_
  refine Eq.trans (ev_ldi (show zcode 120 16 = some (4, 17, 1, 0, []) by decide +kernel) rfl) ?_
  exact ev_cvirt (show zcode 120 17 = some (76, 20, 28, 2, [6]) by decide +kernel) (args := [(0, x1)]) (rest := []) rfl (so1 hS) rfl (show 0 ≤ 8 by decide) ⟨by decide, show 2 ≤ 2 by decide⟩
theorem b120_20 {T : zT} {V : zM} {x1 : Int} {x2 : Int} {y0 : Int} : ev 120 20 [(2, 0), (0, x1), (0, x2)] [(0, y0)] T V = if y0 = 0 then ev 120 37 [(2, 0), (0, x1), (0, x2)] [] T V else ev 120 23 [(2, 0), (0, x1), (0, x2)] [] T V := by
  exact ev_eq (show zcode 120 20 = some (40, 23, 37, 0, []) by decide +kernel)
theorem b120_23 {T : zT} {V : zM} {x1 : Int} {x2 : Int} (hS : zStr T) (h1 : (0 : Int) ≤ x2 ∧ x2 < 17) : ev 120 23 [(2, 0), (0, x1), (0, x2)] [] T V = if (V 115 x2) = 0 then ev 120 37 [(2, 0), (0, x1), (0, x2)] [] T V else ev 120 39 [(2, 0), (0, x1), (0, x2)] [] T V := by
  refine Eq.trans (ev_lda (show zcode 120 23 = some (6, 24, 0, 0, []) by decide +kernel) rfl (by decide)) ?_
  refine Eq.trans (ev_gq (show zcode 120 24 = some (56, 27, 11, 10, []) by decide +kernel) (so0 hS) (sp0_10 hS)) ?_
  refine Eq.trans (ev_gq (show zcode 120 27 = some (56, 30, 1, 3, []) by decide +kernel) (so112 hS) (sp112_3 hS)) ?_
  refine Eq.trans (ev_ldi (show zcode 120 30 = some (4, 31, 2, 0, []) by decide +kernel) rfl) ?_
  refine Eq.trans (ev_la (show zcode 120 31 = some (61, 32, 0, 0, []) by decide +kernel) (sa115 hS) h1) ?_
  refine Eq.trans (ev_cl (show zcode 120 32 = some (1, 33, 0, 0, []) by decide +kernel) (by decide)) ?_
  exact ev_lne (show zcode 120 33 = some (31, 34, 0, 0, []) by decide +kernel) (show zcode 120 34 = some (41, 37, 39, 0, []) by decide +kernel)
theorem b120_37 {T : zT} {V : zM} {x1 : Int} {x2 : Int} : ev 120 37 [(2, 0), (0, x1), (0, x2)] [] T V = some ((0, (-1)), T, V) := by
  refine Eq.trans (ev_ci (show zcode 120 37 = some (0, 38, 0, (-1), []) by decide +kernel) (by decide)) ?_
  exact ev_ri (show zcode 120 38 = some (72, 39, 0, 0, []) by decide +kernel)
theorem b120_39 {T : zT} {V : zM} {x1 : Int} {x2 : Int} (hS : zStr T)  : ev 120 39 [(2, 0), (0, x1), (0, x2)] [] T V = (zcall 121 [(2, 112), (0, x2), (0, x1), (0, x2)] T V).bind fun x => ev 120 49 [(2, 0), (0, x1), (0, x2)] (z_push x.1 []) x.2.1 x.2.2 := by
  refine Eq.trans (ev_lda (show zcode 120 39 = some (6, 40, 0, 0, []) by decide +kernel) rfl (by decide)) ?_
  refine Eq.trans (ev_gq (show zcode 120 40 = some (56, 43, 11, 10, []) by decide +kernel) (so0 hS) (sp0_10 hS)) ?_
  refine Eq.trans (ev_ldi (show zcode 120 43 = some (4, 44, 2, 0, []) by decide +kernel) rfl) ?_
  refine Eq.trans (ev_ldi (show zcode 120 44 = some (4, 45, 1, 0, []) by decide +kernel) rfl) ?_
  refine Eq.trans (ev_ldi (show zcode 120 45 = some (4, 46, 2, 0, []) by decide +kernel) rfl) ?_
  exact ev_cvirt (show zcode 120 46 = some (76, 49, 121, 4, [1]) by decide +kernel) (args := [(0, x2), (0, x1), (0, x2)]) (rest := []) rfl (so112 hS) rfl (show 0 ≤ 8 by decide) ⟨by decide, show 4 ≤ 5 by decide⟩
theorem b120_49 {T : zT} {V : zM} {x1 : Int} {x2 : Int} {y0 : Int} : ev 120 49 [(2, 0), (0, x1), (0, x2)] [(0, y0)] T V = some ((0, y0), T, V) := by
  exact ev_ri (show zcode 120 49 = some (72, 50, 0, 0, []) by decide +kernel)
/-! 122: TwoWayWall.lengths(I)I -/
theorem e122 {T : zT} {V : zM} {x1 : Int} : zcall 122 [(2, 0), (0, x1)] T V = ev 122 0 [(2, 0), (0, x1), (9, 0), (9, 0)] [] T V := rfl
theorem b122_0 {T : zT} {V : zM} {x1 : Int} (hS : zStr T)  : ev 122 0 [(2, 0), (0, x1), (9, 0), (9, 0)] [] T V = (zcall 101 [(2, 0)] T V).bind fun x => ev 122 4 [(2, 0), (0, x1), (9, 0), (9, 0)] (z_push x.1 []) x.2.1 x.2.2 := by
  refine Eq.trans (ev_lda (show zcode 122 0 = some (6, 1, 0, 0, []) by decide +kernel) rfl (by decide)) ?_
  exact ev_cvirt (show zcode 122 1 = some (76, 4, 101, 1, [11]) by decide +kernel) (args := []) (rest := []) rfl (so0 hS) rfl (show 0 ≤ 8 by decide) ⟨by decide, show 1 ≤ 2 by decide⟩
theorem b122_4 {T : zT} {V : zM} {x1 : Int} : ev 122 4 [(2, 0), (0, x1), (9, 0), (9, 0)] [] T V = ev 122 8 [(2, 0), (0, x1), (0, 0), (0, 1)] [] T V := by
  refine Eq.trans (ev_ci (show zcode 122 4 = some (0, 5, 0, 0, []) by decide +kernel) (by decide)) ?_
  refine Eq.trans (ev_sti (show zcode 122 5 = some (7, 6, 2, 0, []) by decide +kernel) ⟨show 2 < 4 by decide, Or.inr (show ¬ (0 : Nat) = 1 by decide)⟩) ?_
  refine Eq.trans (ev_ci (show zcode 122 6 = some (0, 7, 0, 1, []) by decide +kernel) (by decide)) ?_
  exact ev_sti (show zcode 122 7 = some (7, 8, 3, 0, []) by decide +kernel) ⟨show 3 < 4 by decide, Or.inr (show ¬ (0 : Nat) = 1 by decide)⟩
theorem b122_8 {T : zT} {V : zM} {x1 : Int} {x2 : Int} {x3 : Int} : ev 122 8 [(2, 0), (0, x1), (0, x2), (0, x3)] [] T V = if 16 < x3 then ev 122 44 [(2, 0), (0, x1), (0, x2), (0, x3)] [] T V else ev 122 14 [(2, 0), (0, x1), (0, x2), (0, x3)] [] T V := by
  refine Eq.trans (ev_ldi (show zcode 122 8 = some (4, 9, 3, 0, []) by decide +kernel) rfl) ?_
  refine Eq.trans (ev_ci (show zcode 122 9 = some (0, 11, 0, 16, []) by decide +kernel) (by decide)) ?_
  exact ev_cgt (show zcode 122 11 = some (50, 14, 44, 0, []) by decide +kernel)
theorem b122_14 {T : zT} {V : zM} {x1 : Int} {x2 : Int} {x3 : Int} (hS : zStr T) (h1 : (0 : Int) ≤ x3 ∧ x3 < 17) : ev 122 14 [(2, 0), (0, x1), (0, x2), (0, x3)] [] T V = if (V 115 x3) ≤ 0 then ev 122 38 [(2, 0), (0, x1), (0, x2), (0, x3)] [] T V else ev 122 28 [(2, 0), (0, x1), (0, x2), (0, x3)] [] T V := by
  refine Eq.trans (ev_lda (show zcode 122 14 = some (6, 15, 0, 0, []) by decide +kernel) rfl (by decide)) ?_
  refine Eq.trans (ev_gq (show zcode 122 15 = some (56, 18, 11, 10, []) by decide +kernel) (so0 hS) (sp0_10 hS)) ?_
  refine Eq.trans (ev_gq (show zcode 122 18 = some (56, 21, 1, 3, []) by decide +kernel) (so112 hS) (sp112_3 hS)) ?_
  refine Eq.trans (ev_ldi (show zcode 122 21 = some (4, 22, 3, 0, []) by decide +kernel) rfl) ?_
  refine Eq.trans (ev_la (show zcode 122 22 = some (61, 23, 0, 0, []) by decide +kernel) (sa115 hS) h1) ?_
  refine Eq.trans (ev_cl (show zcode 122 23 = some (1, 24, 0, 0, []) by decide +kernel) (by decide)) ?_
  exact ev_lle (show zcode 122 24 = some (31, 25, 0, 0, []) by decide +kernel) (show zcode 122 25 = some (45, 28, 38, 0, []) by decide +kernel)
theorem b122_28 {T : zT} {V : zM} {x1 : Int} {x2 : Int} {x3 : Int} : ev 122 28 [(2, 0), (0, x1), (0, x2), (0, x3)] [] T V = if x2 = x1 then ev 122 33 [(2, 0), (0, x1), (0, x2), (0, x3)] [] T V else ev 122 35 [(2, 0), (0, x1), (0, x2), (0, x3)] [] T V := by
  refine Eq.trans (ev_ldi (show zcode 122 28 = some (4, 29, 2, 0, []) by decide +kernel) rfl) ?_
  refine Eq.trans (ev_ldi (show zcode 122 29 = some (4, 30, 1, 0, []) by decide +kernel) rfl) ?_
  exact ev_cne (show zcode 122 30 = some (47, 33, 35, 0, []) by decide +kernel)
theorem b122_33 {T : zT} {V : zM} {x1 : Int} {x2 : Int} {x3 : Int} : ev 122 33 [(2, 0), (0, x1), (0, x2), (0, x3)] [] T V = some ((0, x3), T, V) := by
  refine Eq.trans (ev_ldi (show zcode 122 33 = some (4, 34, 3, 0, []) by decide +kernel) rfl) ?_
  exact ev_ri (show zcode 122 34 = some (72, 35, 0, 0, []) by decide +kernel)
theorem b122_35 {T : zT} {V : zM} {x1 : Int} {x2 : Int} {x3 : Int} (h1 : -2147483648 ≤ (x2 + 1) ∧ (x2 + 1) ≤ 2147483647) : ev 122 35 [(2, 0), (0, x1), (0, x2), (0, x3)] [] T V = ev 122 38 [(2, 0), (0, x1), (0, (x2 + 1)), (0, x3)] [] T V := by
  exact ev_inc (show zcode 122 35 = some (10, 38, 2, 1, []) by decide +kernel) rfl h1 (Or.inr (show ¬ (0 : Nat) = 1 by decide))
theorem b122_38 {T : zT} {V : zM} {x1 : Int} {x2 : Int} {x3 : Int} (h1 : -2147483648 ≤ (x3 + 1) ∧ (x3 + 1) ≤ 2147483647) : ev 122 38 [(2, 0), (0, x1), (0, x2), (0, x3)] [] T V = ev 122 8 [(2, 0), (0, x1), (0, x2), (0, (x3 + 1))] [] T V := by
  refine Eq.trans (ev_inc (show zcode 122 38 = some (10, 41, 3, 1, []) by decide +kernel) rfl h1 (Or.inr (show ¬ (0 : Nat) = 1 by decide))) ?_
  exact ev_goto (show zcode 122 41 = some (53, 44, 8, 0, []) by decide +kernel)
theorem b122_44 {T : zT} {V : zM} {x1 : Int} {x2 : Int} {x3 : Int} : ev 122 44 [(2, 0), (0, x1), (0, x2), (0, x3)] [] T V = if x1 = (-1) then ev 122 49 [(2, 0), (0, x1), (0, x2), (0, x3)] [] T V else ev 122 53 [(2, 0), (0, x1), (0, x2), (0, x3)] [] T V := by
  refine Eq.trans (ev_ldi (show zcode 122 44 = some (4, 45, 1, 0, []) by decide +kernel) rfl) ?_
  refine Eq.trans (ev_ci (show zcode 122 45 = some (0, 46, 0, (-1), []) by decide +kernel) (by decide)) ?_
  exact ev_cne (show zcode 122 46 = some (47, 49, 53, 0, []) by decide +kernel)
theorem b122_49 {T : zT} {V : zM} {x1 : Int} {x2 : Int} {x3 : Int} : ev 122 49 [(2, 0), (0, x1), (0, x2), (0, x3)] [] T V = ev 122 54 [(2, 0), (0, x1), (0, x2), (0, x3)] [(0, x2)] T V := by
  refine Eq.trans (ev_ldi (show zcode 122 49 = some (4, 50, 2, 0, []) by decide +kernel) rfl) ?_
  exact ev_goto (show zcode 122 50 = some (53, 53, 54, 0, []) by decide +kernel)
theorem b122_53 {T : zT} {V : zM} {x1 : Int} {x2 : Int} {x3 : Int} : ev 122 53 [(2, 0), (0, x1), (0, x2), (0, x3)] [] T V = ev 122 54 [(2, 0), (0, x1), (0, x2), (0, x3)] [(0, (-1))] T V := by
  exact ev_ci (show zcode 122 53 = some (0, 54, 0, (-1), []) by decide +kernel) (by decide)
theorem b122_54 {T : zT} {V : zM} {x1 : Int} {x2 : Int} {x3 : Int} {y0 : Int} : ev 122 54 [(2, 0), (0, x1), (0, x2), (0, x3)] [(0, y0)] T V = some ((0, y0), T, V) := by
  exact ev_ri (show zcode 122 54 = some (72, 55, 0, 0, []) by decide +kernel)
/-! 123: TwoWayWall.lost(II)I -/
theorem e123 {T : zT} {V : zM} {x1 : Int} {x2 : Int} : zcall 123 [(2, 0), (0, x1), (0, x2)] T V = ev 123 0 [(2, 0), (0, x1), (0, x2), (9, 0)] [] T V := rfl
theorem b123_0 {T : zT} {V : zM} {x1 : Int} {x2 : Int} (hS : zStr T)  : ev 123 0 [(2, 0), (0, x1), (0, x2), (9, 0)] [] T V = (zcall 28 [(2, 1), (0, x1)] T V).bind fun x => ev 123 8 [(2, 0), (0, x1), (0, x2), (9, 0)] (z_push x.1 []) x.2.1 x.2.2 := by
  refine Eq.trans (ev_lda (show zcode 123 0 = some (6, 1, 0, 0, []) by decide +kernel) rfl (by decide)) ?_
  refine Eq.trans (ev_gq (show zcode 123 1 = some (56, 4, 11, 0, []) by decide +kernel) (so0 hS) (sp0_0 hS)) ?_
  refine Eq.trans (ev_ldi (show zcode 123 4 = some (4, 5, 1, 0, []) by decide +kernel) rfl) ?_
  exact ev_cvirt (show zcode 123 5 = some (76, 8, 28, 2, [6]) by decide +kernel) (args := [(0, x1)]) (rest := []) rfl (so1 hS) rfl (show 0 ≤ 8 by decide) ⟨by decide, show 2 ≤ 2 by decide⟩
theorem b123_8 {T : zT} {V : zM} {x1 : Int} {x2 : Int} {y0 : Int} : ev 123 8 [(2, 0), (0, x1), (0, x2), (9, 0)] [(0, y0)] T V = if y0 = 0 then ev 123 18 [(2, 0), (0, x1), (0, x2), (9, 0)] [] T V else ev 123 11 [(2, 0), (0, x1), (0, x2), (9, 0)] [] T V := by
  exact ev_eq (show zcode 123 8 = some (40, 11, 18, 0, []) by decide +kernel)
theorem b123_11 {T : zT} {V : zM} {x1 : Int} {x2 : Int} : ev 123 11 [(2, 0), (0, x1), (0, x2), (9, 0)] [] T V = (zcall 29 [(0, x2)] T V).bind fun x => ev 123 15 [(2, 0), (0, x1), (0, x2), (9, 0)] (z_push x.1 []) x.2.1 x.2.2 := by
  refine Eq.trans (ev_ldi (show zcode 123 11 = some (4, 12, 2, 0, []) by decide +kernel) rfl) ?_
  exact ev_cstat (show zcode 123 12 = some (74, 15, 29, 1, []) by decide +kernel) (args := [(0, x2)]) (rest := []) rfl rfl (show 0 ≤ 8 by decide) ⟨by decide, show 1 ≤ 1 by decide⟩
theorem b123_15 {T : zT} {V : zM} {x1 : Int} {x2 : Int} {y0 : Int} : ev 123 15 [(2, 0), (0, x1), (0, x2), (9, 0)] [(0, y0)] T V = if y0 = 0 then ev 123 18 [(2, 0), (0, x1), (0, x2), (9, 0)] [] T V else ev 123 24 [(2, 0), (0, x1), (0, x2), (9, 0)] [] T V := by
  exact ev_ne (show zcode 123 15 = some (41, 18, 24, 0, []) by decide +kernel)
theorem b123_18 {T : zT} {V : zM} {x1 : Int} {x2 : Int} (hS : zStr T)  : ev 123 18 [(2, 0), (0, x1), (0, x2), (9, 0)] [] T V = (zcall 24 [(2, 0), (0, (-1))] T V).bind fun x => ev 123 23 [(2, 0), (0, x1), (0, x2), (9, 0)] (z_push x.1 []) x.2.1 x.2.2 := by
  refine Eq.trans (ev_lda (show zcode 123 18 = some (6, 19, 0, 0, []) by decide +kernel) rfl (by decide)) ?_
  refine Eq.trans (ev_ci (show zcode 123 19 = some (0, 20, 0, (-1), []) by decide +kernel) (by decide)) ?_
  exact ev_cvirt (show zcode 123 20 = some (76, 23, 24, 2, [11]) by decide +kernel) (args := [(0, (-1))]) (rest := []) rfl (so0 hS) rfl (show 0 ≤ 8 by decide) ⟨by decide, show 2 ≤ 2 by decide⟩
theorem b123_23 {T : zT} {V : zM} {x1 : Int} {x2 : Int} {y0 : Int} : ev 123 23 [(2, 0), (0, x1), (0, x2), (9, 0)] [(0, y0)] T V = some ((0, y0), T, V) := by
  exact ev_ri (show zcode 123 23 = some (72, 24, 0, 0, []) by decide +kernel)
theorem b123_24 {T : zT} {V : zM} {x1 : Int} {x2 : Int} (hS : zStr T) (h1 : (0 : Int) ≤ x1 ∧ x1 < 16) : ev 123 24 [(2, 0), (0, x1), (0, x2), (9, 0)] [] T V = (zcall 26 [(2, 0), (0, (V 3 x1))] T (zwr V 3 x1 x2)).bind fun x => ev 123 49 [(2, 0), (0, x1), (0, x2), (0, (V 3 x1))] (z_push x.1 []) x.2.1 x.2.2 := by
  refine Eq.trans (ev_lda (show zcode 123 24 = some (6, 25, 0, 0, []) by decide +kernel) rfl (by decide)) ?_
  refine Eq.trans (ev_gq (show zcode 123 25 = some (56, 28, 11, 0, []) by decide +kernel) (so0 hS) (sp0_0 hS)) ?_
  refine Eq.trans (ev_gq (show zcode 123 28 = some (56, 31, 6, 2, []) by decide +kernel) (so1 hS) (sp1_2 hS)) ?_
  refine Eq.trans (ev_ldi (show zcode 123 31 = some (4, 32, 1, 0, []) by decide +kernel) rfl) ?_
  refine Eq.trans (ev_ia (show zcode 123 32 = some (60, 33, 0, 0, []) by decide +kernel) (sa3 hS) h1) ?_
  refine Eq.trans (ev_sti (show zcode 123 33 = some (7, 34, 3, 0, []) by decide +kernel) ⟨show 3 < 4 by decide, Or.inr (show ¬ (0 : Nat) = 1 by decide)⟩) ?_
  refine Eq.trans (ev_lda (show zcode 123 34 = some (6, 35, 0, 0, []) by decide +kernel) rfl (by decide)) ?_
  refine Eq.trans (ev_gq (show zcode 123 35 = some (56, 38, 11, 0, []) by decide +kernel) (so0 hS) (sp0_0 hS)) ?_
  refine Eq.trans (ev_gq (show zcode 123 38 = some (56, 41, 6, 2, []) by decide +kernel) (so1 hS) (sp1_2 hS)) ?_
  refine Eq.trans (ev_ldi (show zcode 123 41 = some (4, 42, 1, 0, []) by decide +kernel) rfl) ?_
  refine Eq.trans (ev_ldi (show zcode 123 42 = some (4, 43, 2, 0, []) by decide +kernel) rfl) ?_
  refine Eq.trans (ev_is (show zcode 123 43 = some (64, 44, 0, 0, []) by decide +kernel) (sa3 hS) h1) ?_
  refine Eq.trans (ev_lda (show zcode 123 44 = some (6, 45, 0, 0, []) by decide +kernel) rfl (by decide)) ?_
  refine Eq.trans (ev_ldi (show zcode 123 45 = some (4, 46, 3, 0, []) by decide +kernel) rfl) ?_
  exact ev_cvirt (show zcode 123 46 = some (76, 49, 26, 2, [11]) by decide +kernel) (args := [(0, (V 3 x1))]) (rest := []) rfl (so0 hS) rfl (show 0 ≤ 8 by decide) ⟨by decide, show 2 ≤ 2 by decide⟩
theorem b123_49 {T : zT} {V : zM} {x1 : Int} {x2 : Int} {x3 : Int} {y0 : Int} : ev 123 49 [(2, 0), (0, x1), (0, x2), (0, x3)] [(0, y0)] T V = some ((0, y0), T, V) := by
  exact ev_ri (show zcode 123 49 = some (72, 50, 0, 0, []) by decide +kernel)
/-! 124: TwoWayWall.may()J -/
theorem e124 {T : zT} {V : zM}  : zcall 124 [(2, 0)] T V = ev 124 0 [(2, 0)] [] T V := rfl
theorem b124_0 {T : zT} {V : zM}  (hS : zStr T)  : ev 124 0 [(2, 0)] [] T V = (zcall 125 [(2, 0), (0, (-1)), (0, 0)] T V).bind fun x => ev 124 6 [(2, 0)] (z_push x.1 []) x.2.1 x.2.2 := by
  refine Eq.trans (ev_lda (show zcode 124 0 = some (6, 1, 0, 0, []) by decide +kernel) rfl (by decide)) ?_
  refine Eq.trans (ev_ci (show zcode 124 1 = some (0, 2, 0, (-1), []) by decide +kernel) (by decide)) ?_
  refine Eq.trans (ev_ci (show zcode 124 2 = some (0, 3, 0, 0, []) by decide +kernel) (by decide)) ?_
  exact ev_cvirt (show zcode 124 3 = some (76, 6, 125, 3, [11]) by decide +kernel) (args := [(0, (-1)), (0, 0)]) (rest := []) rfl (so0 hS) rfl (show 0 ≤ 8 by decide) ⟨by decide, show 3 ≤ 4 by decide⟩
theorem b124_6 {T : zT} {V : zM}  (hS : zStr T)  : ev 124 6 [(2, 0)] [] T V = some ((1, (V 123 0)), T, V) := by
  refine Eq.trans (ev_lda (show zcode 124 6 = some (6, 7, 0, 0, []) by decide +kernel) rfl (by decide)) ?_
  refine Eq.trans (ev_gq (show zcode 124 7 = some (56, 10, 11, 11, []) by decide +kernel) (so0 hS) (sp0_11 hS)) ?_
  refine Eq.trans (ev_gq (show zcode 124 10 = some (56, 13, 1, 3, []) by decide +kernel) (so120 hS) (sp120_3 hS)) ?_
  refine Eq.trans (ev_ci (show zcode 124 13 = some (0, 14, 0, 0, []) by decide +kernel) (by decide)) ?_
  refine Eq.trans (ev_la (show zcode 124 14 = some (61, 15, 0, 0, []) by decide +kernel) (sa123 hS) (by decide)) ?_
  exact ev_rl (show zcode 124 15 = some (72, 16, 1, 0, []) by decide +kernel)
/-! 125: TwoWayWall.findWalls(II)V -/
theorem e125 {T : zT} {V : zM} {x1 : Int} {x2 : Int} : zcall 125 [(2, 0), (0, x1), (0, x2)] T V = ev 125 0 [(2, 0), (0, x1), (0, x2), (9, 0)] [] T V := rfl
theorem b125_0 {T : zT} {V : zM} {x1 : Int} {x2 : Int} (hS : zStr T)  : ev 125 0 [(2, 0), (0, x1), (0, x2), (9, 0)] [] T V = (zcall 126 [(2, 79), (2, 6), (0, 0)] T V).bind fun x => ev 125 18 [(2, 0), (0, x1), (0, x2), (9, 0)] (z_push x.1 []) x.2.1 x.2.2 := by
  refine Eq.trans (ev_lda (show zcode 125 0 = some (6, 1, 0, 0, []) by decide +kernel) rfl (by decide)) ?_
  refine Eq.trans (ev_gq (show zcode 125 1 = some (56, 4, 11, 9, []) by decide +kernel) (so0 hS) (sp0_9 hS)) ?_
  refine Eq.trans (ev_gq (show zcode 125 4 = some (56, 7, 0, 0, []) by decide +kernel) (so78 hS) (sp78_0 hS)) ?_
  refine Eq.trans (ev_lda (show zcode 125 7 = some (6, 8, 0, 0, []) by decide +kernel) rfl (by decide)) ?_
  refine Eq.trans (ev_gq (show zcode 125 8 = some (56, 11, 11, 0, []) by decide +kernel) (so0 hS) (sp0_0 hS)) ?_
  refine Eq.trans (ev_gq (show zcode 125 11 = some (56, 14, 6, 5, []) by decide +kernel) (so1 hS) (sp1_5 hS)) ?_
  refine Eq.trans (ev_ci (show zcode 125 14 = some (0, 15, 0, 0, []) by decide +kernel) (by decide)) ?_
  exact ev_cvirt (show zcode 125 15 = some (76, 18, 126, 3, [5]) by decide +kernel) (args := [(2, 6), (0, 0)]) (rest := []) rfl (so79 hS) rfl (show 0 ≤ 8 by decide) ⟨by decide, show 3 ≤ 6 by decide⟩
theorem b125_18 {T : zT} {V : zM} {x1 : Int} {x2 : Int} (hS : zStr T)  : ev 125 18 [(2, 0), (0, x1), (0, x2), (9, 0)] [] T V = (zcall 126 [(2, 87), (2, 14), (0, 1)] T V).bind fun x => ev 125 36 [(2, 0), (0, x1), (0, x2), (9, 0)] (z_push x.1 []) x.2.1 x.2.2 := by
  refine Eq.trans (ev_lda (show zcode 125 18 = some (6, 19, 0, 0, []) by decide +kernel) rfl (by decide)) ?_
  refine Eq.trans (ev_gq (show zcode 125 19 = some (56, 22, 11, 9, []) by decide +kernel) (so0 hS) (sp0_9 hS)) ?_
  refine Eq.trans (ev_gq (show zcode 125 22 = some (56, 25, 0, 1, []) by decide +kernel) (so78 hS) (sp78_1 hS)) ?_
  refine Eq.trans (ev_lda (show zcode 125 25 = some (6, 26, 0, 0, []) by decide +kernel) rfl (by decide)) ?_
  refine Eq.trans (ev_gq (show zcode 125 26 = some (56, 29, 11, 0, []) by decide +kernel) (so0 hS) (sp0_0 hS)) ?_
  refine Eq.trans (ev_gq (show zcode 125 29 = some (56, 32, 6, 6, []) by decide +kernel) (so1 hS) (sp1_6 hS)) ?_
  refine Eq.trans (ev_ci (show zcode 125 32 = some (0, 33, 0, 1, []) by decide +kernel) (by decide)) ?_
  exact ev_cvirt (show zcode 125 33 = some (76, 36, 126, 3, [5]) by decide +kernel) (args := [(2, 14), (0, 1)]) (rest := []) rfl (so87 hS) rfl (show 0 ≤ 8 by decide) ⟨by decide, show 3 ≤ 6 by decide⟩
theorem b125_36 {T : zT} {V : zM} {x1 : Int} {x2 : Int} (hS : zStr T)  : ev 125 36 [(2, 0), (0, x1), (0, x2), (9, 0)] [] T V = (zcall 106 [(2, 78)] T V).bind fun x => ev 125 43 [(2, 0), (0, x1), (0, x2), (9, 0)] (z_push x.1 []) x.2.1 x.2.2 := by
  refine Eq.trans (ev_lda (show zcode 125 36 = some (6, 37, 0, 0, []) by decide +kernel) rfl (by decide)) ?_
  refine Eq.trans (ev_gq (show zcode 125 37 = some (56, 40, 11, 9, []) by decide +kernel) (so0 hS) (sp0_9 hS)) ?_
  exact ev_cvirt (show zcode 125 40 = some (76, 43, 106, 1, [0]) by decide +kernel) (args := []) (rest := []) rfl (so78 hS) rfl (show 0 ≤ 8 by decide) ⟨by decide, show 1 ≤ 3 by decide⟩
theorem b125_43 {T : zT} {V : zM} {x1 : Int} {x2 : Int} : ev 125 43 [(2, 0), (0, x1), (0, x2), (9, 0)] [] T V = ev 125 45 [(2, 0), (0, x1), (0, x2), (0, 0)] [] T V := by
  refine Eq.trans (ev_ci (show zcode 125 43 = some (0, 44, 0, 0, []) by decide +kernel) (by decide)) ?_
  exact ev_sti (show zcode 125 44 = some (7, 45, 3, 0, []) by decide +kernel) ⟨show 3 < 4 by decide, Or.inr (show ¬ (0 : Nat) = 1 by decide)⟩
theorem b125_45 {T : zT} {V : zM} {x1 : Int} {x2 : Int} {x3 : Int} (hS : zStr T)  : ev 125 45 [(2, 0), (0, x1), (0, x2), (0, x3)] [] T V = if (V 1 0) ≤ x3 then ev 125 90 [(2, 0), (0, x1), (0, x2), (0, x3)] [] T V else ev 125 56 [(2, 0), (0, x1), (0, x2), (0, x3)] [] T V := by
  refine Eq.trans (ev_ldi (show zcode 125 45 = some (4, 46, 3, 0, []) by decide +kernel) rfl) ?_
  refine Eq.trans (ev_lda (show zcode 125 46 = some (6, 47, 0, 0, []) by decide +kernel) rfl (by decide)) ?_
  refine Eq.trans (ev_gq (show zcode 125 47 = some (56, 50, 11, 0, []) by decide +kernel) (so0 hS) (sp0_0 hS)) ?_
  refine Eq.trans (ev_gi (show zcode 125 50 = some (55, 53, 6, 0, []) by decide +kernel) (so1 hS)) ?_
  exact ev_cge (show zcode 125 53 = some (49, 56, 90, 0, []) by decide +kernel)
theorem b125_56 {T : zT} {V : zM} {x1 : Int} {x2 : Int} {x3 : Int} : ev 125 56 [(2, 0), (0, x1), (0, x2), (0, x3)] [] T V = if x3 = x1 then ev 125 63 [(2, 0), (0, x1), (0, x2), (0, x3)] [(0, x3), (2, 0)] T V else ev 125 67 [(2, 0), (0, x1), (0, x2), (0, x3)] [(0, x3), (2, 0)] T V := by
  refine Eq.trans (ev_lda (show zcode 125 56 = some (6, 57, 0, 0, []) by decide +kernel) rfl (by decide)) ?_
  refine Eq.trans (ev_ldi (show zcode 125 57 = some (4, 58, 3, 0, []) by decide +kernel) rfl) ?_
  refine Eq.trans (ev_ldi (show zcode 125 58 = some (4, 59, 3, 0, []) by decide +kernel) rfl) ?_
  refine Eq.trans (ev_ldi (show zcode 125 59 = some (4, 60, 1, 0, []) by decide +kernel) rfl) ?_
  exact ev_cne (show zcode 125 60 = some (47, 63, 67, 0, []) by decide +kernel)
theorem b125_63 {T : zT} {V : zM} {x1 : Int} {x2 : Int} {x3 : Int} {y1 : Int} : ev 125 63 [(2, 0), (0, x1), (0, x2), (0, x3)] [(0, y1), (2, 0)] T V = ev 125 68 [(2, 0), (0, x1), (0, x2), (0, x3)] [(0, 1), (0, y1), (2, 0)] T V := by
  refine Eq.trans (ev_ci (show zcode 125 63 = some (0, 64, 0, 1, []) by decide +kernel) (by decide)) ?_
  exact ev_goto (show zcode 125 64 = some (53, 67, 68, 0, []) by decide +kernel)
theorem b125_67 {T : zT} {V : zM} {x1 : Int} {x2 : Int} {x3 : Int} {y1 : Int} : ev 125 67 [(2, 0), (0, x1), (0, x2), (0, x3)] [(0, y1), (2, 0)] T V = ev 125 68 [(2, 0), (0, x1), (0, x2), (0, x3)] [(0, 0), (0, y1), (2, 0)] T V := by
  exact ev_ci (show zcode 125 67 = some (0, 68, 0, 0, []) by decide +kernel) (by decide)
theorem b125_68 {T : zT} {V : zM} {x1 : Int} {x2 : Int} {x3 : Int} {y1 : Int} {y2 : Int} (hS : zStr T)  : ev 125 68 [(2, 0), (0, x1), (0, x2), (0, x3)] [(0, y2), (0, y1), (2, 0)] T V = (zcall 127 [(2, 0), (0, y1), (0, y2), (0, x2)] T V).bind fun x => ev 125 72 [(2, 0), (0, x1), (0, x2), (0, x3)] (z_push x.1 []) x.2.1 x.2.2 := by
  refine Eq.trans (ev_ldi (show zcode 125 68 = some (4, 69, 2, 0, []) by decide +kernel) rfl) ?_
  exact ev_cvirt (show zcode 125 69 = some (76, 72, 127, 4, [11]) by decide +kernel) (args := [(0, y1), (0, y2), (0, x2)]) (rest := []) rfl (so0 hS) rfl (show 0 ≤ 8 by decide) ⟨by decide, show 4 ≤ 9 by decide⟩
theorem b125_72 {T : zT} {V : zM} {x1 : Int} {x2 : Int} {x3 : Int} (hS : zStr T)  : ev 125 72 [(2, 0), (0, x1), (0, x2), (0, x3)] [] T V = (zcall 113 [(2, 78), (2, 71), (0, x3)] T V).bind fun x => ev 125 84 [(2, 0), (0, x1), (0, x2), (0, x3)] (z_push x.1 []) x.2.1 x.2.2 := by
  refine Eq.trans (ev_lda (show zcode 125 72 = some (6, 73, 0, 0, []) by decide +kernel) rfl (by decide)) ?_
  refine Eq.trans (ev_gq (show zcode 125 73 = some (56, 76, 11, 9, []) by decide +kernel) (so0 hS) (sp0_9 hS)) ?_
  refine Eq.trans (ev_lda (show zcode 125 76 = some (6, 77, 0, 0, []) by decide +kernel) rfl (by decide)) ?_
  refine Eq.trans (ev_gq (show zcode 125 77 = some (56, 80, 11, 7, []) by decide +kernel) (so0 hS) (sp0_7 hS)) ?_
  refine Eq.trans (ev_ldi (show zcode 125 80 = some (4, 81, 3, 0, []) by decide +kernel) rfl) ?_
  exact ev_cvirt (show zcode 125 81 = some (76, 84, 113, 3, [0]) by decide +kernel) (args := [(2, 71), (0, x3)]) (rest := []) rfl (so78 hS) rfl (show 0 ≤ 8 by decide) ⟨by decide, show 3 ≤ 8 by decide⟩
theorem b125_84 {T : zT} {V : zM} {x1 : Int} {x2 : Int} {x3 : Int} (h1 : -2147483648 ≤ (x3 + 1) ∧ (x3 + 1) ≤ 2147483647) : ev 125 84 [(2, 0), (0, x1), (0, x2), (0, x3)] [] T V = ev 125 45 [(2, 0), (0, x1), (0, x2), (0, (x3 + 1))] [] T V := by
  refine Eq.trans (ev_inc (show zcode 125 84 = some (10, 87, 3, 1, []) by decide +kernel) rfl h1 (Or.inr (show ¬ (0 : Nat) = 1 by decide))) ?_
  exact ev_goto (show zcode 125 87 = some (53, 90, 45, 0, []) by decide +kernel)
theorem b125_90 {T : zT} {V : zM} {x1 : Int} {x2 : Int} {x3 : Int} (hS : zStr T)  : ev 125 90 [(2, 0), (0, x1), (0, x2), (0, x3)] [] T V = (zcall 118 [(2, 78), (2, 120), (0, 0)] T V).bind fun x => ev 125 102 [(2, 0), (0, x1), (0, x2), (0, x3)] (z_push x.1 []) x.2.1 x.2.2 := by
  refine Eq.trans (ev_lda (show zcode 125 90 = some (6, 91, 0, 0, []) by decide +kernel) rfl (by decide)) ?_
  refine Eq.trans (ev_gq (show zcode 125 91 = some (56, 94, 11, 9, []) by decide +kernel) (so0 hS) (sp0_9 hS)) ?_
  refine Eq.trans (ev_lda (show zcode 125 94 = some (6, 95, 0, 0, []) by decide +kernel) rfl (by decide)) ?_
  refine Eq.trans (ev_gq (show zcode 125 95 = some (56, 98, 11, 11, []) by decide +kernel) (so0 hS) (sp0_11 hS)) ?_
  refine Eq.trans (ev_ci (show zcode 125 98 = some (0, 99, 0, 0, []) by decide +kernel) (by decide)) ?_
  exact ev_cvirt (show zcode 125 99 = some (76, 102, 118, 3, [0]) by decide +kernel) (args := [(2, 120), (0, 0)]) (rest := []) rfl (so78 hS) rfl (show 0 ≤ 8 by decide) ⟨by decide, show 3 ≤ 4 by decide⟩
theorem b125_102 {T : zT} {V : zM} {x1 : Int} {x2 : Int} {x3 : Int} : ev 125 102 [(2, 0), (0, x1), (0, x2), (0, x3)] [] T V = some ((9, 0), T, V) := by
  exact ev_rn (show zcode 125 102 = some (73, 103, 0, 0, []) by decide +kernel)
/-! 127: TwoWayWall.listSets(IZI)V -/
theorem e127 {T : zT} {V : zM} {x1 : Int} {x2 : Int} {x3 : Int} : zcall 127 [(2, 0), (0, x1), (0, x2), (0, x3)] T V = ev 127 0 [(2, 0), (0, x1), (0, x2), (0, x3), (9, 0), (9, 0), (9, 0), (9, 0), (9, 0)] [] T V := rfl
theorem b127_0 {T : zT} {V : zM} {x1 : Int} {x2 : Int} {x3 : Int} (hS : zStr T) (h1 : (0 : Int) ≤ x1 ∧ x1 < 16) : ev 127 0 [(2, 0), (0, x1), (0, x2), (0, x3), (9, 0), (9, 0), (9, 0), (9, 0), (9, 0)] [] T V = (zcall 20 [(2, 71)] T V).bind fun x => ev 127 37 [(2, 0), (0, x1), (0, x2), (0, x3), (0, (V 3 x1)), (0, (zand (V 2 x1) (zxor (V 3 x1) (-1)))), (0, 0), (9, 0), (9, 0)] (z_push x.1 []) x.2.1 x.2.2 := by
  refine Eq.trans (ev_lda (show zcode 127 0 = some (6, 1, 0, 0, []) by decide +kernel) rfl (by decide)) ?_
  refine Eq.trans (ev_gq (show zcode 127 1 = some (56, 4, 11, 0, []) by decide +kernel) (so0 hS) (sp0_0 hS)) ?_
  refine Eq.trans (ev_gq (show zcode 127 4 = some (56, 7, 6, 2, []) by decide +kernel) (so1 hS) (sp1_2 hS)) ?_
  refine Eq.trans (ev_ldi (show zcode 127 7 = some (4, 8, 1, 0, []) by decide +kernel) rfl) ?_
  refine Eq.trans (ev_ia (show zcode 127 8 = some (60, 9, 0, 0, []) by decide +kernel) (sa3 hS) h1) ?_
  refine Eq.trans (ev_sti (show zcode 127 9 = some (7, 11, 4, 0, []) by decide +kernel) ⟨show 4 < 9 by decide, Or.inr (show ¬ (0 : Nat) = 1 by decide)⟩) ?_
  refine Eq.trans (ev_lda (show zcode 127 11 = some (6, 12, 0, 0, []) by decide +kernel) rfl (by decide)) ?_
  refine Eq.trans (ev_gq (show zcode 127 12 = some (56, 15, 11, 0, []) by decide +kernel) (so0 hS) (sp0_0 hS)) ?_
  refine Eq.trans (ev_gq (show zcode 127 15 = some (56, 18, 6, 1, []) by decide +kernel) (so1 hS) (sp1_1 hS)) ?_
  refine Eq.trans (ev_ldi (show zcode 127 18 = some (4, 19, 1, 0, []) by decide +kernel) rfl) ?_
  refine Eq.trans (ev_ia (show zcode 127 19 = some (60, 20, 0, 0, []) by decide +kernel) (sa2 hS) h1) ?_
  refine Eq.trans (ev_ldi (show zcode 127 20 = some (4, 22, 4, 0, []) by decide +kernel) rfl) ?_
  refine Eq.trans (ev_ci (show zcode 127 22 = some (0, 23, 0, (-1), []) by decide +kernel) (by decide)) ?_
  refine Eq.trans (ev_xor (show zcode 127 23 = some (16, 24, 0, 0, []) by decide +kernel)) ?_
  refine Eq.trans (ev_and (show zcode 127 24 = some (14, 25, 0, 0, []) by decide +kernel)) ?_
  refine Eq.trans (ev_sti (show zcode 127 25 = some (7, 27, 5, 0, []) by decide +kernel) ⟨show 5 < 9 by decide, Or.inr (show ¬ (0 : Nat) = 1 by decide)⟩) ?_
  refine Eq.trans (ev_ci (show zcode 127 27 = some (0, 28, 0, 0, []) by decide +kernel) (by decide)) ?_
  refine Eq.trans (ev_sti (show zcode 127 28 = some (7, 30, 6, 0, []) by decide +kernel) ⟨show 6 < 9 by decide, Or.inr (show ¬ (0 : Nat) = 1 by decide)⟩) ?_
  refine Eq.trans (ev_lda (show zcode 127 30 = some (6, 31, 0, 0, []) by decide +kernel) rfl (by decide)) ?_
  refine Eq.trans (ev_gq (show zcode 127 31 = some (56, 34, 11, 7, []) by decide +kernel) (so0 hS) (sp0_7 hS)) ?_
  exact ev_cvirt (show zcode 127 34 = some (76, 37, 20, 1, [3]) by decide +kernel) (args := []) (rest := []) rfl (so71 hS) rfl (show 0 ≤ 8 by decide) ⟨by decide, show 1 ≤ 2 by decide⟩
theorem b127_37 {T : zT} {V : zM} {x1 : Int} {x2 : Int} {x3 : Int} {x4 : Int} {x5 : Int} {x6 : Int} : ev 127 37 [(2, 0), (0, x1), (0, x2), (0, x3), (0, x4), (0, x5), (0, x6), (9, 0), (9, 0)] [] T V = ev 127 40 [(2, 0), (0, x1), (0, x2), (0, x3), (0, x4), (0, x5), (0, x6), (0, 0), (9, 0)] [] T V := by
  refine Eq.trans (ev_ci (show zcode 127 37 = some (0, 38, 0, 0, []) by decide +kernel) (by decide)) ?_
  exact ev_sti (show zcode 127 38 = some (7, 40, 7, 0, []) by decide +kernel) ⟨show 7 < 9 by decide, Or.inr (show ¬ (0 : Nat) = 1 by decide)⟩
theorem b127_40 {T : zT} {V : zM} {x1 : Int} {x2 : Int} {x3 : Int} {x4 : Int} {x5 : Int} {x6 : Int} {x7 : Int} {v8 : zV} : ev 127 40 [(2, 0), (0, x1), (0, x2), (0, x3), (0, x4), (0, x5), (0, x6), (0, x7), v8] [] T V = (zcall 128 [(0, x4)] T V).bind fun x => ev 127 48 [(2, 0), (0, x1), (0, x2), (0, x3), (0, x4), (0, x5), (0, x6), (0, x7), v8] (z_push x.1 [(0, 1), (0, x7)]) x.2.1 x.2.2 := by
  refine Eq.trans (ev_ldi (show zcode 127 40 = some (4, 42, 7, 0, []) by decide +kernel) rfl) ?_
  refine Eq.trans (ev_ci (show zcode 127 42 = some (0, 43, 0, 1, []) by decide +kernel) (by decide)) ?_
  refine Eq.trans (ev_ldi (show zcode 127 43 = some (4, 45, 4, 0, []) by decide +kernel) rfl) ?_
  exact ev_cstat (show zcode 127 45 = some (74, 48, 128, 1, []) by decide +kernel) (args := [(0, x4)]) (rest := [(0, 1), (0, x7)]) rfl rfl (show 2 ≤ 8 by decide) ⟨by decide, show 1 ≤ 1 by decide⟩
theorem b127_48 {T : zT} {V : zM} {x1 : Int} {x2 : Int} {x3 : Int} {x4 : Int} {x5 : Int} {x6 : Int} {x7 : Int} {v8 : zV} {y0 : Int} {y1 : Int} {y2 : Int} (h1 : (0 : Int) ≤ y2 ∧ y2 < 32 ∧ z32 (y1 * 2 ^ (y2).toNat)) : ev 127 48 [(2, 0), (0, x1), (0, x2), (0, x3), (0, x4), (0, x5), (0, x6), (0, x7), v8] [(0, y2), (0, y1), (0, y0)] T V = if (y1 * 2 ^ (y2).toNat) ≤ y0 then ev 127 130 [(2, 0), (0, x1), (0, x2), (0, x3), (0, x4), (0, x5), (0, x6), (0, x7), v8] [] T V else ev 127 52 [(2, 0), (0, x1), (0, x2), (0, x3), (0, x4), (0, x5), (0, x6), (0, x7), v8] [] T V := by
  refine Eq.trans (ev_shl (show zcode 127 48 = some (20, 49, 0, 0, []) by decide +kernel) h1) ?_
  exact ev_cge (show zcode 127 49 = some (49, 52, 130, 0, []) by decide +kernel)
theorem b127_52 {T : zT} {V : zM} {x1 : Int} {x2 : Int} {x3 : Int} {x4 : Int} {x5 : Int} {x6 : Int} {x7 : Int} {v8 : zV} : ev 127 52 [(2, 0), (0, x1), (0, x2), (0, x3), (0, x4), (0, x5), (0, x6), (0, x7), v8] [] T V = if x2 = 0 then ev 127 63 [(2, 0), (0, x1), (0, x2), (0, x3), (0, x4), (0, x5), (0, x6), (0, x7), (0, (zor x5 x6))] [] T V else ev 127 80 [(2, 0), (0, x1), (0, x2), (0, x3), (0, x4), (0, x5), (0, x6), (0, x7), (0, (zor x5 x6))] [] T V := by
  refine Eq.trans (ev_ldi (show zcode 127 52 = some (4, 54, 5, 0, []) by decide +kernel) rfl) ?_
  refine Eq.trans (ev_ldi (show zcode 127 54 = some (4, 56, 6, 0, []) by decide +kernel) rfl) ?_
  refine Eq.trans (ev_or (show zcode 127 56 = some (15, 57, 0, 0, []) by decide +kernel)) ?_
  refine Eq.trans (ev_sti (show zcode 127 57 = some (7, 59, 8, 0, []) by decide +kernel) ⟨show 8 < 9 by decide, Or.inr (show ¬ (0 : Nat) = 1 by decide)⟩) ?_
  refine Eq.trans (ev_ldi (show zcode 127 59 = some (4, 60, 2, 0, []) by decide +kernel) rfl) ?_
  exact ev_ne (show zcode 127 60 = some (41, 63, 80, 0, []) by decide +kernel)
theorem b127_63 {T : zT} {V : zM} {x1 : Int} {x2 : Int} {x3 : Int} {x4 : Int} {x5 : Int} {x6 : Int} {x7 : Int} {x8 : Int} (hS : zStr T)  : ev 127 63 [(2, 0), (0, x1), (0, x2), (0, x3), (0, x4), (0, x5), (0, x6), (0, x7), (0, x8)] [] T V = (zcall 21 [(2, 71), (2, 59), (0, x8), (0, 0)] T V).bind fun x => ev 127 77 [(2, 0), (0, x1), (0, x2), (0, x3), (0, x4), (0, x5), (0, x6), (0, x7), (0, x8)] (z_push x.1 []) x.2.1 x.2.2 := by
  refine Eq.trans (ev_lda (show zcode 127 63 = some (6, 64, 0, 0, []) by decide +kernel) rfl (by decide)) ?_
  refine Eq.trans (ev_gq (show zcode 127 64 = some (56, 67, 11, 7, []) by decide +kernel) (so0 hS) (sp0_7 hS)) ?_
  refine Eq.trans (ev_lda (show zcode 127 67 = some (6, 68, 0, 0, []) by decide +kernel) rfl (by decide)) ?_
  refine Eq.trans (ev_gq (show zcode 127 68 = some (56, 71, 11, 5, []) by decide +kernel) (so0 hS) (sp0_5 hS)) ?_
  refine Eq.trans (ev_ldi (show zcode 127 71 = some (4, 73, 8, 0, []) by decide +kernel) rfl) ?_
  refine Eq.trans (ev_ci (show zcode 127 73 = some (0, 74, 0, 0, []) by decide +kernel) (by decide)) ?_
  exact ev_cvirt (show zcode 127 74 = some (76, 77, 21, 4, [3]) by decide +kernel) (args := [(2, 59), (0, x8), (0, 0)]) (rest := []) rfl (so71 hS) rfl (show 0 ≤ 8 by decide) ⟨by decide, show 4 ≤ 5 by decide⟩
theorem b127_77 {T : zT} {V : zM} {x1 : Int} {x2 : Int} {x3 : Int} {x4 : Int} {x5 : Int} {x6 : Int} {x7 : Int} {x8 : Int} : ev 127 77 [(2, 0), (0, x1), (0, x2), (0, x3), (0, x4), (0, x5), (0, x6), (0, x7), (0, x8)] [] T V = ev 127 114 [(2, 0), (0, x1), (0, x2), (0, x3), (0, x4), (0, x5), (0, x6), (0, x7), (0, x8)] [] T V := by
  exact ev_goto (show zcode 127 77 = some (53, 80, 114, 0, []) by decide +kernel)
theorem b127_80 {T : zT} {V : zM} {x1 : Int} {x2 : Int} {x3 : Int} {x4 : Int} {x5 : Int} {x6 : Int} {x7 : Int} {x8 : Int} : ev 127 80 [(2, 0), (0, x1), (0, x2), (0, x3), (0, x4), (0, x5), (0, x6), (0, x7), (0, x8)] [] T V = if (zand x8 x3) = x3 then ev 127 88 [(2, 0), (0, x1), (0, x2), (0, x3), (0, x4), (0, x5), (0, x6), (0, x7), (0, x8)] [] T V else ev 127 114 [(2, 0), (0, x1), (0, x2), (0, x3), (0, x4), (0, x5), (0, x6), (0, x7), (0, x8)] [] T V := by
  refine Eq.trans (ev_ldi (show zcode 127 80 = some (4, 82, 8, 0, []) by decide +kernel) rfl) ?_
  refine Eq.trans (ev_ldi (show zcode 127 82 = some (4, 83, 3, 0, []) by decide +kernel) rfl) ?_
  refine Eq.trans (ev_and (show zcode 127 83 = some (14, 84, 0, 0, []) by decide +kernel)) ?_
  refine Eq.trans (ev_ldi (show zcode 127 84 = some (4, 85, 3, 0, []) by decide +kernel) rfl) ?_
  exact ev_cne (show zcode 127 85 = some (47, 88, 114, 0, []) by decide +kernel)
theorem b127_88 {T : zT} {V : zM} {x1 : Int} {x2 : Int} {x3 : Int} {x4 : Int} {x5 : Int} {x6 : Int} {x7 : Int} {x8 : Int} (hS : zStr T) (h1 : -2147483648 ≤ ((zand 127 (zxor x8 (-1))) * 128) ∧ ((zand 127 (zxor x8 (-1))) * 128) ≤ 2147483647) : ev 127 88 [(2, 0), (0, x1), (0, x2), (0, x3), (0, x4), (0, x5), (0, x6), (0, x7), (0, x8)] [] T V = (zcall 21 [(2, 71), (2, 59), (0, x8), (0, (zor x8 ((zand 127 (zxor x8 (-1))) * 128)))] T V).bind fun x => ev 127 114 [(2, 0), (0, x1), (0, x2), (0, x3), (0, x4), (0, x5), (0, x6), (0, x7), (0, x8)] (z_push x.1 []) x.2.1 x.2.2 := by
  refine Eq.trans (ev_lda (show zcode 127 88 = some (6, 89, 0, 0, []) by decide +kernel) rfl (by decide)) ?_
  refine Eq.trans (ev_gq (show zcode 127 89 = some (56, 92, 11, 7, []) by decide +kernel) (so0 hS) (sp0_7 hS)) ?_
  refine Eq.trans (ev_lda (show zcode 127 92 = some (6, 93, 0, 0, []) by decide +kernel) rfl (by decide)) ?_
  refine Eq.trans (ev_gq (show zcode 127 93 = some (56, 96, 11, 5, []) by decide +kernel) (so0 hS) (sp0_5 hS)) ?_
  refine Eq.trans (ev_ldi (show zcode 127 96 = some (4, 98, 8, 0, []) by decide +kernel) rfl) ?_
  refine Eq.trans (ev_ldi (show zcode 127 98 = some (4, 100, 8, 0, []) by decide +kernel) rfl) ?_
  refine Eq.trans (ev_ci (show zcode 127 100 = some (0, 102, 0, 127, []) by decide +kernel) (by decide)) ?_
  refine Eq.trans (ev_ldi (show zcode 127 102 = some (4, 104, 8, 0, []) by decide +kernel) rfl) ?_
  refine Eq.trans (ev_ci (show zcode 127 104 = some (0, 105, 0, (-1), []) by decide +kernel) (by decide)) ?_
  refine Eq.trans (ev_xor (show zcode 127 105 = some (16, 106, 0, 0, []) by decide +kernel)) ?_
  refine Eq.trans (ev_and (show zcode 127 106 = some (14, 107, 0, 0, []) by decide +kernel)) ?_
  refine Eq.trans (ev_ci (show zcode 127 107 = some (0, 109, 0, 7, []) by decide +kernel) (by decide)) ?_
  refine Eq.trans (ev_shl2 (show zcode 127 109 = some (20, 110, 0, 0, []) by decide +kernel) (p := 128) (by decide) (by decide) h1) ?_
  refine Eq.trans (ev_or (show zcode 127 110 = some (15, 111, 0, 0, []) by decide +kernel)) ?_
  exact ev_cvirt (show zcode 127 111 = some (76, 114, 21, 4, [3]) by decide +kernel) (args := [(2, 59), (0, x8), (0, (zor x8 ((zand 127 (zxor x8 (-1))) * 128)))]) (rest := []) rfl (so71 hS) rfl (show 0 ≤ 8 by decide) ⟨by decide, show 4 ≤ 5 by decide⟩
theorem b127_114 {T : zT} {V : zM} {x1 : Int} {x2 : Int} {x3 : Int} {x4 : Int} {x5 : Int} {x6 : Int} {x7 : Int} {x8 : Int} (h1 : -2147483648 ≤ (x6 - x4) ∧ (x6 - x4) ≤ 2147483647) (h2 : -2147483648 ≤ (x7 + 1) ∧ (x7 + 1) ≤ 2147483647) : ev 127 114 [(2, 0), (0, x1), (0, x2), (0, x3), (0, x4), (0, x5), (0, x6), (0, x7), (0, x8)] [] T V = ev 127 40 [(2, 0), (0, x1), (0, x2), (0, x3), (0, x4), (0, x5), (0, (zand (x6 - x4) x4)), (0, (x7 + 1)), (0, x8)] [] T V := by
  refine Eq.trans (ev_ldi (show zcode 127 114 = some (4, 116, 6, 0, []) by decide +kernel) rfl) ?_
  refine Eq.trans (ev_ldi (show zcode 127 116 = some (4, 118, 4, 0, []) by decide +kernel) rfl) ?_
  refine Eq.trans (ev_sub (show zcode 127 118 = some (12, 119, 0, 0, []) by decide +kernel) h1) ?_
  refine Eq.trans (ev_ldi (show zcode 127 119 = some (4, 121, 4, 0, []) by decide +kernel) rfl) ?_
  refine Eq.trans (ev_and (show zcode 127 121 = some (14, 122, 0, 0, []) by decide +kernel)) ?_
  refine Eq.trans (ev_sti (show zcode 127 122 = some (7, 124, 6, 0, []) by decide +kernel) ⟨show 6 < 9 by decide, Or.inr (show ¬ (0 : Nat) = 1 by decide)⟩) ?_
  refine Eq.trans (ev_inc (show zcode 127 124 = some (10, 127, 7, 1, []) by decide +kernel) rfl h2 (Or.inr (show ¬ (0 : Nat) = 1 by decide))) ?_
  exact ev_goto (show zcode 127 127 = some (53, 130, 40, 0, []) by decide +kernel)
theorem b127_130 {T : zT} {V : zM} {x1 : Int} {x2 : Int} {x3 : Int} {x4 : Int} {x5 : Int} {x6 : Int} {x7 : Int} {v8 : zV} : ev 127 130 [(2, 0), (0, x1), (0, x2), (0, x3), (0, x4), (0, x5), (0, x6), (0, x7), v8] [] T V = some ((9, 0), T, V) := by
  exact ev_rn (show zcode 127 130 = some (73, 131, 0, 0, []) by decide +kernel)
/-! 129: TwoWayWall.sure(II)I -/
theorem e129 {T : zT} {V : zM} {x1 : Int} {x2 : Int} : zcall 129 [(2, 0), (0, x1), (0, x2)] T V = ev 129 0 [(2, 0), (0, x1), (0, x2), (9, 0), (9, 0)] [] T V := rfl
theorem b129_0 {T : zT} {V : zM} {x1 : Int} {x2 : Int} (hS : zStr T)  : ev 129 0 [(2, 0), (0, x1), (0, x2), (9, 0), (9, 0)] [] T V = (zcall 28 [(2, 1), (0, x1)] T V).bind fun x => ev 129 8 [(2, 0), (0, x1), (0, x2), (9, 0), (9, 0)] (z_push x.1 []) x.2.1 x.2.2 := by
  refine Eq.trans (ev_lda (show zcode 129 0 = some (6, 1, 0, 0, []) by decide +kernel) rfl (by decide)) ?_
  refine Eq.trans (ev_gq (show zcode 129 1 = some (56, 4, 11, 0, []) by decide +kernel) (so0 hS) (sp0_0 hS)) ?_
  refine Eq.trans (ev_ldi (show zcode 129 4 = some (4, 5, 1, 0, []) by decide +kernel) rfl) ?_
  exact ev_cvirt (show zcode 129 5 = some (76, 8, 28, 2, [6]) by decide +kernel) (args := [(0, x1)]) (rest := []) rfl (so1 hS) rfl (show 0 ≤ 8 by decide) ⟨by decide, show 2 ≤ 2 by decide⟩
theorem b129_8 {T : zT} {V : zM} {x1 : Int} {x2 : Int} {y0 : Int} : ev 129 8 [(2, 0), (0, x1), (0, x2), (9, 0), (9, 0)] [(0, y0)] T V = if y0 = 0 then ev 129 20 [(2, 0), (0, x1), (0, x2), (9, 0), (9, 0)] [] T V else ev 129 11 [(2, 0), (0, x1), (0, x2), (9, 0), (9, 0)] [] T V := by
  exact ev_eq (show zcode 129 8 = some (40, 11, 20, 0, []) by decide +kernel)
theorem b129_11 {T : zT} {V : zM} {x1 : Int} {x2 : Int} : ev 129 11 [(2, 0), (0, x1), (0, x2), (9, 0), (9, 0)] [] T V = if x2 < 0 then ev 129 20 [(2, 0), (0, x1), (0, x2), (9, 0), (9, 0)] [] T V else ev 129 15 [(2, 0), (0, x1), (0, x2), (9, 0), (9, 0)] [] T V := by
  refine Eq.trans (ev_ldi (show zcode 129 11 = some (4, 12, 2, 0, []) by decide +kernel) rfl) ?_
  exact ev_lt (show zcode 129 12 = some (42, 15, 20, 0, []) by decide +kernel)
theorem b129_15 {T : zT} {V : zM} {x1 : Int} {x2 : Int} : ev 129 15 [(2, 0), (0, x1), (0, x2), (9, 0), (9, 0)] [] T V = if x2 ≤ 2 then ev 129 22 [(2, 0), (0, x1), (0, x2), (9, 0), (9, 0)] [] T V else ev 129 20 [(2, 0), (0, x1), (0, x2), (9, 0), (9, 0)] [] T V := by
  refine Eq.trans (ev_ldi (show zcode 129 15 = some (4, 16, 2, 0, []) by decide +kernel) rfl) ?_
  refine Eq.trans (ev_ci (show zcode 129 16 = some (0, 17, 0, 2, []) by decide +kernel) (by decide)) ?_
  exact ev_cle (show zcode 129 17 = some (51, 20, 22, 0, []) by decide +kernel)
theorem b129_20 {T : zT} {V : zM} {x1 : Int} {x2 : Int} : ev 129 20 [(2, 0), (0, x1), (0, x2), (9, 0), (9, 0)] [] T V = some ((0, (-1)), T, V) := by
  refine Eq.trans (ev_ci (show zcode 129 20 = some (0, 21, 0, (-1), []) by decide +kernel) (by decide)) ?_
  exact ev_ri (show zcode 129 21 = some (72, 22, 0, 0, []) by decide +kernel)
theorem b129_22 {T : zT} {V : zM} {x1 : Int} {x2 : Int} (hS : zStr T)  : ev 129 22 [(2, 0), (0, x1), (0, x2), (9, 0), (9, 0)] [] T V = (zcall 125 [(2, 0), (0, x1), (0, 0)] T V).bind fun x => ev 129 28 [(2, 0), (0, x1), (0, x2), (9, 0), (9, 0)] (z_push x.1 []) x.2.1 x.2.2 := by
  refine Eq.trans (ev_lda (show zcode 129 22 = some (6, 23, 0, 0, []) by decide +kernel) rfl (by decide)) ?_
  refine Eq.trans (ev_ldi (show zcode 129 23 = some (4, 24, 1, 0, []) by decide +kernel) rfl) ?_
  refine Eq.trans (ev_ci (show zcode 129 24 = some (0, 25, 0, 0, []) by decide +kernel) (by decide)) ?_
  exact ev_cvirt (show zcode 129 25 = some (76, 28, 125, 3, [11]) by decide +kernel) (args := [(0, x1), (0, 0)]) (rest := []) rfl (so0 hS) rfl (show 0 ≤ 8 by decide) ⟨by decide, show 3 ≤ 4 by decide⟩
theorem b129_28 {T : zT} {V : zM} {x1 : Int} {x2 : Int} (hS : zStr T)  : ev 129 28 [(2, 0), (0, x1), (0, x2), (9, 0), (9, 0)] [] T V = if (V 123 0) = 0 then ev 129 42 [(2, 0), (0, x1), (0, x2), (9, 0), (9, 0)] [] T V else ev 129 44 [(2, 0), (0, x1), (0, x2), (9, 0), (9, 0)] [] T V := by
  refine Eq.trans (ev_lda (show zcode 129 28 = some (6, 29, 0, 0, []) by decide +kernel) rfl (by decide)) ?_
  refine Eq.trans (ev_gq (show zcode 129 29 = some (56, 32, 11, 11, []) by decide +kernel) (so0 hS) (sp0_11 hS)) ?_
  refine Eq.trans (ev_gq (show zcode 129 32 = some (56, 35, 1, 3, []) by decide +kernel) (so120 hS) (sp120_3 hS)) ?_
  refine Eq.trans (ev_ci (show zcode 129 35 = some (0, 36, 0, 0, []) by decide +kernel) (by decide)) ?_
  refine Eq.trans (ev_la (show zcode 129 36 = some (61, 37, 0, 0, []) by decide +kernel) (sa123 hS) (by decide)) ?_
  refine Eq.trans (ev_cl (show zcode 129 37 = some (1, 38, 0, 0, []) by decide +kernel) (by decide)) ?_
  exact ev_lne (show zcode 129 38 = some (31, 39, 0, 0, []) by decide +kernel) (show zcode 129 39 = some (41, 42, 44, 0, []) by decide +kernel)
theorem b129_42 {T : zT} {V : zM} {x1 : Int} {x2 : Int} : ev 129 42 [(2, 0), (0, x1), (0, x2), (9, 0), (9, 0)] [] T V = some ((0, (-1)), T, V) := by
  refine Eq.trans (ev_ci (show zcode 129 42 = some (0, 43, 0, (-1), []) by decide +kernel) (by decide)) ?_
  exact ev_ri (show zcode 129 43 = some (72, 44, 0, 0, []) by decide +kernel)
theorem b129_44 {T : zT} {V : zM} {x1 : Int} {x2 : Int} (hS : zStr T)  : ev 129 44 [(2, 0), (0, x1), (0, x2), (9, 0), (9, 0)] [] T V = if x2 = 0 then ev 129 78 [(2, 0), (0, x1), (0, x2), (0, (zand (V 127 0) 127)), (0, (zand ((V 127 0) / 128) 127))] [] T V else ev 129 95 [(2, 0), (0, x1), (0, x2), (0, (zand (V 127 0) 127)), (0, (zand ((V 127 0) / 128) 127))] [] T V := by
  refine Eq.trans (ev_lda (show zcode 129 44 = some (6, 45, 0, 0, []) by decide +kernel) rfl (by decide)) ?_
  refine Eq.trans (ev_gq (show zcode 129 45 = some (56, 48, 11, 11, []) by decide +kernel) (so0 hS) (sp0_11 hS)) ?_
  refine Eq.trans (ev_gq (show zcode 129 48 = some (56, 51, 1, 7, []) by decide +kernel) (so120 hS) (sp120_7 hS)) ?_
  refine Eq.trans (ev_ci (show zcode 129 51 = some (0, 52, 0, 0, []) by decide +kernel) (by decide)) ?_
  refine Eq.trans (ev_ia (show zcode 129 52 = some (60, 53, 0, 0, []) by decide +kernel) (sa127 hS) (by decide)) ?_
  refine Eq.trans (ev_ci (show zcode 129 53 = some (0, 55, 0, 127, []) by decide +kernel) (by decide)) ?_
  refine Eq.trans (ev_and (show zcode 129 55 = some (14, 56, 0, 0, []) by decide +kernel)) ?_
  refine Eq.trans (ev_sti (show zcode 129 56 = some (7, 57, 3, 0, []) by decide +kernel) ⟨show 3 < 5 by decide, Or.inr (show ¬ (0 : Nat) = 1 by decide)⟩) ?_
  refine Eq.trans (ev_lda (show zcode 129 57 = some (6, 58, 0, 0, []) by decide +kernel) rfl (by decide)) ?_
  refine Eq.trans (ev_gq (show zcode 129 58 = some (56, 61, 11, 11, []) by decide +kernel) (so0 hS) (sp0_11 hS)) ?_
  refine Eq.trans (ev_gq (show zcode 129 61 = some (56, 64, 1, 7, []) by decide +kernel) (so120 hS) (sp120_7 hS)) ?_
  refine Eq.trans (ev_ci (show zcode 129 64 = some (0, 65, 0, 0, []) by decide +kernel) (by decide)) ?_
  refine Eq.trans (ev_ia (show zcode 129 65 = some (60, 66, 0, 0, []) by decide +kernel) (sa127 hS) (by decide)) ?_
  refine Eq.trans (ev_ci (show zcode 129 66 = some (0, 68, 0, 7, []) by decide +kernel) (by decide)) ?_
  refine Eq.trans (ev_shr2 (show zcode 129 68 = some (21, 69, 0, 0, []) by decide +kernel) (p := 128) (by decide) (by decide)) ?_
  refine Eq.trans (ev_ci (show zcode 129 69 = some (0, 71, 0, 127, []) by decide +kernel) (by decide)) ?_
  refine Eq.trans (ev_and (show zcode 129 71 = some (14, 72, 0, 0, []) by decide +kernel)) ?_
  refine Eq.trans (ev_sti (show zcode 129 72 = some (7, 74, 4, 0, []) by decide +kernel) ⟨show 4 < 5 by decide, Or.inr (show ¬ (0 : Nat) = 1 by decide)⟩) ?_
  refine Eq.trans (ev_ldi (show zcode 129 74 = some (4, 75, 2, 0, []) by decide +kernel) rfl) ?_
  exact ev_ne (show zcode 129 75 = some (41, 78, 95, 0, []) by decide +kernel)
theorem b129_78 {T : zT} {V : zM} {x1 : Int} {x2 : Int} {x3 : Int} {x4 : Int} (hS : zStr T) (h1 : (0 : Int) ≤ x1 ∧ x1 < 16) : ev 129 78 [(2, 0), (0, x1), (0, x2), (0, x3), (0, x4)] [] T V = some ((0, (zand (zand (V 3 x1) x3) (zxor x4 (-1)))), T, V) := by
  refine Eq.trans (ev_lda (show zcode 129 78 = some (6, 79, 0, 0, []) by decide +kernel) rfl (by decide)) ?_
  refine Eq.trans (ev_gq (show zcode 129 79 = some (56, 82, 11, 0, []) by decide +kernel) (so0 hS) (sp0_0 hS)) ?_
  refine Eq.trans (ev_gq (show zcode 129 82 = some (56, 85, 6, 2, []) by decide +kernel) (so1 hS) (sp1_2 hS)) ?_
  refine Eq.trans (ev_ldi (show zcode 129 85 = some (4, 86, 1, 0, []) by decide +kernel) rfl) ?_
  refine Eq.trans (ev_ia (show zcode 129 86 = some (60, 87, 0, 0, []) by decide +kernel) (sa3 hS) h1) ?_
  refine Eq.trans (ev_ldi (show zcode 129 87 = some (4, 88, 3, 0, []) by decide +kernel) rfl) ?_
  refine Eq.trans (ev_and (show zcode 129 88 = some (14, 89, 0, 0, []) by decide +kernel)) ?_
  refine Eq.trans (ev_ldi (show zcode 129 89 = some (4, 91, 4, 0, []) by decide +kernel) rfl) ?_
  refine Eq.trans (ev_ci (show zcode 129 91 = some (0, 92, 0, (-1), []) by decide +kernel) (by decide)) ?_
  refine Eq.trans (ev_xor (show zcode 129 92 = some (16, 93, 0, 0, []) by decide +kernel)) ?_
  refine Eq.trans (ev_and (show zcode 129 93 = some (14, 94, 0, 0, []) by decide +kernel)) ?_
  exact ev_ri (show zcode 129 94 = some (72, 95, 0, 0, []) by decide +kernel)
theorem b129_95 {T : zT} {V : zM} {x1 : Int} {x2 : Int} {x3 : Int} {x4 : Int} (hS : zStr T) (h1 : (0 : Int) ≤ x1 ∧ x1 < 16) : ev 129 95 [(2, 0), (0, x1), (0, x2), (0, x3), (0, x4)] [] T V = if x2 = 1 then ev 129 112 [(2, 0), (0, x1), (0, x2), (0, x3), (0, x4)] [(0, (zand (V 3 x1) x4))] T V else ev 129 118 [(2, 0), (0, x1), (0, x2), (0, x3), (0, x4)] [(0, (zand (V 3 x1) x4))] T V := by
  refine Eq.trans (ev_lda (show zcode 129 95 = some (6, 96, 0, 0, []) by decide +kernel) rfl (by decide)) ?_
  refine Eq.trans (ev_gq (show zcode 129 96 = some (56, 99, 11, 0, []) by decide +kernel) (so0 hS) (sp0_0 hS)) ?_
  refine Eq.trans (ev_gq (show zcode 129 99 = some (56, 102, 6, 2, []) by decide +kernel) (so1 hS) (sp1_2 hS)) ?_
  refine Eq.trans (ev_ldi (show zcode 129 102 = some (4, 103, 1, 0, []) by decide +kernel) rfl) ?_
  refine Eq.trans (ev_ia (show zcode 129 103 = some (60, 104, 0, 0, []) by decide +kernel) (sa3 hS) h1) ?_
  refine Eq.trans (ev_ldi (show zcode 129 104 = some (4, 106, 4, 0, []) by decide +kernel) rfl) ?_
  refine Eq.trans (ev_and (show zcode 129 106 = some (14, 107, 0, 0, []) by decide +kernel)) ?_
  refine Eq.trans (ev_ldi (show zcode 129 107 = some (4, 108, 2, 0, []) by decide +kernel) rfl) ?_
  refine Eq.trans (ev_ci (show zcode 129 108 = some (0, 109, 0, 1, []) by decide +kernel) (by decide)) ?_
  exact ev_cne (show zcode 129 109 = some (47, 112, 118, 0, []) by decide +kernel)
theorem b129_112 {T : zT} {V : zM} {x1 : Int} {x2 : Int} {x3 : Int} {x4 : Int} {y0 : Int} : ev 129 112 [(2, 0), (0, x1), (0, x2), (0, x3), (0, x4)] [(0, y0)] T V = ev 129 119 [(2, 0), (0, x1), (0, x2), (0, x3), (0, x4)] [(0, (zxor x3 (-1))), (0, y0)] T V := by
  refine Eq.trans (ev_ldi (show zcode 129 112 = some (4, 113, 3, 0, []) by decide +kernel) rfl) ?_
  refine Eq.trans (ev_ci (show zcode 129 113 = some (0, 114, 0, (-1), []) by decide +kernel) (by decide)) ?_
  refine Eq.trans (ev_xor (show zcode 129 114 = some (16, 115, 0, 0, []) by decide +kernel)) ?_
  exact ev_goto (show zcode 129 115 = some (53, 118, 119, 0, []) by decide +kernel)
theorem b129_118 {T : zT} {V : zM} {x1 : Int} {x2 : Int} {x3 : Int} {x4 : Int} {y0 : Int} : ev 129 118 [(2, 0), (0, x1), (0, x2), (0, x3), (0, x4)] [(0, y0)] T V = ev 129 119 [(2, 0), (0, x1), (0, x2), (0, x3), (0, x4)] [(0, x3), (0, y0)] T V := by
  exact ev_ldi (show zcode 129 118 = some (4, 119, 3, 0, []) by decide +kernel) rfl
theorem b129_119 {T : zT} {V : zM} {x1 : Int} {x2 : Int} {x3 : Int} {x4 : Int} {y0 : Int} {y1 : Int} : ev 129 119 [(2, 0), (0, x1), (0, x2), (0, x3), (0, x4)] [(0, y1), (0, y0)] T V = some ((0, (zand y0 y1)), T, V) := by
  refine Eq.trans (ev_and (show zcode 129 119 = some (14, 120, 0, 0, []) by decide +kernel)) ?_
  exact ev_ri (show zcode 129 120 = some (72, 121, 0, 0, []) by decide +kernel)
/-! 130: TwoWayWall.often(II)J -/
theorem e130 {T : zT} {V : zM} {x1 : Int} {x2 : Int} : zcall 130 [(2, 0), (0, x1), (0, x2)] T V = ev 130 0 [(2, 0), (0, x1), (0, x2)] [] T V := rfl
theorem b130_0 {T : zT} {V : zM} {x1 : Int} {x2 : Int} (hS : zStr T)  : ev 130 0 [(2, 0), (0, x1), (0, x2)] [] T V = (zcall 28 [(2, 1), (0, x1)] T V).bind fun x => ev 130 8 [(2, 0), (0, x1), (0, x2)] (z_push x.1 []) x.2.1 x.2.2 := by
  refine Eq.trans (ev_lda (show zcode 130 0 = some (6, 1, 0, 0, []) by decide +kernel) rfl (by decide)) ?_
  refine Eq.trans (ev_gq (show zcode 130 1 = some (56, 4, 11, 0, []) by decide +kernel) (so0 hS) (sp0_0 hS)) ?_
  refine Eq.trans (ev_ldi (show zcode 130 4 = some (4, 5, 1, 0, []) by decide +kernel) rfl) ?_
  exact ev_cvirt (show zcode 130 5 = some (76, 8, 28, 2, [6]) by decide +kernel) (args := [(0, x1)]) (rest := []) rfl (so1 hS) rfl (show 0 ≤ 8 by decide) ⟨by decide, show 2 ≤ 2 by decide⟩
theorem b130_8 {T : zT} {V : zM} {x1 : Int} {x2 : Int} {y0 : Int} : ev 130 8 [(2, 0), (0, x1), (0, x2)] [(0, y0)] T V = if y0 = 0 then ev 130 22 [(2, 0), (0, x1), (0, x2)] [] T V else ev 130 11 [(2, 0), (0, x1), (0, x2)] [] T V := by
  exact ev_eq (show zcode 130 8 = some (40, 11, 22, 0, []) by decide +kernel)
theorem b130_11 {T : zT} {V : zM} {x1 : Int} {x2 : Int} : ev 130 11 [(2, 0), (0, x1), (0, x2)] [] T V = if x2 < 1 then ev 130 22 [(2, 0), (0, x1), (0, x2)] [] T V else ev 130 16 [(2, 0), (0, x1), (0, x2)] [] T V := by
  refine Eq.trans (ev_ldi (show zcode 130 11 = some (4, 12, 2, 0, []) by decide +kernel) rfl) ?_
  refine Eq.trans (ev_ci (show zcode 130 12 = some (0, 13, 0, 1, []) by decide +kernel) (by decide)) ?_
  exact ev_clt (show zcode 130 13 = some (48, 16, 22, 0, []) by decide +kernel)
theorem b130_16 {T : zT} {V : zM} {x1 : Int} {x2 : Int} : ev 130 16 [(2, 0), (0, x1), (0, x2)] [] T V = if x2 ≤ 7 then ev 130 26 [(2, 0), (0, x1), (0, x2)] [] T V else ev 130 22 [(2, 0), (0, x1), (0, x2)] [] T V := by
  refine Eq.trans (ev_ldi (show zcode 130 16 = some (4, 17, 2, 0, []) by decide +kernel) rfl) ?_
  refine Eq.trans (ev_ci (show zcode 130 17 = some (0, 19, 0, 7, []) by decide +kernel) (by decide)) ?_
  exact ev_cle (show zcode 130 19 = some (51, 22, 26, 0, []) by decide +kernel)
theorem b130_22 {T : zT} {V : zM} {x1 : Int} {x2 : Int} : ev 130 22 [(2, 0), (0, x1), (0, x2)] [] T V = some ((1, (-1)), T, V) := by
  refine Eq.trans (ev_cl (show zcode 130 22 = some (1, 25, 0, (-1), []) by decide +kernel) (by decide)) ?_
  exact ev_rl (show zcode 130 25 = some (72, 26, 1, 0, []) by decide +kernel)
theorem b130_26 {T : zT} {V : zM} {x1 : Int} {x2 : Int} (hS : zStr T) (h1 : -2147483648 ≤ (x2 - 1) ∧ (x2 - 1) ≤ 2147483647) (h2 : (0 : Int) ≤ (x2 - 1) ∧ (x2 - 1) ≤ 30) : ev 130 26 [(2, 0), (0, x1), (0, x2)] [] T V = (zcall 125 [(2, 0), (0, x1), (0, ((2 : Int) ^ ((x2 - 1)).toNat))] T V).bind fun x => ev 130 36 [(2, 0), (0, x1), (0, x2)] (z_push x.1 []) x.2.1 x.2.2 := by
  refine Eq.trans (ev_lda (show zcode 130 26 = some (6, 27, 0, 0, []) by decide +kernel) rfl (by decide)) ?_
  refine Eq.trans (ev_ldi (show zcode 130 27 = some (4, 28, 1, 0, []) by decide +kernel) rfl) ?_
  refine Eq.trans (ev_ci (show zcode 130 28 = some (0, 29, 0, 1, []) by decide +kernel) (by decide)) ?_
  refine Eq.trans (ev_ldi (show zcode 130 29 = some (4, 30, 2, 0, []) by decide +kernel) rfl) ?_
  refine Eq.trans (ev_ci (show zcode 130 30 = some (0, 31, 0, 1, []) by decide +kernel) (by decide)) ?_
  refine Eq.trans (ev_sub (show zcode 130 31 = some (12, 32, 0, 0, []) by decide +kernel) h1) ?_
  refine Eq.trans (ev_shl1 (show zcode 130 32 = some (20, 33, 0, 0, []) by decide +kernel) h2) ?_
  exact ev_cvirt (show zcode 130 33 = some (76, 36, 125, 3, [11]) by decide +kernel) (args := [(0, x1), (0, ((2 : Int) ^ ((x2 - 1)).toNat))]) (rest := []) rfl (so0 hS) rfl (show 0 ≤ 8 by decide) ⟨by decide, show 3 ≤ 4 by decide⟩
theorem b130_36 {T : zT} {V : zM} {x1 : Int} {x2 : Int} (hS : zStr T)  : ev 130 36 [(2, 0), (0, x1), (0, x2)] [] T V = some ((1, (V 123 0)), T, V) := by
  refine Eq.trans (ev_lda (show zcode 130 36 = some (6, 37, 0, 0, []) by decide +kernel) rfl (by decide)) ?_
  refine Eq.trans (ev_gq (show zcode 130 37 = some (56, 40, 11, 11, []) by decide +kernel) (so0 hS) (sp0_11 hS)) ?_
  refine Eq.trans (ev_gq (show zcode 130 40 = some (56, 43, 1, 3, []) by decide +kernel) (so120 hS) (sp120_3 hS)) ?_
  refine Eq.trans (ev_ci (show zcode 130 43 = some (0, 44, 0, 0, []) by decide +kernel) (by decide)) ?_
  refine Eq.trans (ev_la (show zcode 130 44 = some (61, 45, 0, 0, []) by decide +kernel) (sa123 hS) (by decide)) ?_
  exact ev_rl (show zcode 130 45 = some (72, 46, 1, 0, []) by decide +kernel)
/-! 131: TwoWayWall.yard(IIIII)I -/
theorem e131 {T : zT} {V : zM} {x1 : Int} {x2 : Int} {x3 : Int} {x4 : Int} {x5 : Int} : zcall 131 [(2, 0), (0, x1), (0, x2), (0, x3), (0, x4), (0, x5)] T V = ev 131 0 [(2, 0), (0, x1), (0, x2), (0, x3), (0, x4), (0, x5), (9, 0), (9, 0)] [] T V := rfl
theorem b131_0 {T : zT} {V : zM} {x1 : Int} {x2 : Int} {x3 : Int} {x4 : Int} {x5 : Int} (hS : zStr T)  : ev 131 0 [(2, 0), (0, x1), (0, x2), (0, x3), (0, x4), (0, x5), (9, 0), (9, 0)] [] T V = (zcall 28 [(2, 1), (0, x1)] T V).bind fun x => ev 131 8 [(2, 0), (0, x1), (0, x2), (0, x3), (0, x4), (0, x5), (9, 0), (9, 0)] (z_push x.1 []) x.2.1 x.2.2 := by
  refine Eq.trans (ev_lda (show zcode 131 0 = some (6, 1, 0, 0, []) by decide +kernel) rfl (by decide)) ?_
  refine Eq.trans (ev_gq (show zcode 131 1 = some (56, 4, 11, 0, []) by decide +kernel) (so0 hS) (sp0_0 hS)) ?_
  refine Eq.trans (ev_ldi (show zcode 131 4 = some (4, 5, 1, 0, []) by decide +kernel) rfl) ?_
  exact ev_cvirt (show zcode 131 5 = some (76, 8, 28, 2, [6]) by decide +kernel) (args := [(0, x1)]) (rest := []) rfl (so1 hS) rfl (show 0 ≤ 8 by decide) ⟨by decide, show 2 ≤ 2 by decide⟩
theorem b131_8 {T : zT} {V : zM} {x1 : Int} {x2 : Int} {x3 : Int} {x4 : Int} {x5 : Int} {y0 : Int} : ev 131 8 [(2, 0), (0, x1), (0, x2), (0, x3), (0, x4), (0, x5), (9, 0), (9, 0)] [(0, y0)] T V = if y0 = 0 then ev 131 31 [(2, 0), (0, x1), (0, x2), (0, x3), (0, x4), (0, x5), (9, 0), (9, 0)] [] T V else ev 131 11 [(2, 0), (0, x1), (0, x2), (0, x3), (0, x4), (0, x5), (9, 0), (9, 0)] [] T V := by
  exact ev_eq (show zcode 131 8 = some (40, 11, 31, 0, []) by decide +kernel)
theorem b131_11 {T : zT} {V : zM} {x1 : Int} {x2 : Int} {x3 : Int} {x4 : Int} {x5 : Int} (hS : zStr T)  : ev 131 11 [(2, 0), (0, x1), (0, x2), (0, x3), (0, x4), (0, x5), (9, 0), (9, 0)] [] T V = (zcall 28 [(2, 1), (0, x2)] T V).bind fun x => ev 131 19 [(2, 0), (0, x1), (0, x2), (0, x3), (0, x4), (0, x5), (9, 0), (9, 0)] (z_push x.1 []) x.2.1 x.2.2 := by
  refine Eq.trans (ev_lda (show zcode 131 11 = some (6, 12, 0, 0, []) by decide +kernel) rfl (by decide)) ?_
  refine Eq.trans (ev_gq (show zcode 131 12 = some (56, 15, 11, 0, []) by decide +kernel) (so0 hS) (sp0_0 hS)) ?_
  refine Eq.trans (ev_ldi (show zcode 131 15 = some (4, 16, 2, 0, []) by decide +kernel) rfl) ?_
  exact ev_cvirt (show zcode 131 16 = some (76, 19, 28, 2, [6]) by decide +kernel) (args := [(0, x2)]) (rest := []) rfl (so1 hS) rfl (show 0 ≤ 8 by decide) ⟨by decide, show 2 ≤ 2 by decide⟩
theorem b131_19 {T : zT} {V : zM} {x1 : Int} {x2 : Int} {x3 : Int} {x4 : Int} {x5 : Int} {y0 : Int} : ev 131 19 [(2, 0), (0, x1), (0, x2), (0, x3), (0, x4), (0, x5), (9, 0), (9, 0)] [(0, y0)] T V = if y0 = 0 then ev 131 31 [(2, 0), (0, x1), (0, x2), (0, x3), (0, x4), (0, x5), (9, 0), (9, 0)] [] T V else ev 131 22 [(2, 0), (0, x1), (0, x2), (0, x3), (0, x4), (0, x5), (9, 0), (9, 0)] [] T V := by
  exact ev_eq (show zcode 131 19 = some (40, 22, 31, 0, []) by decide +kernel)
theorem b131_22 {T : zT} {V : zM} {x1 : Int} {x2 : Int} {x3 : Int} {x4 : Int} {x5 : Int} : ev 131 22 [(2, 0), (0, x1), (0, x2), (0, x3), (0, x4), (0, x5), (9, 0), (9, 0)] [] T V = if x2 < x1 then ev 131 31 [(2, 0), (0, x1), (0, x2), (0, x3), (0, x4), (0, x5), (9, 0), (9, 0)] [] T V else ev 131 27 [(2, 0), (0, x1), (0, x2), (0, x3), (0, x4), (0, x5), (9, 0), (9, 0)] [] T V := by
  refine Eq.trans (ev_ldi (show zcode 131 22 = some (4, 23, 1, 0, []) by decide +kernel) rfl) ?_
  refine Eq.trans (ev_ldi (show zcode 131 23 = some (4, 24, 2, 0, []) by decide +kernel) rfl) ?_
  exact ev_cgt (show zcode 131 24 = some (50, 27, 31, 0, []) by decide +kernel)
theorem b131_27 {T : zT} {V : zM} {x1 : Int} {x2 : Int} {x3 : Int} {x4 : Int} {x5 : Int} : ev 131 27 [(2, 0), (0, x1), (0, x2), (0, x3), (0, x4), (0, x5), (9, 0), (9, 0)] [] T V = ev 131 32 [(2, 0), (0, x1), (0, x2), (0, x3), (0, x4), (0, x5), (9, 0), (9, 0)] [(0, 1)] T V := by
  refine Eq.trans (ev_ci (show zcode 131 27 = some (0, 28, 0, 1, []) by decide +kernel) (by decide)) ?_
  exact ev_goto (show zcode 131 28 = some (53, 31, 32, 0, []) by decide +kernel)
theorem b131_31 {T : zT} {V : zM} {x1 : Int} {x2 : Int} {x3 : Int} {x4 : Int} {x5 : Int} : ev 131 31 [(2, 0), (0, x1), (0, x2), (0, x3), (0, x4), (0, x5), (9, 0), (9, 0)] [] T V = ev 131 32 [(2, 0), (0, x1), (0, x2), (0, x3), (0, x4), (0, x5), (9, 0), (9, 0)] [(0, 0)] T V := by
  exact ev_ci (show zcode 131 31 = some (0, 32, 0, 0, []) by decide +kernel) (by decide)
theorem b131_32 {T : zT} {V : zM} {x1 : Int} {x2 : Int} {x3 : Int} {x4 : Int} {x5 : Int} {y0 : Int} : ev 131 32 [(2, 0), (0, x1), (0, x2), (0, x3), (0, x4), (0, x5), (9, 0), (9, 0)] [(0, y0)] T V = if x3 < 0 then ev 131 55 [(2, 0), (0, x1), (0, x2), (0, x3), (0, x4), (0, x5), (0, y0), (9, 0)] [] T V else ev 131 38 [(2, 0), (0, x1), (0, x2), (0, x3), (0, x4), (0, x5), (0, y0), (9, 0)] [] T V := by
  refine Eq.trans (ev_sti (show zcode 131 32 = some (7, 34, 6, 0, []) by decide +kernel) ⟨show 6 < 8 by decide, Or.inr (show ¬ (0 : Nat) = 1 by decide)⟩) ?_
  refine Eq.trans (ev_ldi (show zcode 131 34 = some (4, 35, 3, 0, []) by decide +kernel) rfl) ?_
  exact ev_lt (show zcode 131 35 = some (42, 38, 55, 0, []) by decide +kernel)
theorem b131_38 {T : zT} {V : zM} {x1 : Int} {x2 : Int} {x3 : Int} {x4 : Int} {x5 : Int} {x6 : Int} : ev 131 38 [(2, 0), (0, x1), (0, x2), (0, x3), (0, x4), (0, x5), (0, x6), (9, 0)] [] T V = if x4 < x3 then ev 131 55 [(2, 0), (0, x1), (0, x2), (0, x3), (0, x4), (0, x5), (0, x6), (9, 0)] [] T V else ev 131 44 [(2, 0), (0, x1), (0, x2), (0, x3), (0, x4), (0, x5), (0, x6), (9, 0)] [] T V := by
  refine Eq.trans (ev_ldi (show zcode 131 38 = some (4, 39, 3, 0, []) by decide +kernel) rfl) ?_
  refine Eq.trans (ev_ldi (show zcode 131 39 = some (4, 41, 4, 0, []) by decide +kernel) rfl) ?_
  exact ev_cgt (show zcode 131 41 = some (50, 44, 55, 0, []) by decide +kernel)
theorem b131_44 {T : zT} {V : zM} {x1 : Int} {x2 : Int} {x3 : Int} {x4 : Int} {x5 : Int} {x6 : Int} : ev 131 44 [(2, 0), (0, x1), (0, x2), (0, x3), (0, x4), (0, x5), (0, x6), (9, 0)] [] T V = if 51 < x4 then ev 131 55 [(2, 0), (0, x1), (0, x2), (0, x3), (0, x4), (0, x5), (0, x6), (9, 0)] [] T V else ev 131 51 [(2, 0), (0, x1), (0, x2), (0, x3), (0, x4), (0, x5), (0, x6), (9, 0)] [] T V := by
  refine Eq.trans (ev_ldi (show zcode 131 44 = some (4, 46, 4, 0, []) by decide +kernel) rfl) ?_
  refine Eq.trans (ev_ci (show zcode 131 46 = some (0, 48, 0, 51, []) by decide +kernel) (by decide)) ?_
  exact ev_cgt (show zcode 131 48 = some (50, 51, 55, 0, []) by decide +kernel)
theorem b131_51 {T : zT} {V : zM} {x1 : Int} {x2 : Int} {x3 : Int} {x4 : Int} {x5 : Int} {x6 : Int} : ev 131 51 [(2, 0), (0, x1), (0, x2), (0, x3), (0, x4), (0, x5), (0, x6), (9, 0)] [] T V = ev 131 56 [(2, 0), (0, x1), (0, x2), (0, x3), (0, x4), (0, x5), (0, x6), (9, 0)] [(0, 1)] T V := by
  refine Eq.trans (ev_ci (show zcode 131 51 = some (0, 52, 0, 1, []) by decide +kernel) (by decide)) ?_
  exact ev_goto (show zcode 131 52 = some (53, 55, 56, 0, []) by decide +kernel)
theorem b131_55 {T : zT} {V : zM} {x1 : Int} {x2 : Int} {x3 : Int} {x4 : Int} {x5 : Int} {x6 : Int} : ev 131 55 [(2, 0), (0, x1), (0, x2), (0, x3), (0, x4), (0, x5), (0, x6), (9, 0)] [] T V = ev 131 56 [(2, 0), (0, x1), (0, x2), (0, x3), (0, x4), (0, x5), (0, x6), (9, 0)] [(0, 0)] T V := by
  exact ev_ci (show zcode 131 55 = some (0, 56, 0, 0, []) by decide +kernel) (by decide)
theorem b131_56 {T : zT} {V : zM} {x1 : Int} {x2 : Int} {x3 : Int} {x4 : Int} {x5 : Int} {x6 : Int} {y0 : Int} : ev 131 56 [(2, 0), (0, x1), (0, x2), (0, x3), (0, x4), (0, x5), (0, x6), (9, 0)] [(0, y0)] T V = if x6 = 0 then ev 131 81 [(2, 0), (0, x1), (0, x2), (0, x3), (0, x4), (0, x5), (0, x6), (0, y0)] [] T V else ev 131 63 [(2, 0), (0, x1), (0, x2), (0, x3), (0, x4), (0, x5), (0, x6), (0, y0)] [] T V := by
  refine Eq.trans (ev_sti (show zcode 131 56 = some (7, 58, 7, 0, []) by decide +kernel) ⟨show 7 < 8 by decide, Or.inr (show ¬ (0 : Nat) = 1 by decide)⟩) ?_
  refine Eq.trans (ev_ldi (show zcode 131 58 = some (4, 60, 6, 0, []) by decide +kernel) rfl) ?_
  exact ev_eq (show zcode 131 60 = some (40, 63, 81, 0, []) by decide +kernel)
theorem b131_63 {T : zT} {V : zM} {x1 : Int} {x2 : Int} {x3 : Int} {x4 : Int} {x5 : Int} {x6 : Int} {x7 : Int} : ev 131 63 [(2, 0), (0, x1), (0, x2), (0, x3), (0, x4), (0, x5), (0, x6), (0, x7)] [] T V = if x7 = 0 then ev 131 81 [(2, 0), (0, x1), (0, x2), (0, x3), (0, x4), (0, x5), (0, x6), (0, x7)] [] T V else ev 131 68 [(2, 0), (0, x1), (0, x2), (0, x3), (0, x4), (0, x5), (0, x6), (0, x7)] [] T V := by
  refine Eq.trans (ev_ldi (show zcode 131 63 = some (4, 65, 7, 0, []) by decide +kernel) rfl) ?_
  exact ev_eq (show zcode 131 65 = some (40, 68, 81, 0, []) by decide +kernel)
theorem b131_68 {T : zT} {V : zM} {x1 : Int} {x2 : Int} {x3 : Int} {x4 : Int} {x5 : Int} {x6 : Int} {x7 : Int} : ev 131 68 [(2, 0), (0, x1), (0, x2), (0, x3), (0, x4), (0, x5), (0, x6), (0, x7)] [] T V = if x5 < 0 then ev 131 81 [(2, 0), (0, x1), (0, x2), (0, x3), (0, x4), (0, x5), (0, x6), (0, x7)] [] T V else ev 131 73 [(2, 0), (0, x1), (0, x2), (0, x3), (0, x4), (0, x5), (0, x6), (0, x7)] [] T V := by
  refine Eq.trans (ev_ldi (show zcode 131 68 = some (4, 70, 5, 0, []) by decide +kernel) rfl) ?_
  exact ev_lt (show zcode 131 70 = some (42, 73, 81, 0, []) by decide +kernel)
theorem b131_73 {T : zT} {V : zM} {x1 : Int} {x2 : Int} {x3 : Int} {x4 : Int} {x5 : Int} {x6 : Int} {x7 : Int} : ev 131 73 [(2, 0), (0, x1), (0, x2), (0, x3), (0, x4), (0, x5), (0, x6), (0, x7)] [] T V = if x5 ≤ 999 then ev 131 87 [(2, 0), (0, x1), (0, x2), (0, x3), (0, x4), (0, x5), (0, x6), (0, x7)] [] T V else ev 131 81 [(2, 0), (0, x1), (0, x2), (0, x3), (0, x4), (0, x5), (0, x6), (0, x7)] [] T V := by
  refine Eq.trans (ev_ldi (show zcode 131 73 = some (4, 75, 5, 0, []) by decide +kernel) rfl) ?_
  refine Eq.trans (ev_ci (show zcode 131 75 = some (0, 78, 0, 999, []) by decide +kernel) (by decide)) ?_
  exact ev_cle (show zcode 131 78 = some (51, 81, 87, 0, []) by decide +kernel)
theorem b131_81 {T : zT} {V : zM} {x1 : Int} {x2 : Int} {x3 : Int} {x4 : Int} {x5 : Int} {x6 : Int} {x7 : Int} (hS : zStr T)  : ev 131 81 [(2, 0), (0, x1), (0, x2), (0, x3), (0, x4), (0, x5), (0, x6), (0, x7)] [] T V = (zcall 24 [(2, 0), (0, (-1))] T V).bind fun x => ev 131 86 [(2, 0), (0, x1), (0, x2), (0, x3), (0, x4), (0, x5), (0, x6), (0, x7)] (z_push x.1 []) x.2.1 x.2.2 := by
  refine Eq.trans (ev_lda (show zcode 131 81 = some (6, 82, 0, 0, []) by decide +kernel) rfl (by decide)) ?_
  refine Eq.trans (ev_ci (show zcode 131 82 = some (0, 83, 0, (-1), []) by decide +kernel) (by decide)) ?_
  exact ev_cvirt (show zcode 131 83 = some (76, 86, 24, 2, [11]) by decide +kernel) (args := [(0, (-1))]) (rest := []) rfl (so0 hS) rfl (show 0 ≤ 8 by decide) ⟨by decide, show 2 ≤ 2 by decide⟩
theorem b131_86 {T : zT} {V : zM} {x1 : Int} {x2 : Int} {x3 : Int} {x4 : Int} {x5 : Int} {x6 : Int} {x7 : Int} {y0 : Int} : ev 131 86 [(2, 0), (0, x1), (0, x2), (0, x3), (0, x4), (0, x5), (0, x6), (0, x7)] [(0, y0)] T V = some ((0, y0), T, V) := by
  exact ev_ri (show zcode 131 86 = some (72, 87, 0, 0, []) by decide +kernel)
theorem b131_87 {T : zT} {V : zM} {x1 : Int} {x2 : Int} {x3 : Int} {x4 : Int} {x5 : Int} {x6 : Int} {x7 : Int} (hS : zStr T)  : ev 131 87 [(2, 0), (0, x1), (0, x2), (0, x3), (0, x4), (0, x5), (0, x6), (0, x7)] [] T V = if (V 22 5) < 10 then ev 131 109 [(2, 0), (0, x1), (0, x2), (0, x3), (0, x4), (0, x5), (0, x6), (0, x7)] [] T V else ev 131 102 [(2, 0), (0, x1), (0, x2), (0, x3), (0, x4), (0, x5), (0, x6), (0, x7)] [] T V := by
  refine Eq.trans (ev_lda (show zcode 131 87 = some (6, 88, 0, 0, []) by decide +kernel) rfl (by decide)) ?_
  refine Eq.trans (ev_gq (show zcode 131 88 = some (56, 91, 11, 0, []) by decide +kernel) (so0 hS) (sp0_0 hS)) ?_
  refine Eq.trans (ev_gq (show zcode 131 91 = some (56, 94, 6, 7, []) by decide +kernel) (so1 hS) (sp1_7 hS)) ?_
  refine Eq.trans (ev_gi (show zcode 131 94 = some (55, 97, 10, 5, []) by decide +kernel) (so22 hS)) ?_
  refine Eq.trans (ev_ci (show zcode 131 97 = some (0, 99, 0, 10, []) by decide +kernel) (by decide)) ?_
  exact ev_clt (show zcode 131 99 = some (48, 102, 109, 0, []) by decide +kernel)
theorem b131_102 {T : zT} {V : zM} {x1 : Int} {x2 : Int} {x3 : Int} {x4 : Int} {x5 : Int} {x6 : Int} {x7 : Int} (hS : zStr T)  : ev 131 102 [(2, 0), (0, x1), (0, x2), (0, x3), (0, x4), (0, x5), (0, x6), (0, x7)] [] T V = (zcall 24 [(2, 0), (0, (-5))] T V).bind fun x => ev 131 108 [(2, 0), (0, x1), (0, x2), (0, x3), (0, x4), (0, x5), (0, x6), (0, x7)] (z_push x.1 []) x.2.1 x.2.2 := by
  refine Eq.trans (ev_lda (show zcode 131 102 = some (6, 103, 0, 0, []) by decide +kernel) rfl (by decide)) ?_
  refine Eq.trans (ev_ci (show zcode 131 103 = some (0, 105, 0, (-5), []) by decide +kernel) (by decide)) ?_
  exact ev_cvirt (show zcode 131 105 = some (76, 108, 24, 2, [11]) by decide +kernel) (args := [(0, (-5))]) (rest := []) rfl (so0 hS) rfl (show 0 ≤ 8 by decide) ⟨by decide, show 2 ≤ 2 by decide⟩
theorem b131_108 {T : zT} {V : zM} {x1 : Int} {x2 : Int} {x3 : Int} {x4 : Int} {x5 : Int} {x6 : Int} {x7 : Int} {y0 : Int} : ev 131 108 [(2, 0), (0, x1), (0, x2), (0, x3), (0, x4), (0, x5), (0, x6), (0, x7)] [(0, y0)] T V = some ((0, y0), T, V) := by
  exact ev_ri (show zcode 131 108 = some (72, 109, 0, 0, []) by decide +kernel)
theorem b131_109 {T : zT} {V : zM} {x1 : Int} {x2 : Int} {x3 : Int} {x4 : Int} {x5 : Int} {x6 : Int} {x7 : Int} (hS : zStr T)  : ev 131 109 [(2, 0), (0, x1), (0, x2), (0, x3), (0, x4), (0, x5), (0, x6), (0, x7)] [] T V = (zcall 132 [(2, 22), (0, x1), (0, x2), (0, x3), (0, x4), (0, x5)] T V).bind fun x => ev 131 127 [(2, 0), (0, x1), (0, x2), (0, x3), (0, x4), (0, x5), (0, x6), (0, x7)] (z_push x.1 [(2, 0)]) x.2.1 x.2.2 := by
  refine Eq.trans (ev_lda (show zcode 131 109 = some (6, 110, 0, 0, []) by decide +kernel) rfl (by decide)) ?_
  refine Eq.trans (ev_lda (show zcode 131 110 = some (6, 111, 0, 0, []) by decide +kernel) rfl (by decide)) ?_
  refine Eq.trans (ev_gq (show zcode 131 111 = some (56, 114, 11, 0, []) by decide +kernel) (so0 hS) (sp0_0 hS)) ?_
  refine Eq.trans (ev_gq (show zcode 131 114 = some (56, 117, 6, 7, []) by decide +kernel) (so1 hS) (sp1_7 hS)) ?_
  refine Eq.trans (ev_ldi (show zcode 131 117 = some (4, 118, 1, 0, []) by decide +kernel) rfl) ?_
  refine Eq.trans (ev_ldi (show zcode 131 118 = some (4, 119, 2, 0, []) by decide +kernel) rfl) ?_
  refine Eq.trans (ev_ldi (show zcode 131 119 = some (4, 120, 3, 0, []) by decide +kernel) rfl) ?_
  refine Eq.trans (ev_ldi (show zcode 131 120 = some (4, 122, 4, 0, []) by decide +kernel) rfl) ?_
  refine Eq.trans (ev_ldi (show zcode 131 122 = some (4, 124, 5, 0, []) by decide +kernel) rfl) ?_
  exact ev_cvirt (show zcode 131 124 = some (76, 127, 132, 6, [10]) by decide +kernel) (args := [(0, x1), (0, x2), (0, x3), (0, x4), (0, x5)]) (rest := [(2, 0)]) rfl (so22 hS) rfl (show 1 ≤ 8 by decide) ⟨by decide, show 6 ≤ 6 by decide⟩
theorem b131_127 {T : zT} {V : zM} {x1 : Int} {x2 : Int} {x3 : Int} {x4 : Int} {x5 : Int} {x6 : Int} {x7 : Int} {y1 : Int} (hS : zStr T)  : ev 131 127 [(2, 0), (0, x1), (0, x2), (0, x3), (0, x4), (0, x5), (0, x6), (0, x7)] [(0, y1), (2, 0)] T V = (zcall 26 [(2, 0), (0, y1)] T V).bind fun x => ev 131 130 [(2, 0), (0, x1), (0, x2), (0, x3), (0, x4), (0, x5), (0, x6), (0, x7)] (z_push x.1 []) x.2.1 x.2.2 := by
  exact ev_cvirt (show zcode 131 127 = some (76, 130, 26, 2, [11]) by decide +kernel) (args := [(0, y1)]) (rest := []) rfl (so0 hS) rfl (show 0 ≤ 8 by decide) ⟨by decide, show 2 ≤ 2 by decide⟩
theorem b131_130 {T : zT} {V : zM} {x1 : Int} {x2 : Int} {x3 : Int} {x4 : Int} {x5 : Int} {x6 : Int} {x7 : Int} {y0 : Int} : ev 131 130 [(2, 0), (0, x1), (0, x2), (0, x3), (0, x4), (0, x5), (0, x6), (0, x7)] [(0, y0)] T V = some ((0, y0), T, V) := by
  exact ev_ri (show zcode 131 130 = some (72, 131, 0, 0, []) by decide +kernel)
/-! 133: TwoWayWall.drop(I)I -/
theorem e133 {T : zT} {V : zM} {x1 : Int} : zcall 133 [(2, 0), (0, x1)] T V = ev 133 0 [(2, 0), (0, x1)] [] T V := rfl
theorem b133_0 {T : zT} {V : zM} {x1 : Int} : ev 133 0 [(2, 0), (0, x1)] [] T V = if x1 < 0 then ev 133 18 [(2, 0), (0, x1)] [] T V else ev 133 4 [(2, 0), (0, x1)] [] T V := by
  refine Eq.trans (ev_ldi (show zcode 133 0 = some (4, 1, 1, 0, []) by decide +kernel) rfl) ?_
  exact ev_lt (show zcode 133 1 = some (42, 4, 18, 0, []) by decide +kernel)
theorem b133_4 {T : zT} {V : zM} {x1 : Int} (hS : zStr T)  : ev 133 4 [(2, 0), (0, x1)] [] T V = if x1 < (V 22 5) then ev 133 25 [(2, 0), (0, x1)] [] T V else ev 133 18 [(2, 0), (0, x1)] [] T V := by
  refine Eq.trans (ev_ldi (show zcode 133 4 = some (4, 5, 1, 0, []) by decide +kernel) rfl) ?_
  refine Eq.trans (ev_lda (show zcode 133 5 = some (6, 6, 0, 0, []) by decide +kernel) rfl (by decide)) ?_
  refine Eq.trans (ev_gq (show zcode 133 6 = some (56, 9, 11, 0, []) by decide +kernel) (so0 hS) (sp0_0 hS)) ?_
  refine Eq.trans (ev_gq (show zcode 133 9 = some (56, 12, 6, 7, []) by decide +kernel) (so1 hS) (sp1_7 hS)) ?_
  refine Eq.trans (ev_gi (show zcode 133 12 = some (55, 15, 10, 5, []) by decide +kernel) (so22 hS)) ?_
  exact ev_clt (show zcode 133 15 = some (48, 18, 25, 0, []) by decide +kernel)
theorem b133_18 {T : zT} {V : zM} {x1 : Int} (hS : zStr T)  : ev 133 18 [(2, 0), (0, x1)] [] T V = (zcall 24 [(2, 0), (0, (-2))] T V).bind fun x => ev 133 24 [(2, 0), (0, x1)] (z_push x.1 []) x.2.1 x.2.2 := by
  refine Eq.trans (ev_lda (show zcode 133 18 = some (6, 19, 0, 0, []) by decide +kernel) rfl (by decide)) ?_
  refine Eq.trans (ev_ci (show zcode 133 19 = some (0, 21, 0, (-2), []) by decide +kernel) (by decide)) ?_
  exact ev_cvirt (show zcode 133 21 = some (76, 24, 24, 2, [11]) by decide +kernel) (args := [(0, (-2))]) (rest := []) rfl (so0 hS) rfl (show 0 ≤ 8 by decide) ⟨by decide, show 2 ≤ 2 by decide⟩
theorem b133_24 {T : zT} {V : zM} {x1 : Int} {y0 : Int} : ev 133 24 [(2, 0), (0, x1)] [(0, y0)] T V = some ((0, y0), T, V) := by
  exact ev_ri (show zcode 133 24 = some (72, 25, 0, 0, []) by decide +kernel)
theorem b133_25 {T : zT} {V : zM} {x1 : Int} (hS : zStr T)  : ev 133 25 [(2, 0), (0, x1)] [] T V = (zcall 134 [(2, 22), (0, x1)] T V).bind fun x => ev 133 36 [(2, 0), (0, x1)] (z_push x.1 []) x.2.1 x.2.2 := by
  refine Eq.trans (ev_lda (show zcode 133 25 = some (6, 26, 0, 0, []) by decide +kernel) rfl (by decide)) ?_
  refine Eq.trans (ev_gq (show zcode 133 26 = some (56, 29, 11, 0, []) by decide +kernel) (so0 hS) (sp0_0 hS)) ?_
  refine Eq.trans (ev_gq (show zcode 133 29 = some (56, 32, 6, 7, []) by decide +kernel) (so1 hS) (sp1_7 hS)) ?_
  refine Eq.trans (ev_ldi (show zcode 133 32 = some (4, 33, 1, 0, []) by decide +kernel) rfl) ?_
  exact ev_cvirt (show zcode 133 33 = some (76, 36, 134, 2, [10]) by decide +kernel) (args := [(0, x1)]) (rest := []) rfl (so22 hS) rfl (show 0 ≤ 8 by decide) ⟨by decide, show 2 ≤ 3 by decide⟩
theorem b133_36 {T : zT} {V : zM} {x1 : Int} (hS : zStr T)  : ev 133 36 [(2, 0), (0, x1)] [] T V = (zcall 26 [(2, 0), (0, (V 22 5))] T V).bind fun x => ev 133 50 [(2, 0), (0, x1)] (z_push x.1 []) x.2.1 x.2.2 := by
  refine Eq.trans (ev_lda (show zcode 133 36 = some (6, 37, 0, 0, []) by decide +kernel) rfl (by decide)) ?_
  refine Eq.trans (ev_lda (show zcode 133 37 = some (6, 38, 0, 0, []) by decide +kernel) rfl (by decide)) ?_
  refine Eq.trans (ev_gq (show zcode 133 38 = some (56, 41, 11, 0, []) by decide +kernel) (so0 hS) (sp0_0 hS)) ?_
  refine Eq.trans (ev_gq (show zcode 133 41 = some (56, 44, 6, 7, []) by decide +kernel) (so1 hS) (sp1_7 hS)) ?_
  refine Eq.trans (ev_gi (show zcode 133 44 = some (55, 47, 10, 5, []) by decide +kernel) (so22 hS)) ?_
  exact ev_cvirt (show zcode 133 47 = some (76, 50, 26, 2, [11]) by decide +kernel) (args := [(0, (V 22 5))]) (rest := []) rfl (so0 hS) rfl (show 0 ≤ 8 by decide) ⟨by decide, show 2 ≤ 2 by decide⟩
theorem b133_50 {T : zT} {V : zM} {x1 : Int} {y0 : Int} : ev 133 50 [(2, 0), (0, x1)] [(0, y0)] T V = some ((0, y0), T, V) := by
  exact ev_ri (show zcode 133 50 = some (72, 51, 0, 0, []) by decide +kernel)
/-! 135: TwoWayWall.letting(I)I -/
theorem e135 {T : zT} {V : zM} {x1 : Int} : zcall 135 [(2, 0), (0, x1)] T V = ev 135 0 [(2, 0), (0, x1)] [] T V := rfl
theorem b135_0 {T : zT} {V : zM} {x1 : Int} : ev 135 0 [(2, 0), (0, x1)] [] T V = if x1 < 0 then ev 135 20 [(2, 0), (0, x1)] [] T V else ev 135 4 [(2, 0), (0, x1)] [] T V := by
  refine Eq.trans (ev_ldi (show zcode 135 0 = some (4, 1, 1, 0, []) by decide +kernel) rfl) ?_
  exact ev_lt (show zcode 135 1 = some (42, 4, 20, 0, []) by decide +kernel)
theorem b135_4 {T : zT} {V : zM} {x1 : Int} (hS : zStr T) (h1 : (0 : Int) ≤ (V 22 5) ∧ (V 22 5) ≤ 30) : ev 135 4 [(2, 0), (0, x1)] [] T V = if x1 < ((2 : Int) ^ ((V 22 5)).toNat) then ev 135 22 [(2, 0), (0, x1)] [] T V else ev 135 20 [(2, 0), (0, x1)] [] T V := by
  refine Eq.trans (ev_ldi (show zcode 135 4 = some (4, 5, 1, 0, []) by decide +kernel) rfl) ?_
  refine Eq.trans (ev_ci (show zcode 135 5 = some (0, 6, 0, 1, []) by decide +kernel) (by decide)) ?_
  refine Eq.trans (ev_lda (show zcode 135 6 = some (6, 7, 0, 0, []) by decide +kernel) rfl (by decide)) ?_
  refine Eq.trans (ev_gq (show zcode 135 7 = some (56, 10, 11, 0, []) by decide +kernel) (so0 hS) (sp0_0 hS)) ?_
  refine Eq.trans (ev_gq (show zcode 135 10 = some (56, 13, 6, 7, []) by decide +kernel) (so1 hS) (sp1_7 hS)) ?_
  refine Eq.trans (ev_gi (show zcode 135 13 = some (55, 16, 10, 5, []) by decide +kernel) (so22 hS)) ?_
  refine Eq.trans (ev_shl1 (show zcode 135 16 = some (20, 17, 0, 0, []) by decide +kernel) h1) ?_
  exact ev_clt (show zcode 135 17 = some (48, 20, 22, 0, []) by decide +kernel)
theorem b135_20 {T : zT} {V : zM} {x1 : Int} : ev 135 20 [(2, 0), (0, x1)] [] T V = some ((0, (-1)), T, V) := by
  refine Eq.trans (ev_ci (show zcode 135 20 = some (0, 21, 0, (-1), []) by decide +kernel) (by decide)) ?_
  exact ev_ri (show zcode 135 21 = some (72, 22, 0, 0, []) by decide +kernel)
theorem b135_22 {T : zT} {V : zM} {x1 : Int} (hS : zStr T)  : ev 135 22 [(2, 0), (0, x1)] [] T V = (zcall 136 [(2, 22), (0, x1)] T V).bind fun x => ev 135 33 [(2, 0), (0, x1)] (z_push x.1 []) x.2.1 x.2.2 := by
  refine Eq.trans (ev_lda (show zcode 135 22 = some (6, 23, 0, 0, []) by decide +kernel) rfl (by decide)) ?_
  refine Eq.trans (ev_gq (show zcode 135 23 = some (56, 26, 11, 0, []) by decide +kernel) (so0 hS) (sp0_0 hS)) ?_
  refine Eq.trans (ev_gq (show zcode 135 26 = some (56, 29, 6, 7, []) by decide +kernel) (so1 hS) (sp1_7 hS)) ?_
  refine Eq.trans (ev_ldi (show zcode 135 29 = some (4, 30, 1, 0, []) by decide +kernel) rfl) ?_
  exact ev_cvirt (show zcode 135 30 = some (76, 33, 136, 2, [10]) by decide +kernel) (args := [(0, x1)]) (rest := []) rfl (so22 hS) rfl (show 0 ≤ 8 by decide) ⟨by decide, show 2 ≤ 4 by decide⟩
theorem b135_33 {T : zT} {V : zM} {x1 : Int} {y0 : Int} : ev 135 33 [(2, 0), (0, x1)] [(0, y0)] T V = some ((0, y0), T, V) := by
  exact ev_ri (show zcode 135 33 = some (72, 34, 0, 0, []) by decide +kernel)
/-! 139: TwoWayWall.best(I)I -/
theorem e139 {T : zT} {V : zM} {x1 : Int} : zcall 139 [(2, 0), (0, x1)] T V = ev 139 0 [(2, 0), (0, x1), (9, 0), (9, 0), (9, 0), (9, 0)] [] T V := rfl
theorem b139_0 {T : zT} {V : zM} {x1 : Int} : ev 139 0 [(2, 0), (0, x1), (9, 0), (9, 0), (9, 0), (9, 0)] [] T V = if x1 < 0 then ev 139 9 [(2, 0), (0, x1), (9, 0), (9, 0), (9, 0), (9, 0)] [] T V else ev 139 4 [(2, 0), (0, x1), (9, 0), (9, 0), (9, 0), (9, 0)] [] T V := by
  refine Eq.trans (ev_ldi (show zcode 139 0 = some (4, 1, 1, 0, []) by decide +kernel) rfl) ?_
  exact ev_lt (show zcode 139 1 = some (42, 4, 9, 0, []) by decide +kernel)
theorem b139_4 {T : zT} {V : zM} {x1 : Int} : ev 139 4 [(2, 0), (0, x1), (9, 0), (9, 0), (9, 0), (9, 0)] [] T V = if x1 ≤ 2 then ev 139 11 [(2, 0), (0, x1), (9, 0), (9, 0), (9, 0), (9, 0)] [] T V else ev 139 9 [(2, 0), (0, x1), (9, 0), (9, 0), (9, 0), (9, 0)] [] T V := by
  refine Eq.trans (ev_ldi (show zcode 139 4 = some (4, 5, 1, 0, []) by decide +kernel) rfl) ?_
  refine Eq.trans (ev_ci (show zcode 139 5 = some (0, 6, 0, 2, []) by decide +kernel) (by decide)) ?_
  exact ev_cle (show zcode 139 6 = some (51, 9, 11, 0, []) by decide +kernel)
theorem b139_9 {T : zT} {V : zM} {x1 : Int} : ev 139 9 [(2, 0), (0, x1), (9, 0), (9, 0), (9, 0), (9, 0)] [] T V = some ((0, (-1)), T, V) := by
  refine Eq.trans (ev_ci (show zcode 139 9 = some (0, 10, 0, (-1), []) by decide +kernel) (by decide)) ?_
  exact ev_ri (show zcode 139 10 = some (72, 11, 0, 0, []) by decide +kernel)
theorem b139_11 {T : zT} {V : zM} {x1 : Int} (hS : zStr T)  : ev 139 11 [(2, 0), (0, x1), (9, 0), (9, 0), (9, 0), (9, 0)] [] T V = (zcall 140 [(2, 22), (2, 128)] T V).bind fun x => ev 139 25 [(2, 0), (0, x1), (9, 0), (9, 0), (9, 0), (9, 0)] (z_push x.1 []) x.2.1 x.2.2 := by
  refine Eq.trans (ev_lda (show zcode 139 11 = some (6, 12, 0, 0, []) by decide +kernel) rfl (by decide)) ?_
  refine Eq.trans (ev_gq (show zcode 139 12 = some (56, 15, 11, 0, []) by decide +kernel) (so0 hS) (sp0_0 hS)) ?_
  refine Eq.trans (ev_gq (show zcode 139 15 = some (56, 18, 6, 7, []) by decide +kernel) (so1 hS) (sp1_7 hS)) ?_
  refine Eq.trans (ev_lda (show zcode 139 18 = some (6, 19, 0, 0, []) by decide +kernel) rfl (by decide)) ?_
  refine Eq.trans (ev_gq (show zcode 139 19 = some (56, 22, 11, 12, []) by decide +kernel) (so0 hS) (sp0_12 hS)) ?_
  exact ev_cvirt (show zcode 139 22 = some (76, 25, 140, 2, [10]) by decide +kernel) (args := [(2, 128)]) (rest := []) rfl (so22 hS) rfl (show 0 ≤ 8 by decide) ⟨by decide, show 2 ≤ 7 by decide⟩
theorem b139_25 {T : zT} {V : zM} {x1 : Int} (hS : zStr T) (h1 : (0 : Int) ≤ (V 22 5) ∧ (V 22 5) ≤ 30) : ev 139 25 [(2, 0), (0, x1), (9, 0), (9, 0), (9, 0), (9, 0)] [] T V = ev 139 46 [(2, 0), (0, x1), (0, ((2 : Int) ^ ((V 22 5)).toNat)), (0, 0), (0, 0), (0, 0)] [] T V := by
  refine Eq.trans (ev_ci (show zcode 139 25 = some (0, 26, 0, 1, []) by decide +kernel) (by decide)) ?_
  refine Eq.trans (ev_lda (show zcode 139 26 = some (6, 27, 0, 0, []) by decide +kernel) rfl (by decide)) ?_
  refine Eq.trans (ev_gq (show zcode 139 27 = some (56, 30, 11, 0, []) by decide +kernel) (so0 hS) (sp0_0 hS)) ?_
  refine Eq.trans (ev_gq (show zcode 139 30 = some (56, 33, 6, 7, []) by decide +kernel) (so1 hS) (sp1_7 hS)) ?_
  refine Eq.trans (ev_gi (show zcode 139 33 = some (55, 36, 10, 5, []) by decide +kernel) (so22 hS)) ?_
  refine Eq.trans (ev_shl1 (show zcode 139 36 = some (20, 37, 0, 0, []) by decide +kernel) h1) ?_
  refine Eq.trans (ev_sti (show zcode 139 37 = some (7, 38, 2, 0, []) by decide +kernel) ⟨show 2 < 6 by decide, Or.inr (show ¬ (0 : Nat) = 1 by decide)⟩) ?_
  refine Eq.trans (ev_ci (show zcode 139 38 = some (0, 39, 0, 0, []) by decide +kernel) (by decide)) ?_
  refine Eq.trans (ev_sti (show zcode 139 39 = some (7, 40, 3, 0, []) by decide +kernel) ⟨show 3 < 6 by decide, Or.inr (show ¬ (0 : Nat) = 1 by decide)⟩) ?_
  refine Eq.trans (ev_ci (show zcode 139 40 = some (0, 41, 0, 0, []) by decide +kernel) (by decide)) ?_
  refine Eq.trans (ev_sti (show zcode 139 41 = some (7, 43, 4, 0, []) by decide +kernel) ⟨show 4 < 6 by decide, Or.inr (show ¬ (0 : Nat) = 1 by decide)⟩) ?_
  refine Eq.trans (ev_ci (show zcode 139 43 = some (0, 44, 0, 0, []) by decide +kernel) (by decide)) ?_
  exact ev_sti (show zcode 139 44 = some (7, 46, 5, 0, []) by decide +kernel) ⟨show 5 < 6 by decide, Or.inr (show ¬ (0 : Nat) = 1 by decide)⟩
theorem b139_46 {T : zT} {V : zM} {x1 : Int} {x2 : Int} {x3 : Int} {x4 : Int} {x5 : Int} : ev 139 46 [(2, 0), (0, x1), (0, x2), (0, x3), (0, x4), (0, x5)] [] T V = if x2 ≤ x5 then ev 139 99 [(2, 0), (0, x1), (0, x2), (0, x3), (0, x4), (0, x5)] [] T V else ev 139 52 [(2, 0), (0, x1), (0, x2), (0, x3), (0, x4), (0, x5)] [] T V := by
  refine Eq.trans (ev_ldi (show zcode 139 46 = some (4, 48, 5, 0, []) by decide +kernel) rfl) ?_
  refine Eq.trans (ev_ldi (show zcode 139 48 = some (4, 49, 2, 0, []) by decide +kernel) rfl) ?_
  exact ev_cge (show zcode 139 49 = some (49, 52, 99, 0, []) by decide +kernel)
theorem b139_52 {T : zT} {V : zM} {x1 : Int} {x2 : Int} {x3 : Int} {x4 : Int} {x5 : Int} (hS : zStr T) (h1 : (0 : Int) ≤ x5 ∧ x5 < 1024) (h2 : (0 : Int) ≤ x3 ∧ x3 < 1024) : ev 139 52 [(2, 0), (0, x1), (0, x2), (0, x3), (0, x4), (0, x5)] [] T V = if (V 128 x5) ≤ (V 128 x3) then ev 139 74 [(2, 0), (0, x1), (0, x2), (0, x3), (0, x4), (0, x5)] [] T V else ev 139 68 [(2, 0), (0, x1), (0, x2), (0, x3), (0, x4), (0, x5)] [] T V := by
  refine Eq.trans (ev_lda (show zcode 139 52 = some (6, 53, 0, 0, []) by decide +kernel) rfl (by decide)) ?_
  refine Eq.trans (ev_gq (show zcode 139 53 = some (56, 56, 11, 12, []) by decide +kernel) (so0 hS) (sp0_12 hS)) ?_
  refine Eq.trans (ev_ldi (show zcode 139 56 = some (4, 58, 5, 0, []) by decide +kernel) rfl) ?_
  refine Eq.trans (ev_ia (show zcode 139 58 = some (60, 59, 0, 0, []) by decide +kernel) (sa128 hS) h1) ?_
  refine Eq.trans (ev_lda (show zcode 139 59 = some (6, 60, 0, 0, []) by decide +kernel) rfl (by decide)) ?_
  refine Eq.trans (ev_gq (show zcode 139 60 = some (56, 63, 11, 12, []) by decide +kernel) (so0 hS) (sp0_12 hS)) ?_
  refine Eq.trans (ev_ldi (show zcode 139 63 = some (4, 64, 3, 0, []) by decide +kernel) rfl) ?_
  refine Eq.trans (ev_ia (show zcode 139 64 = some (60, 65, 0, 0, []) by decide +kernel) (sa128 hS) h2) ?_
  exact ev_cle (show zcode 139 65 = some (51, 68, 74, 0, []) by decide +kernel)
theorem b139_68 {T : zT} {V : zM} {x1 : Int} {x2 : Int} {x3 : Int} {x4 : Int} {x5 : Int} : ev 139 68 [(2, 0), (0, x1), (0, x2), (0, x3), (0, x4), (0, x5)] [] T V = ev 139 74 [(2, 0), (0, x1), (0, x2), (0, x5), (0, 0), (0, x5)] [] T V := by
  refine Eq.trans (ev_ldi (show zcode 139 68 = some (4, 70, 5, 0, []) by decide +kernel) rfl) ?_
  refine Eq.trans (ev_sti (show zcode 139 70 = some (7, 71, 3, 0, []) by decide +kernel) ⟨show 3 < 6 by decide, Or.inr (show ¬ (0 : Nat) = 1 by decide)⟩) ?_
  refine Eq.trans (ev_ci (show zcode 139 71 = some (0, 72, 0, 0, []) by decide +kernel) (by decide)) ?_
  exact ev_sti (show zcode 139 72 = some (7, 74, 4, 0, []) by decide +kernel) ⟨show 4 < 6 by decide, Or.inr (show ¬ (0 : Nat) = 1 by decide)⟩
theorem b139_74 {T : zT} {V : zM} {x1 : Int} {x2 : Int} {x3 : Int} {x4 : Int} {x5 : Int} (hS : zStr T) (h1 : (0 : Int) ≤ x5 ∧ x5 < 1024) (h2 : (0 : Int) ≤ x3 ∧ x3 < 1024) : ev 139 74 [(2, 0), (0, x1), (0, x2), (0, x3), (0, x4), (0, x5)] [] T V = if (V 128 x5) = (V 128 x3) then ev 139 90 [(2, 0), (0, x1), (0, x2), (0, x3), (0, x4), (0, x5)] [] T V else ev 139 93 [(2, 0), (0, x1), (0, x2), (0, x3), (0, x4), (0, x5)] [] T V := by
  refine Eq.trans (ev_lda (show zcode 139 74 = some (6, 75, 0, 0, []) by decide +kernel) rfl (by decide)) ?_
  refine Eq.trans (ev_gq (show zcode 139 75 = some (56, 78, 11, 12, []) by decide +kernel) (so0 hS) (sp0_12 hS)) ?_
  refine Eq.trans (ev_ldi (show zcode 139 78 = some (4, 80, 5, 0, []) by decide +kernel) rfl) ?_
  refine Eq.trans (ev_ia (show zcode 139 80 = some (60, 81, 0, 0, []) by decide +kernel) (sa128 hS) h1) ?_
  refine Eq.trans (ev_lda (show zcode 139 81 = some (6, 82, 0, 0, []) by decide +kernel) rfl (by decide)) ?_
  refine Eq.trans (ev_gq (show zcode 139 82 = some (56, 85, 11, 12, []) by decide +kernel) (so0 hS) (sp0_12 hS)) ?_
  refine Eq.trans (ev_ldi (show zcode 139 85 = some (4, 86, 3, 0, []) by decide +kernel) rfl) ?_
  refine Eq.trans (ev_ia (show zcode 139 86 = some (60, 87, 0, 0, []) by decide +kernel) (sa128 hS) h2) ?_
  exact ev_cne (show zcode 139 87 = some (47, 90, 93, 0, []) by decide +kernel)
theorem b139_90 {T : zT} {V : zM} {x1 : Int} {x2 : Int} {x3 : Int} {x4 : Int} {x5 : Int} (h1 : -2147483648 ≤ (x4 + 1) ∧ (x4 + 1) ≤ 2147483647) : ev 139 90 [(2, 0), (0, x1), (0, x2), (0, x3), (0, x4), (0, x5)] [] T V = ev 139 93 [(2, 0), (0, x1), (0, x2), (0, x3), (0, (x4 + 1)), (0, x5)] [] T V := by
  exact ev_inc (show zcode 139 90 = some (10, 93, 4, 1, []) by decide +kernel) rfl h1 (Or.inr (show ¬ (0 : Nat) = 1 by decide))
theorem b139_93 {T : zT} {V : zM} {x1 : Int} {x2 : Int} {x3 : Int} {x4 : Int} {x5 : Int} (h1 : -2147483648 ≤ (x5 + 1) ∧ (x5 + 1) ≤ 2147483647) : ev 139 93 [(2, 0), (0, x1), (0, x2), (0, x3), (0, x4), (0, x5)] [] T V = ev 139 46 [(2, 0), (0, x1), (0, x2), (0, x3), (0, x4), (0, (x5 + 1))] [] T V := by
  refine Eq.trans (ev_inc (show zcode 139 93 = some (10, 96, 5, 1, []) by decide +kernel) rfl h1 (Or.inr (show ¬ (0 : Nat) = 1 by decide))) ?_
  exact ev_goto (show zcode 139 96 = some (53, 99, 46, 0, []) by decide +kernel)
theorem b139_99 {T : zT} {V : zM} {x1 : Int} {x2 : Int} {x3 : Int} {x4 : Int} {x5 : Int} : ev 139 99 [(2, 0), (0, x1), (0, x2), (0, x3), (0, x4), (0, x5)] [] T V = if x1 = 0 then ev 139 103 [(2, 0), (0, x1), (0, x2), (0, x3), (0, x4), (0, x5)] [] T V else ev 139 110 [(2, 0), (0, x1), (0, x2), (0, x3), (0, x4), (0, x5)] [] T V := by
  refine Eq.trans (ev_ldi (show zcode 139 99 = some (4, 100, 1, 0, []) by decide +kernel) rfl) ?_
  exact ev_ne (show zcode 139 100 = some (41, 103, 110, 0, []) by decide +kernel)
theorem b139_103 {T : zT} {V : zM} {x1 : Int} {x2 : Int} {x3 : Int} {x4 : Int} {x5 : Int} (hS : zStr T) (h1 : (0 : Int) ≤ x3 ∧ x3 < 1024) : ev 139 103 [(2, 0), (0, x1), (0, x2), (0, x3), (0, x4), (0, x5)] [] T V = some ((0, (V 128 x3)), T, V) := by
  refine Eq.trans (ev_lda (show zcode 139 103 = some (6, 104, 0, 0, []) by decide +kernel) rfl (by decide)) ?_
  refine Eq.trans (ev_gq (show zcode 139 104 = some (56, 107, 11, 12, []) by decide +kernel) (so0 hS) (sp0_12 hS)) ?_
  refine Eq.trans (ev_ldi (show zcode 139 107 = some (4, 108, 3, 0, []) by decide +kernel) rfl) ?_
  refine Eq.trans (ev_ia (show zcode 139 108 = some (60, 109, 0, 0, []) by decide +kernel) (sa128 hS) h1) ?_
  exact ev_ri (show zcode 139 109 = some (72, 110, 0, 0, []) by decide +kernel)
theorem b139_110 {T : zT} {V : zM} {x1 : Int} {x2 : Int} {x3 : Int} {x4 : Int} {x5 : Int} : ev 139 110 [(2, 0), (0, x1), (0, x2), (0, x3), (0, x4), (0, x5)] [] T V = if x1 = 1 then ev 139 115 [(2, 0), (0, x1), (0, x2), (0, x3), (0, x4), (0, x5)] [] T V else ev 139 119 [(2, 0), (0, x1), (0, x2), (0, x3), (0, x4), (0, x5)] [] T V := by
  refine Eq.trans (ev_ldi (show zcode 139 110 = some (4, 111, 1, 0, []) by decide +kernel) rfl) ?_
  refine Eq.trans (ev_ci (show zcode 139 111 = some (0, 112, 0, 1, []) by decide +kernel) (by decide)) ?_
  exact ev_cne (show zcode 139 112 = some (47, 115, 119, 0, []) by decide +kernel)
theorem b139_115 {T : zT} {V : zM} {x1 : Int} {x2 : Int} {x3 : Int} {x4 : Int} {x5 : Int} : ev 139 115 [(2, 0), (0, x1), (0, x2), (0, x3), (0, x4), (0, x5)] [] T V = ev 139 121 [(2, 0), (0, x1), (0, x2), (0, x3), (0, x4), (0, x5)] [(0, x3)] T V := by
  refine Eq.trans (ev_ldi (show zcode 139 115 = some (4, 116, 3, 0, []) by decide +kernel) rfl) ?_
  exact ev_goto (show zcode 139 116 = some (53, 119, 121, 0, []) by decide +kernel)
theorem b139_119 {T : zT} {V : zM} {x1 : Int} {x2 : Int} {x3 : Int} {x4 : Int} {x5 : Int} : ev 139 119 [(2, 0), (0, x1), (0, x2), (0, x3), (0, x4), (0, x5)] [] T V = ev 139 121 [(2, 0), (0, x1), (0, x2), (0, x3), (0, x4), (0, x5)] [(0, x4)] T V := by
  exact ev_ldi (show zcode 139 119 = some (4, 121, 4, 0, []) by decide +kernel) rfl
theorem b139_121 {T : zT} {V : zM} {x1 : Int} {x2 : Int} {x3 : Int} {x4 : Int} {x5 : Int} {y0 : Int} : ev 139 121 [(2, 0), (0, x1), (0, x2), (0, x3), (0, x4), (0, x5)] [(0, y0)] T V = some ((0, y0), T, V) := by
  exact ev_ri (show zcode 139 121 = some (72, 122, 0, 0, []) by decide +kernel)
/-! 141: TwoWayWall.rain(II)I -/
theorem e141 {T : zT} {V : zM} {x1 : Int} {x2 : Int} : zcall 141 [(2, 0), (0, x1), (0, x2)] T V = ev 141 0 [(2, 0), (0, x1), (0, x2)] [] T V := rfl
theorem b141_0 {T : zT} {V : zM} {x1 : Int} {x2 : Int} : ev 141 0 [(2, 0), (0, x1), (0, x2)] [] T V = if x1 < 0 then ev 141 21 [(2, 0), (0, x1), (0, x2)] [] T V else ev 141 4 [(2, 0), (0, x1), (0, x2)] [] T V := by
  refine Eq.trans (ev_ldi (show zcode 141 0 = some (4, 1, 1, 0, []) by decide +kernel) rfl) ?_
  exact ev_lt (show zcode 141 1 = some (42, 4, 21, 0, []) by decide +kernel)
theorem b141_4 {T : zT} {V : zM} {x1 : Int} {x2 : Int} : ev 141 4 [(2, 0), (0, x1), (0, x2)] [] T V = if 1000000 < x1 then ev 141 21 [(2, 0), (0, x1), (0, x2)] [] T V else ev 141 11 [(2, 0), (0, x1), (0, x2)] [] T V := by
  refine Eq.trans (ev_ldi (show zcode 141 4 = some (4, 5, 1, 0, []) by decide +kernel) rfl) ?_
  refine Eq.trans (ev_ci (show zcode 141 5 = some (0, 8, 0, 1000000, []) by decide +kernel) (by decide)) ?_
  exact ev_cgt (show zcode 141 8 = some (50, 11, 21, 0, []) by decide +kernel)
theorem b141_11 {T : zT} {V : zM} {x1 : Int} {x2 : Int} : ev 141 11 [(2, 0), (0, x1), (0, x2)] [] T V = if x2 < 0 then ev 141 21 [(2, 0), (0, x1), (0, x2)] [] T V else ev 141 15 [(2, 0), (0, x1), (0, x2)] [] T V := by
  refine Eq.trans (ev_ldi (show zcode 141 11 = some (4, 12, 2, 0, []) by decide +kernel) rfl) ?_
  exact ev_lt (show zcode 141 12 = some (42, 15, 21, 0, []) by decide +kernel)
theorem b141_15 {T : zT} {V : zM} {x1 : Int} {x2 : Int} : ev 141 15 [(2, 0), (0, x1), (0, x2)] [] T V = if x2 ≤ 100 then ev 141 27 [(2, 0), (0, x1), (0, x2)] [] T V else ev 141 21 [(2, 0), (0, x1), (0, x2)] [] T V := by
  refine Eq.trans (ev_ldi (show zcode 141 15 = some (4, 16, 2, 0, []) by decide +kernel) rfl) ?_
  refine Eq.trans (ev_ci (show zcode 141 16 = some (0, 18, 0, 100, []) by decide +kernel) (by decide)) ?_
  exact ev_cle (show zcode 141 18 = some (51, 21, 27, 0, []) by decide +kernel)
theorem b141_21 {T : zT} {V : zM} {x1 : Int} {x2 : Int} (hS : zStr T)  : ev 141 21 [(2, 0), (0, x1), (0, x2)] [] T V = (zcall 24 [(2, 0), (0, (-1))] T V).bind fun x => ev 141 26 [(2, 0), (0, x1), (0, x2)] (z_push x.1 []) x.2.1 x.2.2 := by
  refine Eq.trans (ev_lda (show zcode 141 21 = some (6, 22, 0, 0, []) by decide +kernel) rfl (by decide)) ?_
  refine Eq.trans (ev_ci (show zcode 141 22 = some (0, 23, 0, (-1), []) by decide +kernel) (by decide)) ?_
  exact ev_cvirt (show zcode 141 23 = some (76, 26, 24, 2, [11]) by decide +kernel) (args := [(0, (-1))]) (rest := []) rfl (so0 hS) rfl (show 0 ≤ 8 by decide) ⟨by decide, show 2 ≤ 2 by decide⟩
theorem b141_26 {T : zT} {V : zM} {x1 : Int} {x2 : Int} {y0 : Int} : ev 141 26 [(2, 0), (0, x1), (0, x2)] [(0, y0)] T V = some ((0, y0), T, V) := by
  exact ev_ri (show zcode 141 26 = some (72, 27, 0, 0, []) by decide +kernel)
theorem b141_27 {T : zT} {V : zM} {x1 : Int} {x2 : Int} (hS : zStr T)  : ev 141 27 [(2, 0), (0, x1), (0, x2)] [] T V = (zcall 142 [(2, 1), (0, x1), (0, x2)] T V).bind fun x => ev 141 37 [(2, 0), (0, x1), (0, x2)] (z_push x.1 [(2, 0)]) x.2.1 x.2.2 := by
  refine Eq.trans (ev_lda (show zcode 141 27 = some (6, 28, 0, 0, []) by decide +kernel) rfl (by decide)) ?_
  refine Eq.trans (ev_lda (show zcode 141 28 = some (6, 29, 0, 0, []) by decide +kernel) rfl (by decide)) ?_
  refine Eq.trans (ev_gq (show zcode 141 29 = some (56, 32, 11, 0, []) by decide +kernel) (so0 hS) (sp0_0 hS)) ?_
  refine Eq.trans (ev_ldi (show zcode 141 32 = some (4, 33, 1, 0, []) by decide +kernel) rfl) ?_
  refine Eq.trans (ev_ldi (show zcode 141 33 = some (4, 34, 2, 0, []) by decide +kernel) rfl) ?_
  exact ev_cvirt (show zcode 141 34 = some (76, 37, 142, 3, [6]) by decide +kernel) (args := [(0, x1), (0, x2)]) (rest := [(2, 0)]) rfl (so1 hS) rfl (show 1 ≤ 8 by decide) ⟨by decide, show 3 ≤ 8 by decide⟩
theorem b141_37 {T : zT} {V : zM} {x1 : Int} {x2 : Int} {y1 : Int} (hS : zStr T)  : ev 141 37 [(2, 0), (0, x1), (0, x2)] [(0, y1), (2, 0)] T V = (zcall 26 [(2, 0), (0, y1)] T V).bind fun x => ev 141 40 [(2, 0), (0, x1), (0, x2)] (z_push x.1 []) x.2.1 x.2.2 := by
  exact ev_cvirt (show zcode 141 37 = some (76, 40, 26, 2, [11]) by decide +kernel) (args := [(0, y1)]) (rest := []) rfl (so0 hS) rfl (show 0 ≤ 8 by decide) ⟨by decide, show 2 ≤ 2 by decide⟩
theorem b141_40 {T : zT} {V : zM} {x1 : Int} {x2 : Int} {y0 : Int} : ev 141 40 [(2, 0), (0, x1), (0, x2)] [(0, y0)] T V = some ((0, y0), T, V) := by
  exact ev_ri (show zcode 141 40 = some (72, 41, 0, 0, []) by decide +kernel)
/-! 143: TwoWayWall.image(I)I -/
theorem e143 {T : zT} {V : zM} {x1 : Int} : zcall 143 [(2, 0), (0, x1)] T V = ev 143 0 [(2, 0), (0, x1)] [] T V := rfl
theorem b143_0 {T : zT} {V : zM} {x1 : Int} : ev 143 0 [(2, 0), (0, x1)] [] T V = if x1 < 0 then ev 143 13 [(2, 0), (0, x1)] [] T V else ev 143 4 [(2, 0), (0, x1)] [] T V := by
  refine Eq.trans (ev_ldi (show zcode 143 0 = some (4, 1, 1, 0, []) by decide +kernel) rfl) ?_
  exact ev_lt (show zcode 143 1 = some (42, 4, 13, 0, []) by decide +kernel)
theorem b143_4 {T : zT} {V : zM} {x1 : Int} (hS : zStr T)  : ev 143 4 [(2, 0), (0, x1)] [] T V = if x1 < 2 then ev 143 19 [(2, 0), (0, x1)] [] T V else ev 143 13 [(2, 0), (0, x1)] [] T V := by
  refine Eq.trans (ev_ldi (show zcode 143 4 = some (4, 5, 1, 0, []) by decide +kernel) rfl) ?_
  refine Eq.trans (ev_lda (show zcode 143 5 = some (6, 6, 0, 0, []) by decide +kernel) rfl (by decide)) ?_
  refine Eq.trans (ev_gq (show zcode 143 6 = some (56, 9, 11, 2, []) by decide +kernel) (so0 hS) (sp0_2 hS)) ?_
  refine Eq.trans (ev_len (show zcode 143 9 = some (68, 10, 0, 0, []) by decide +kernel) (sa55 hS) (by decide)) ?_
  exact ev_clt (show zcode 143 10 = some (48, 13, 19, 0, []) by decide +kernel)
theorem b143_13 {T : zT} {V : zM} {x1 : Int} (hS : zStr T)  : ev 143 13 [(2, 0), (0, x1)] [] T V = (zcall 24 [(2, 0), (0, (-1))] T V).bind fun x => ev 143 18 [(2, 0), (0, x1)] (z_push x.1 []) x.2.1 x.2.2 := by
  refine Eq.trans (ev_lda (show zcode 143 13 = some (6, 14, 0, 0, []) by decide +kernel) rfl (by decide)) ?_
  refine Eq.trans (ev_ci (show zcode 143 14 = some (0, 15, 0, (-1), []) by decide +kernel) (by decide)) ?_
  exact ev_cvirt (show zcode 143 15 = some (76, 18, 24, 2, [11]) by decide +kernel) (args := [(0, (-1))]) (rest := []) rfl (so0 hS) rfl (show 0 ≤ 8 by decide) ⟨by decide, show 2 ≤ 2 by decide⟩
theorem b143_18 {T : zT} {V : zM} {x1 : Int} {y0 : Int} : ev 143 18 [(2, 0), (0, x1)] [(0, y0)] T V = some ((0, y0), T, V) := by
  exact ev_ri (show zcode 143 18 = some (72, 19, 0, 0, []) by decide +kernel)
theorem b143_19 {T : zT} {V : zM} {x1 : Int} (hS : zStr T) (h1 : (0 : Int) ≤ x1 ∧ x1 < 2) : ev 143 19 [(2, 0), (0, x1)] [] T V = if 0 ≤ (zp T 55 x1) then ev 143 41 [(2, 0), (0, x1)] [] T V else ev 143 28 [(2, 0), (0, x1)] [] T V := by
  refine Eq.trans (ev_lda (show zcode 143 19 = some (6, 20, 0, 0, []) by decide +kernel) rfl (by decide)) ?_
  refine Eq.trans (ev_gq (show zcode 143 20 = some (56, 23, 11, 2, []) by decide +kernel) (so0 hS) (sp0_2 hS)) ?_
  refine Eq.trans (ev_ldi (show zcode 143 23 = some (4, 24, 1, 0, []) by decide +kernel) rfl) ?_
  refine Eq.trans (ev_qa (show zcode 143 24 = some (63, 25, 0, 0, []) by decide +kernel) (sa55 hS) h1) ?_
  exact ev_nn (show zcode 143 25 = some (52, 28, 41, 0, []) by decide +kernel)
theorem b143_28 {T : zT} {V : zM} {x1 : Int} (hS : zStr T)  : ev 143 28 [(2, 0), (0, x1)] [] T V = ev 143 36 [(2, 0), (0, x1)] [(2, (zsz T)), (0, x1), (2, 55)] (zn T 16 8) (zs V (zsz T) (fun _ => 0)) := by
  refine Eq.trans (ev_lda (show zcode 143 28 = some (6, 29, 0, 0, []) by decide +kernel) rfl (by decide)) ?_
  refine Eq.trans (ev_gq (show zcode 143 29 = some (56, 32, 11, 2, []) by decide +kernel) (so0 hS) (sp0_2 hS)) ?_
  refine Eq.trans (ev_ldi (show zcode 143 32 = some (4, 33, 1, 0, []) by decide +kernel) rfl) ?_
  exact ev_new (show zcode 143 33 = some (69, 36, 6, 0, []) by decide +kernel) (by decide)
theorem b143_36 {T : zT} {V : zM} {x1 : Int} {y1 : Int} {p2 : Int} (h1 : (0 : Int) ≤ p2) : ev 143 36 [(2, 0), (0, x1)] [(2, p2), (0, y1), (2, 55)] T V = (zcall 3 [(2, p2)] T V).bind fun x => ev 143 40 [(2, 0), (0, x1)] (z_push x.1 [(2, p2), (0, y1), (2, 55)]) x.2.1 x.2.2 := by
  refine Eq.trans (ev_dup (show zcode 143 36 = some (36, 37, 0, 0, []) by decide +kernel) (by decide)) ?_
  exact ev_cspec (show zcode 143 37 = some (75, 40, 3, 1, []) by decide +kernel) (args := []) (rest := [(2, p2), (0, y1), (2, 55)]) rfl h1 rfl (show 3 ≤ 8 by decide) ⟨by decide, show 1 ≤ 2 by decide⟩
theorem b143_40 {T : zT} {V : zM} {x1 : Int} {y1 : Int} {p2 : Int} (hS : zStr T) (h1 : (0 : Int) ≤ y1 ∧ y1 < 2) (h2 : zState T p2) : ev 143 40 [(2, 0), (0, x1)] [(2, p2), (0, y1), (2, 55)] T V = ev 143 41 [(2, 0), (0, x1)] [] (zqw T 55 y1 p2) V := by
  exact ev_qs (show zcode 143 40 = some (67, 41, 0, 0, []) by decide +kernel) (sa55 hS) h1 h2.o
theorem b143_41 {T : zT} {V : zM} {x1 : Int} (hS : zStr T) (h1 : (0 : Int) ≤ x1 ∧ x1 < 2) (h2 : zState T (zp T 55 x1)) : ev 143 41 [(2, 0), (0, x1)] [] T V = (zcall 38 [(2, (zp T 55 x1)), (2, 1)] T V).bind fun x => ev 143 54 [(2, 0), (0, x1)] (z_push x.1 []) x.2.1 x.2.2 := by
  refine Eq.trans (ev_lda (show zcode 143 41 = some (6, 42, 0, 0, []) by decide +kernel) rfl (by decide)) ?_
  refine Eq.trans (ev_gq (show zcode 143 42 = some (56, 45, 11, 2, []) by decide +kernel) (so0 hS) (sp0_2 hS)) ?_
  refine Eq.trans (ev_ldi (show zcode 143 45 = some (4, 46, 1, 0, []) by decide +kernel) rfl) ?_
  refine Eq.trans (ev_qa (show zcode 143 46 = some (63, 47, 0, 0, []) by decide +kernel) (sa55 hS) h1) ?_
  refine Eq.trans (ev_lda (show zcode 143 47 = some (6, 48, 0, 0, []) by decide +kernel) rfl (by decide)) ?_
  refine Eq.trans (ev_gq (show zcode 143 48 = some (56, 51, 11, 0, []) by decide +kernel) (so0 hS) (sp0_0 hS)) ?_
  exact ev_cvirt (show zcode 143 51 = some (76, 54, 38, 2, [6]) by decide +kernel) (args := [(2, 1)]) (rest := []) rfl h2.o rfl (show 0 ≤ 8 by decide) ⟨by decide, show 2 ≤ 2 by decide⟩
theorem b143_54 {T : zT} {V : zM} {x1 : Int} (hS : zStr T)  : ev 143 54 [(2, 0), (0, x1)] [] T V = (zcall 26 [(2, 0), (0, 0)] T V).bind fun x => ev 143 59 [(2, 0), (0, x1)] (z_push x.1 []) x.2.1 x.2.2 := by
  refine Eq.trans (ev_lda (show zcode 143 54 = some (6, 55, 0, 0, []) by decide +kernel) rfl (by decide)) ?_
  refine Eq.trans (ev_ci (show zcode 143 55 = some (0, 56, 0, 0, []) by decide +kernel) (by decide)) ?_
  exact ev_cvirt (show zcode 143 56 = some (76, 59, 26, 2, [11]) by decide +kernel) (args := [(0, 0)]) (rest := []) rfl (so0 hS) rfl (show 0 ≤ 8 by decide) ⟨by decide, show 2 ≤ 2 by decide⟩
theorem b143_59 {T : zT} {V : zM} {x1 : Int} {y0 : Int} : ev 143 59 [(2, 0), (0, x1)] [(0, y0)] T V = some ((0, y0), T, V) := by
  exact ev_ri (show zcode 143 59 = some (72, 60, 0, 0, []) by decide +kernel)
/-! 144: TwoWayWall.back(I)I -/
theorem e144 {T : zT} {V : zM} {x1 : Int} : zcall 144 [(2, 0), (0, x1)] T V = ev 144 0 [(2, 0), (0, x1)] [] T V := rfl
theorem b144_0 {T : zT} {V : zM} {x1 : Int} : ev 144 0 [(2, 0), (0, x1)] [] T V = if x1 < 0 then ev 144 13 [(2, 0), (0, x1)] [] T V else ev 144 4 [(2, 0), (0, x1)] [] T V := by
  refine Eq.trans (ev_ldi (show zcode 144 0 = some (4, 1, 1, 0, []) by decide +kernel) rfl) ?_
  exact ev_lt (show zcode 144 1 = some (42, 4, 13, 0, []) by decide +kernel)
theorem b144_4 {T : zT} {V : zM} {x1 : Int} (hS : zStr T)  : ev 144 4 [(2, 0), (0, x1)] [] T V = if x1 < 2 then ev 144 19 [(2, 0), (0, x1)] [] T V else ev 144 13 [(2, 0), (0, x1)] [] T V := by
  refine Eq.trans (ev_ldi (show zcode 144 4 = some (4, 5, 1, 0, []) by decide +kernel) rfl) ?_
  refine Eq.trans (ev_lda (show zcode 144 5 = some (6, 6, 0, 0, []) by decide +kernel) rfl (by decide)) ?_
  refine Eq.trans (ev_gq (show zcode 144 6 = some (56, 9, 11, 2, []) by decide +kernel) (so0 hS) (sp0_2 hS)) ?_
  refine Eq.trans (ev_len (show zcode 144 9 = some (68, 10, 0, 0, []) by decide +kernel) (sa55 hS) (by decide)) ?_
  exact ev_clt (show zcode 144 10 = some (48, 13, 19, 0, []) by decide +kernel)
theorem b144_13 {T : zT} {V : zM} {x1 : Int} (hS : zStr T)  : ev 144 13 [(2, 0), (0, x1)] [] T V = (zcall 24 [(2, 0), (0, (-1))] T V).bind fun x => ev 144 18 [(2, 0), (0, x1)] (z_push x.1 []) x.2.1 x.2.2 := by
  refine Eq.trans (ev_lda (show zcode 144 13 = some (6, 14, 0, 0, []) by decide +kernel) rfl (by decide)) ?_
  refine Eq.trans (ev_ci (show zcode 144 14 = some (0, 15, 0, (-1), []) by decide +kernel) (by decide)) ?_
  exact ev_cvirt (show zcode 144 15 = some (76, 18, 24, 2, [11]) by decide +kernel) (args := [(0, (-1))]) (rest := []) rfl (so0 hS) rfl (show 0 ≤ 8 by decide) ⟨by decide, show 2 ≤ 2 by decide⟩
theorem b144_18 {T : zT} {V : zM} {x1 : Int} {y0 : Int} : ev 144 18 [(2, 0), (0, x1)] [(0, y0)] T V = some ((0, y0), T, V) := by
  exact ev_ri (show zcode 144 18 = some (72, 19, 0, 0, []) by decide +kernel)
theorem b144_19 {T : zT} {V : zM} {x1 : Int} (hS : zStr T) (h1 : (0 : Int) ≤ x1 ∧ x1 < 2) : ev 144 19 [(2, 0), (0, x1)] [] T V = if 0 ≤ (zp T 55 x1) then ev 144 35 [(2, 0), (0, x1)] [] T V else ev 144 28 [(2, 0), (0, x1)] [] T V := by
  refine Eq.trans (ev_lda (show zcode 144 19 = some (6, 20, 0, 0, []) by decide +kernel) rfl (by decide)) ?_
  refine Eq.trans (ev_gq (show zcode 144 20 = some (56, 23, 11, 2, []) by decide +kernel) (so0 hS) (sp0_2 hS)) ?_
  refine Eq.trans (ev_ldi (show zcode 144 23 = some (4, 24, 1, 0, []) by decide +kernel) rfl) ?_
  refine Eq.trans (ev_qa (show zcode 144 24 = some (63, 25, 0, 0, []) by decide +kernel) (sa55 hS) h1) ?_
  exact ev_nn (show zcode 144 25 = some (52, 28, 35, 0, []) by decide +kernel)
theorem b144_28 {T : zT} {V : zM} {x1 : Int} (hS : zStr T)  : ev 144 28 [(2, 0), (0, x1)] [] T V = (zcall 24 [(2, 0), (0, (-2))] T V).bind fun x => ev 144 34 [(2, 0), (0, x1)] (z_push x.1 []) x.2.1 x.2.2 := by
  refine Eq.trans (ev_lda (show zcode 144 28 = some (6, 29, 0, 0, []) by decide +kernel) rfl (by decide)) ?_
  refine Eq.trans (ev_ci (show zcode 144 29 = some (0, 31, 0, (-2), []) by decide +kernel) (by decide)) ?_
  exact ev_cvirt (show zcode 144 31 = some (76, 34, 24, 2, [11]) by decide +kernel) (args := [(0, (-2))]) (rest := []) rfl (so0 hS) rfl (show 0 ≤ 8 by decide) ⟨by decide, show 2 ≤ 2 by decide⟩
theorem b144_34 {T : zT} {V : zM} {x1 : Int} {y0 : Int} : ev 144 34 [(2, 0), (0, x1)] [(0, y0)] T V = some ((0, y0), T, V) := by
  exact ev_ri (show zcode 144 34 = some (72, 35, 0, 0, []) by decide +kernel)
theorem b144_35 {T : zT} {V : zM} {x1 : Int} (hS : zStr T) (h1 : (0 : Int) ≤ x1 ∧ x1 < 2) : ev 144 35 [(2, 0), (0, x1)] [] T V = (zcall 38 [(2, 1), (2, (zp T 55 x1))] T V).bind fun x => ev 144 48 [(2, 0), (0, x1)] (z_push x.1 []) x.2.1 x.2.2 := by
  refine Eq.trans (ev_lda (show zcode 144 35 = some (6, 36, 0, 0, []) by decide +kernel) rfl (by decide)) ?_
  refine Eq.trans (ev_gq (show zcode 144 36 = some (56, 39, 11, 0, []) by decide +kernel) (so0 hS) (sp0_0 hS)) ?_
  refine Eq.trans (ev_lda (show zcode 144 39 = some (6, 40, 0, 0, []) by decide +kernel) rfl (by decide)) ?_
  refine Eq.trans (ev_gq (show zcode 144 40 = some (56, 43, 11, 2, []) by decide +kernel) (so0 hS) (sp0_2 hS)) ?_
  refine Eq.trans (ev_ldi (show zcode 144 43 = some (4, 44, 1, 0, []) by decide +kernel) rfl) ?_
  refine Eq.trans (ev_qa (show zcode 144 44 = some (63, 45, 0, 0, []) by decide +kernel) (sa55 hS) h1) ?_
  exact ev_cvirt (show zcode 144 45 = some (76, 48, 38, 2, [6]) by decide +kernel) (args := [(2, (zp T 55 x1))]) (rest := []) rfl (so1 hS) rfl (show 0 ≤ 8 by decide) ⟨by decide, show 2 ≤ 2 by decide⟩
theorem b144_48 {T : zT} {V : zM} {x1 : Int} (hS : zStr T)  : ev 144 48 [(2, 0), (0, x1)] [] T V = (zcall 15 [(2, 0)] T V).bind fun x => ev 144 52 [(2, 0), (0, x1)] (z_push x.1 []) x.2.1 x.2.2 := by
  refine Eq.trans (ev_lda (show zcode 144 48 = some (6, 49, 0, 0, []) by decide +kernel) rfl (by decide)) ?_
  exact ev_cvirt (show zcode 144 49 = some (76, 52, 15, 1, [11]) by decide +kernel) (args := []) (rest := []) rfl (so0 hS) rfl (show 0 ≤ 8 by decide) ⟨by decide, show 1 ≤ 2 by decide⟩
theorem b144_52 {T : zT} {V : zM} {x1 : Int} (hS : zStr T)  : ev 144 52 [(2, 0), (0, x1)] [] T V = (zcall 26 [(2, 0), (0, 0)] T V).bind fun x => ev 144 57 [(2, 0), (0, x1)] (z_push x.1 []) x.2.1 x.2.2 := by
  refine Eq.trans (ev_lda (show zcode 144 52 = some (6, 53, 0, 0, []) by decide +kernel) rfl (by decide)) ?_
  refine Eq.trans (ev_ci (show zcode 144 53 = some (0, 54, 0, 0, []) by decide +kernel) (by decide)) ?_
  exact ev_cvirt (show zcode 144 54 = some (76, 57, 26, 2, [11]) by decide +kernel) (args := [(0, 0)]) (rest := []) rfl (so0 hS) rfl (show 0 ≤ 8 by decide) ⟨by decide, show 2 ≤ 2 by decide⟩
theorem b144_57 {T : zT} {V : zM} {x1 : Int} {y0 : Int} : ev 144 57 [(2, 0), (0, x1)] [(0, y0)] T V = some ((0, y0), T, V) := by
  exact ev_ri (show zcode 144 57 = some (72, 58, 0, 0, []) by decide +kernel)
/-! 145: TwoWayWall.count(I)I -/
theorem e145 {T : zT} {V : zM} {x1 : Int} : zcall 145 [(2, 0), (0, x1)] T V = ev 145 0 [(2, 0), (0, x1)] [] T V := rfl
theorem b145_0 {T : zT} {V : zM} {x1 : Int} : ev 145 0 [(2, 0), (0, x1)] [] T V = if x1 < 11 then ev 145 22 [(2, 0), (0, x1)] [] T V else ev 145 6 [(2, 0), (0, x1)] [] T V := by
  refine Eq.trans (ev_ldi (show zcode 145 0 = some (4, 1, 1, 0, []) by decide +kernel) rfl) ?_
  refine Eq.trans (ev_ci (show zcode 145 1 = some (0, 3, 0, 11, []) by decide +kernel) (by decide)) ?_
  exact ev_clt (show zcode 145 3 = some (48, 6, 22, 0, []) by decide +kernel)
theorem b145_6 {T : zT} {V : zM} {x1 : Int} : ev 145 6 [(2, 0), (0, x1)] [] T V = if 14 < x1 then ev 145 22 [(2, 0), (0, x1)] [] T V else ev 145 12 [(2, 0), (0, x1)] [] T V := by
  refine Eq.trans (ev_ldi (show zcode 145 6 = some (4, 7, 1, 0, []) by decide +kernel) rfl) ?_
  refine Eq.trans (ev_ci (show zcode 145 7 = some (0, 9, 0, 14, []) by decide +kernel) (by decide)) ?_
  exact ev_cgt (show zcode 145 9 = some (50, 12, 22, 0, []) by decide +kernel)
theorem b145_12 {T : zT} {V : zM} {x1 : Int} (hS : zStr T) (h1 : -2147483648 ≤ (x1 - 11) ∧ (x1 - 11) ≤ 2147483647) (h2 : (0 : Int) ≤ (x1 - 11) ∧ (x1 - 11) < 4) : ev 145 12 [(2, 0), (0, x1)] [] T V = some ((0, (V 129 (x1 - 11))), T, V) := by
  refine Eq.trans (ev_lda (show zcode 145 12 = some (6, 13, 0, 0, []) by decide +kernel) rfl (by decide)) ?_
  refine Eq.trans (ev_gq (show zcode 145 13 = some (56, 16, 11, 13, []) by decide +kernel) (so0 hS) (sp0_13 hS)) ?_
  refine Eq.trans (ev_ldi (show zcode 145 16 = some (4, 17, 1, 0, []) by decide +kernel) rfl) ?_
  refine Eq.trans (ev_ci (show zcode 145 17 = some (0, 19, 0, 11, []) by decide +kernel) (by decide)) ?_
  refine Eq.trans (ev_sub (show zcode 145 19 = some (12, 20, 0, 0, []) by decide +kernel) h1) ?_
  refine Eq.trans (ev_ia (show zcode 145 20 = some (60, 21, 0, 0, []) by decide +kernel) (sa129 hS) h2) ?_
  exact ev_ri (show zcode 145 21 = some (72, 22, 0, 0, []) by decide +kernel)
theorem b145_22 {T : zT} {V : zM} {x1 : Int} : ev 145 22 [(2, 0), (0, x1)] [] T V = if x1 < 15 then ev 145 47 [(2, 0), (0, x1)] [] T V else ev 145 28 [(2, 0), (0, x1)] [] T V := by
  refine Eq.trans (ev_ldi (show zcode 145 22 = some (4, 23, 1, 0, []) by decide +kernel) rfl) ?_
  refine Eq.trans (ev_ci (show zcode 145 23 = some (0, 25, 0, 15, []) by decide +kernel) (by decide)) ?_
  exact ev_clt (show zcode 145 25 = some (48, 28, 47, 0, []) by decide +kernel)
theorem b145_28 {T : zT} {V : zM} {x1 : Int} : ev 145 28 [(2, 0), (0, x1)] [] T V = if 22 ≤ x1 then ev 145 47 [(2, 0), (0, x1)] [] T V else ev 145 34 [(2, 0), (0, x1)] [] T V := by
  refine Eq.trans (ev_ldi (show zcode 145 28 = some (4, 29, 1, 0, []) by decide +kernel) rfl) ?_
  refine Eq.trans (ev_ci (show zcode 145 29 = some (0, 31, 0, 22, []) by decide +kernel) (by decide)) ?_
  exact ev_cge (show zcode 145 31 = some (49, 34, 47, 0, []) by decide +kernel)
theorem b145_34 {T : zT} {V : zM} {x1 : Int} (hS : zStr T) (h1 : -2147483648 ≤ (x1 - 15) ∧ (x1 - 15) ≤ 2147483647) (h2 : (0 : Int) ≤ (x1 - 15) ∧ (x1 - 15) < 7) : ev 145 34 [(2, 0), (0, x1)] [] T V = some ((0, (V 4 (x1 - 15))), T, V) := by
  refine Eq.trans (ev_lda (show zcode 145 34 = some (6, 35, 0, 0, []) by decide +kernel) rfl (by decide)) ?_
  refine Eq.trans (ev_gq (show zcode 145 35 = some (56, 38, 11, 0, []) by decide +kernel) (so0 hS) (sp0_0 hS)) ?_
  refine Eq.trans (ev_gq (show zcode 145 38 = some (56, 41, 6, 3, []) by decide +kernel) (so1 hS) (sp1_3 hS)) ?_
  refine Eq.trans (ev_ldi (show zcode 145 41 = some (4, 42, 1, 0, []) by decide +kernel) rfl) ?_
  refine Eq.trans (ev_ci (show zcode 145 42 = some (0, 44, 0, 15, []) by decide +kernel) (by decide)) ?_
  refine Eq.trans (ev_sub (show zcode 145 44 = some (12, 45, 0, 0, []) by decide +kernel) h1) ?_
  refine Eq.trans (ev_ia (show zcode 145 45 = some (60, 46, 0, 0, []) by decide +kernel) (sa4 hS) h2) ?_
  exact ev_ri (show zcode 145 46 = some (72, 47, 0, 0, []) by decide +kernel)
theorem b145_47 {T : zT} {V : zM} {x1 : Int} : ev 145 47 [(2, 0), (0, x1)] [] T V = if x1 < 22 then ev 145 72 [(2, 0), (0, x1)] [] T V else ev 145 53 [(2, 0), (0, x1)] [] T V := by
  refine Eq.trans (ev_ldi (show zcode 145 47 = some (4, 48, 1, 0, []) by decide +kernel) rfl) ?_
  refine Eq.trans (ev_ci (show zcode 145 48 = some (0, 50, 0, 22, []) by decide +kernel) (by decide)) ?_
  exact ev_clt (show zcode 145 50 = some (48, 53, 72, 0, []) by decide +kernel)
theorem b145_53 {T : zT} {V : zM} {x1 : Int} : ev 145 53 [(2, 0), (0, x1)] [] T V = if 29 ≤ x1 then ev 145 72 [(2, 0), (0, x1)] [] T V else ev 145 59 [(2, 0), (0, x1)] [] T V := by
  refine Eq.trans (ev_ldi (show zcode 145 53 = some (4, 54, 1, 0, []) by decide +kernel) rfl) ?_
  refine Eq.trans (ev_ci (show zcode 145 54 = some (0, 56, 0, 29, []) by decide +kernel) (by decide)) ?_
  exact ev_cge (show zcode 145 56 = some (49, 59, 72, 0, []) by decide +kernel)
theorem b145_59 {T : zT} {V : zM} {x1 : Int} (hS : zStr T) (h1 : -2147483648 ≤ (x1 - 22) ∧ (x1 - 22) ≤ 2147483647) (h2 : (0 : Int) ≤ (x1 - 22) ∧ (x1 - 22) < 7) : ev 145 59 [(2, 0), (0, x1)] [] T V = some ((0, (V 5 (x1 - 22))), T, V) := by
  refine Eq.trans (ev_lda (show zcode 145 59 = some (6, 60, 0, 0, []) by decide +kernel) rfl (by decide)) ?_
  refine Eq.trans (ev_gq (show zcode 145 60 = some (56, 63, 11, 0, []) by decide +kernel) (so0 hS) (sp0_0 hS)) ?_
  refine Eq.trans (ev_gq (show zcode 145 63 = some (56, 66, 6, 4, []) by decide +kernel) (so1 hS) (sp1_4 hS)) ?_
  refine Eq.trans (ev_ldi (show zcode 145 66 = some (4, 67, 1, 0, []) by decide +kernel) rfl) ?_
  refine Eq.trans (ev_ci (show zcode 145 67 = some (0, 69, 0, 22, []) by decide +kernel) (by decide)) ?_
  refine Eq.trans (ev_sub (show zcode 145 69 = some (12, 70, 0, 0, []) by decide +kernel) h1) ?_
  refine Eq.trans (ev_ia (show zcode 145 70 = some (60, 71, 0, 0, []) by decide +kernel) (sa5 hS) h2) ?_
  exact ev_ri (show zcode 145 71 = some (72, 72, 0, 0, []) by decide +kernel)
theorem b145_72 {T : zT} {V : zM} {x1 : Int} : ev 145 72 [(2, 0), (0, x1)] [] T V = ev 145 (if 0 ≤ x1 ∧ x1 < 0 + ((12 : Nat) : Int) - 1 then ([247, 132, 140, 151, 162, 173, 184, 195, 206, 217, 228, 239] : List Nat).getD ((x1 - 0).toNat + 1) 0 else 247) [(2, 0), (0, x1)] [] T V := by
  refine Eq.trans (ev_ldi (show zcode 145 72 = some (4, 73, 1, 0, []) by decide +kernel) rfl) ?_
  exact ev_sw (show zcode 145 73 = some (54, 132, 0, 0, [247, 132, 140, 151, 162, 173, 184, 195, 206, 217, 228, 239]) by decide +kernel)
theorem b145_132 {T : zT} {V : zM} {x1 : Int} (hS : zStr T)  : ev 145 132 [(2, 0), (0, x1)] [] T V = some ((0, (V 1 0)), T, V) := by
  refine Eq.trans (ev_lda (show zcode 145 132 = some (6, 133, 0, 0, []) by decide +kernel) rfl (by decide)) ?_
  refine Eq.trans (ev_gq (show zcode 145 133 = some (56, 136, 11, 0, []) by decide +kernel) (so0 hS) (sp0_0 hS)) ?_
  refine Eq.trans (ev_gi (show zcode 145 136 = some (55, 139, 6, 0, []) by decide +kernel) (so1 hS)) ?_
  exact ev_ri (show zcode 145 139 = some (72, 140, 0, 0, []) by decide +kernel)
theorem b145_140 {T : zT} {V : zM} {x1 : Int} (hS : zStr T)  : ev 145 140 [(2, 0), (0, x1)] [] T V = (zcall 146 [(2, 6)] T V).bind fun x => ev 145 150 [(2, 0), (0, x1)] (z_push x.1 []) x.2.1 x.2.2 := by
  refine Eq.trans (ev_lda (show zcode 145 140 = some (6, 141, 0, 0, []) by decide +kernel) rfl (by decide)) ?_
  refine Eq.trans (ev_gq (show zcode 145 141 = some (56, 144, 11, 0, []) by decide +kernel) (so0 hS) (sp0_0 hS)) ?_
  refine Eq.trans (ev_gq (show zcode 145 144 = some (56, 147, 6, 5, []) by decide +kernel) (so1 hS) (sp1_5 hS)) ?_
  exact ev_cvirt (show zcode 145 147 = some (76, 150, 146, 1, [9]) by decide +kernel) (args := []) (rest := []) rfl (so6 hS) rfl (show 0 ≤ 8 by decide) ⟨by decide, show 1 ≤ 3 by decide⟩
theorem b145_150 {T : zT} {V : zM} {x1 : Int} {y0 : Int} : ev 145 150 [(2, 0), (0, x1)] [(0, y0)] T V = some ((0, y0), T, V) := by
  exact ev_ri (show zcode 145 150 = some (72, 151, 0, 0, []) by decide +kernel)
theorem b145_151 {T : zT} {V : zM} {x1 : Int} (hS : zStr T)  : ev 145 151 [(2, 0), (0, x1)] [] T V = (zcall 146 [(2, 14)] T V).bind fun x => ev 145 161 [(2, 0), (0, x1)] (z_push x.1 []) x.2.1 x.2.2 := by
  refine Eq.trans (ev_lda (show zcode 145 151 = some (6, 152, 0, 0, []) by decide +kernel) rfl (by decide)) ?_
  refine Eq.trans (ev_gq (show zcode 145 152 = some (56, 155, 11, 0, []) by decide +kernel) (so0 hS) (sp0_0 hS)) ?_
  refine Eq.trans (ev_gq (show zcode 145 155 = some (56, 158, 6, 6, []) by decide +kernel) (so1 hS) (sp1_6 hS)) ?_
  exact ev_cvirt (show zcode 145 158 = some (76, 161, 146, 1, [9]) by decide +kernel) (args := []) (rest := []) rfl (so14 hS) rfl (show 0 ≤ 8 by decide) ⟨by decide, show 1 ≤ 3 by decide⟩
theorem b145_161 {T : zT} {V : zM} {x1 : Int} {y0 : Int} : ev 145 161 [(2, 0), (0, x1)] [(0, y0)] T V = some ((0, y0), T, V) := by
  exact ev_ri (show zcode 145 161 = some (72, 162, 0, 0, []) by decide +kernel)
theorem b145_162 {T : zT} {V : zM} {x1 : Int} (hS : zStr T)  : ev 145 162 [(2, 0), (0, x1)] [] T V = some ((0, (V 6 5)), T, V) := by
  refine Eq.trans (ev_lda (show zcode 145 162 = some (6, 163, 0, 0, []) by decide +kernel) rfl (by decide)) ?_
  refine Eq.trans (ev_gq (show zcode 145 163 = some (56, 166, 11, 0, []) by decide +kernel) (so0 hS) (sp0_0 hS)) ?_
  refine Eq.trans (ev_gq (show zcode 145 166 = some (56, 169, 6, 5, []) by decide +kernel) (so1 hS) (sp1_5 hS)) ?_
  refine Eq.trans (ev_gi (show zcode 145 169 = some (55, 172, 9, 5, []) by decide +kernel) (so6 hS)) ?_
  exact ev_ri (show zcode 145 172 = some (72, 173, 0, 0, []) by decide +kernel)
theorem b145_173 {T : zT} {V : zM} {x1 : Int} (hS : zStr T)  : ev 145 173 [(2, 0), (0, x1)] [] T V = some ((0, (V 14 5)), T, V) := by
  refine Eq.trans (ev_lda (show zcode 145 173 = some (6, 174, 0, 0, []) by decide +kernel) rfl (by decide)) ?_
  refine Eq.trans (ev_gq (show zcode 145 174 = some (56, 177, 11, 0, []) by decide +kernel) (so0 hS) (sp0_0 hS)) ?_
  refine Eq.trans (ev_gq (show zcode 145 177 = some (56, 180, 6, 6, []) by decide +kernel) (so1 hS) (sp1_6 hS)) ?_
  refine Eq.trans (ev_gi (show zcode 145 180 = some (55, 183, 9, 5, []) by decide +kernel) (so14 hS)) ?_
  exact ev_ri (show zcode 145 183 = some (72, 184, 0, 0, []) by decide +kernel)
theorem b145_184 {T : zT} {V : zM} {x1 : Int} (hS : zStr T)  : ev 145 184 [(2, 0), (0, x1)] [] T V = some ((0, (V 6 7)), T, V) := by
  refine Eq.trans (ev_lda (show zcode 145 184 = some (6, 185, 0, 0, []) by decide +kernel) rfl (by decide)) ?_
  refine Eq.trans (ev_gq (show zcode 145 185 = some (56, 188, 11, 0, []) by decide +kernel) (so0 hS) (sp0_0 hS)) ?_
  refine Eq.trans (ev_gq (show zcode 145 188 = some (56, 191, 6, 5, []) by decide +kernel) (so1 hS) (sp1_5 hS)) ?_
  refine Eq.trans (ev_gi (show zcode 145 191 = some (55, 194, 9, 7, []) by decide +kernel) (so6 hS)) ?_
  exact ev_ri (show zcode 145 194 = some (72, 195, 0, 0, []) by decide +kernel)
theorem b145_195 {T : zT} {V : zM} {x1 : Int} (hS : zStr T)  : ev 145 195 [(2, 0), (0, x1)] [] T V = some ((0, (V 14 7)), T, V) := by
  refine Eq.trans (ev_lda (show zcode 145 195 = some (6, 196, 0, 0, []) by decide +kernel) rfl (by decide)) ?_
  refine Eq.trans (ev_gq (show zcode 145 196 = some (56, 199, 11, 0, []) by decide +kernel) (so0 hS) (sp0_0 hS)) ?_
  refine Eq.trans (ev_gq (show zcode 145 199 = some (56, 202, 6, 6, []) by decide +kernel) (so1 hS) (sp1_6 hS)) ?_
  refine Eq.trans (ev_gi (show zcode 145 202 = some (55, 205, 9, 7, []) by decide +kernel) (so14 hS)) ?_
  exact ev_ri (show zcode 145 205 = some (72, 206, 0, 0, []) by decide +kernel)
theorem b145_206 {T : zT} {V : zM} {x1 : Int} (hS : zStr T)  : ev 145 206 [(2, 0), (0, x1)] [] T V = some ((0, (V 6 9)), T, V) := by
  refine Eq.trans (ev_lda (show zcode 145 206 = some (6, 207, 0, 0, []) by decide +kernel) rfl (by decide)) ?_
  refine Eq.trans (ev_gq (show zcode 145 207 = some (56, 210, 11, 0, []) by decide +kernel) (so0 hS) (sp0_0 hS)) ?_
  refine Eq.trans (ev_gq (show zcode 145 210 = some (56, 213, 6, 5, []) by decide +kernel) (so1 hS) (sp1_5 hS)) ?_
  refine Eq.trans (ev_gi (show zcode 145 213 = some (55, 216, 9, 9, []) by decide +kernel) (so6 hS)) ?_
  exact ev_ri (show zcode 145 216 = some (72, 217, 0, 0, []) by decide +kernel)
theorem b145_217 {T : zT} {V : zM} {x1 : Int} (hS : zStr T)  : ev 145 217 [(2, 0), (0, x1)] [] T V = some ((0, (V 14 9)), T, V) := by
  refine Eq.trans (ev_lda (show zcode 145 217 = some (6, 218, 0, 0, []) by decide +kernel) rfl (by decide)) ?_
  refine Eq.trans (ev_gq (show zcode 145 218 = some (56, 221, 11, 0, []) by decide +kernel) (so0 hS) (sp0_0 hS)) ?_
  refine Eq.trans (ev_gq (show zcode 145 221 = some (56, 224, 6, 6, []) by decide +kernel) (so1 hS) (sp1_6 hS)) ?_
  refine Eq.trans (ev_gi (show zcode 145 224 = some (55, 227, 9, 9, []) by decide +kernel) (so14 hS)) ?_
  exact ev_ri (show zcode 145 227 = some (72, 228, 0, 0, []) by decide +kernel)
theorem b145_228 {T : zT} {V : zM} {x1 : Int} (hS : zStr T)  : ev 145 228 [(2, 0), (0, x1)] [] T V = some ((0, (V 22 5)), T, V) := by
  refine Eq.trans (ev_lda (show zcode 145 228 = some (6, 229, 0, 0, []) by decide +kernel) rfl (by decide)) ?_
  refine Eq.trans (ev_gq (show zcode 145 229 = some (56, 232, 11, 0, []) by decide +kernel) (so0 hS) (sp0_0 hS)) ?_
  refine Eq.trans (ev_gq (show zcode 145 232 = some (56, 235, 6, 7, []) by decide +kernel) (so1 hS) (sp1_7 hS)) ?_
  refine Eq.trans (ev_gi (show zcode 145 235 = some (55, 238, 10, 5, []) by decide +kernel) (so22 hS)) ?_
  exact ev_ri (show zcode 145 238 = some (72, 239, 0, 0, []) by decide +kernel)
theorem b145_239 {T : zT} {V : zM} {x1 : Int} (hS : zStr T)  : ev 145 239 [(2, 0), (0, x1)] [] T V = some ((0, (V 56 1)), T, V) := by
  refine Eq.trans (ev_lda (show zcode 145 239 = some (6, 240, 0, 0, []) by decide +kernel) rfl (by decide)) ?_
  refine Eq.trans (ev_gq (show zcode 145 240 = some (56, 243, 11, 3, []) by decide +kernel) (so0 hS) (sp0_3 hS)) ?_
  refine Eq.trans (ev_gi (show zcode 145 243 = some (55, 246, 8, 1, []) by decide +kernel) (so56 hS)) ?_
  exact ev_ri (show zcode 145 246 = some (72, 247, 0, 0, []) by decide +kernel)
theorem b145_247 {T : zT} {V : zM} {x1 : Int} : ev 145 247 [(2, 0), (0, x1)] [] T V = some ((0, (-1)), T, V) := by
  refine Eq.trans (ev_ci (show zcode 145 247 = some (0, 248, 0, (-1), []) by decide +kernel) (by decide)) ?_
  exact ev_ri (show zcode 145 248 = some (72, 249, 0, 0, []) by decide +kernel)
/-! 147: TwoWayWall.status()I -/
theorem e147 {T : zT} {V : zM}  : zcall 147 [(2, 0)] T V = ev 147 0 [(2, 0)] [] T V := rfl
theorem b147_0 {T : zT} {V : zM}  (hS : zStr T)  : ev 147 0 [(2, 0)] [] T V = some ((0, (V 0 17)), T, V) := by
  refine Eq.trans (ev_lda (show zcode 147 0 = some (6, 1, 0, 0, []) by decide +kernel) rfl (by decide)) ?_
  refine Eq.trans (ev_gi (show zcode 147 1 = some (55, 4, 11, 17, []) by decide +kernel) (so0 hS)) ?_
  exact ev_ri (show zcode 147 4 = some (72, 5, 0, 0, []) by decide +kernel)
