/-! printed by emit_85.py: blocks of constructors and of grow, where the object stands alone -/
theorem o3_0 {T : zT} {V : zM} {q0 : Int} (h1 : (0 : Int) ≤ q0) (h2 : zO T q0 6) : ev 3 0 [(2, q0), (9, 0)] [] T V = ev 3 15 [(2, q0), (9, 0)] [(2, (zsz T)), (2, q0)] (zn T 0 16) (zs (zwr V q0 0 8) (zsz T) (fun _ => 0)) := by
  refine Eq.trans (ev_lda (show zcode 3 0 = some (6, 1, 0, 0, []) by decide +kernel) rfl (by decide)) ?_
  refine Eq.trans (ev_obj (show zcode 3 1 = some (78, 4, 0, 0, []) by decide +kernel) ⟨h1, show 0 ≤ 8 by decide⟩) ?_
  refine Eq.trans (ev_lda (show zcode 3 4 = some (6, 5, 0, 0, []) by decide +kernel) rfl (by decide)) ?_
  refine Eq.trans (ev_ci (show zcode 3 5 = some (0, 7, 0, 8, []) by decide +kernel) (by decide)) ?_
  refine Eq.trans (ev_pi (show zcode 3 7 = some (57, 10, 6, 0, []) by decide +kernel) h2) ?_
  refine Eq.trans (ev_lda (show zcode 3 10 = some (6, 11, 0, 0, []) by decide +kernel) rfl (by decide)) ?_
  refine Eq.trans (ev_ci (show zcode 3 11 = some (0, 13, 0, 16, []) by decide +kernel) (by decide)) ?_
  exact ev_narr (show zcode 3 13 = some (70, 15, 0, 0, []) by decide +kernel) (by decide)
theorem o3_15 {T : zT} {V : zM} {q0 : Int} {p0 : Int} {p1 : Int} (h1 : zO T p0 6) : ev 3 15 [(2, q0), (9, 0)] [(2, p1), (2, p0)] T V = ev 3 18 [(2, q0), (9, 0)] [] (zqw T p0 1 p1) V := by
  exact ev_pr (show zcode 3 15 = some (59, 18, 6, 1, []) by decide +kernel) h1
theorem o3_23 {T : zT} {V : zM} {q0 : Int} {p0 : Int} {p1 : Int} (h1 : zO T p0 6) : ev 3 23 [(2, q0), (9, 0)] [(2, p1), (2, p0)] T V = ev 3 26 [(2, q0), (9, 0)] [] (zqw T p0 2 p1) V := by
  exact ev_pr (show zcode 3 23 = some (59, 26, 6, 2, []) by decide +kernel) h1
theorem o3_31 {T : zT} {V : zM} {q0 : Int} {p0 : Int} {p1 : Int} (h1 : zO T p0 6) : ev 3 31 [(2, q0), (9, 0)] [(2, p1), (2, p0)] T V = ev 3 34 [(2, q0), (9, 0)] [] (zqw T p0 3 p1) V := by
  exact ev_pr (show zcode 3 31 = some (59, 34, 6, 3, []) by decide +kernel) h1
theorem o3_39 {T : zT} {V : zM} {q0 : Int} {p0 : Int} {p1 : Int} (h1 : zO T p0 6) : ev 3 39 [(2, q0), (9, 0)] [(2, p1), (2, p0)] T V = ev 3 42 [(2, q0), (9, 0)] [] (zqw T p0 4 p1) V := by
  exact ev_pr (show zcode 3 39 = some (59, 42, 6, 4, []) by decide +kernel) h1
theorem o3_50 {T : zT} {V : zM} {q0 : Int} {p0 : Int} {p1 : Int} (h1 : zO T p0 6) : ev 3 50 [(2, q0), (9, 0)] [(2, p1), (2, p0)] T V = ev 3 53 [(2, q0), (9, 0)] [] (zqw T p0 5 p1) V := by
  exact ev_pr (show zcode 3 50 = some (59, 53, 6, 5, []) by decide +kernel) h1
theorem o3_61 {T : zT} {V : zM} {q0 : Int} {p0 : Int} {p1 : Int} (h1 : zO T p0 6) : ev 3 61 [(2, q0), (9, 0)] [(2, p1), (2, p0)] T V = ev 3 64 [(2, q0), (9, 0)] [] (zqw T p0 6 p1) V := by
  exact ev_pr (show zcode 3 61 = some (59, 64, 6, 6, []) by decide +kernel) h1
theorem o3_72 {T : zT} {V : zM} {q0 : Int} {p0 : Int} {p1 : Int} (h1 : zO T p0 6) : ev 3 72 [(2, q0), (9, 0)] [(2, p1), (2, p0)] T V = ev 3 75 [(2, q0), (9, 0)] [] (zqw T p0 7 p1) V := by
  exact ev_pr (show zcode 3 72 = some (59, 75, 6, 7, []) by decide +kernel) h1
theorem o4_9 {T : zT} {V : zM} {q0 : Int} {p0 : Int} {p1 : Int} (h1 : zO T p0 9) : ev 4 9 [(2, q0)] [(2, p1), (2, p0)] T V = ev 4 12 [(2, q0)] [] (zqw T p0 0 p1) V := by
  exact ev_pr (show zcode 4 9 = some (59, 12, 9, 0, []) by decide +kernel) h1
theorem o4_17 {T : zT} {V : zM} {q0 : Int} {p0 : Int} {p1 : Int} (h1 : zO T p0 9) : ev 4 17 [(2, q0)] [(2, p1), (2, p0)] T V = ev 4 20 [(2, q0)] [] (zqw T p0 1 p1) V := by
  exact ev_pr (show zcode 4 17 = some (59, 20, 9, 1, []) by decide +kernel) h1
theorem o4_25 {T : zT} {V : zM} {q0 : Int} {p0 : Int} {p1 : Int} (h1 : zO T p0 9) : ev 4 25 [(2, q0)] [(2, p1), (2, p0)] T V = ev 4 28 [(2, q0)] [] (zqw T p0 2 p1) V := by
  exact ev_pr (show zcode 4 25 = some (59, 28, 9, 2, []) by decide +kernel) h1
theorem o4_33 {T : zT} {V : zM} {q0 : Int} {p0 : Int} {p1 : Int} (h1 : zO T p0 9) : ev 4 33 [(2, q0)] [(2, p1), (2, p0)] T V = ev 4 36 [(2, q0)] [] (zqw T p0 3 p1) V := by
  exact ev_pr (show zcode 4 33 = some (59, 36, 9, 3, []) by decide +kernel) h1
theorem o4_41 {T : zT} {V : zM} {q0 : Int} {p0 : Int} {p1 : Int} (h1 : zO T p0 9) : ev 4 41 [(2, q0)] [(2, p1), (2, p0)] T V = ev 4 44 [(2, q0)] [] (zqw T p0 4 p1) V := by
  exact ev_pr (show zcode 4 41 = some (59, 44, 9, 4, []) by decide +kernel) h1
theorem o4_49 {T : zT} {V : zM} {q0 : Int} {p0 : Int} {p1 : Int} (h1 : zO T p0 9) : ev 4 49 [(2, q0)] [(2, p1), (2, p0)] T V = ev 4 52 [(2, q0)] [] (zqw T p0 6 p1) V := by
  exact ev_pr (show zcode 4 49 = some (59, 52, 9, 6, []) by decide +kernel) h1
theorem o4_56 {T : zT} {V : zM} {q0 : Int} {p0 : Int} {p1 : Int} (h1 : zO T p0 9) : ev 4 56 [(2, q0)] [(2, p1), (2, p0)] T V = ev 4 59 [(2, q0)] [] (zqw T p0 8 p1) V := by
  exact ev_pr (show zcode 4 56 = some (59, 59, 9, 8, []) by decide +kernel) h1
theorem o5_9 {T : zT} {V : zM} {q0 : Int} {p0 : Int} {p1 : Int} (h1 : zO T p0 10) : ev 5 9 [(2, q0)] [(2, p1), (2, p0)] T V = ev 5 12 [(2, q0)] [] (zqw T p0 0 p1) V := by
  exact ev_pr (show zcode 5 9 = some (59, 12, 10, 0, []) by decide +kernel) h1
theorem o5_17 {T : zT} {V : zM} {q0 : Int} {p0 : Int} {p1 : Int} (h1 : zO T p0 10) : ev 5 17 [(2, q0)] [(2, p1), (2, p0)] T V = ev 5 20 [(2, q0)] [] (zqw T p0 1 p1) V := by
  exact ev_pr (show zcode 5 17 = some (59, 20, 10, 1, []) by decide +kernel) h1
theorem o5_25 {T : zT} {V : zM} {q0 : Int} {p0 : Int} {p1 : Int} (h1 : zO T p0 10) : ev 5 25 [(2, q0)] [(2, p1), (2, p0)] T V = ev 5 28 [(2, q0)] [] (zqw T p0 2 p1) V := by
  exact ev_pr (show zcode 5 25 = some (59, 28, 10, 2, []) by decide +kernel) h1
theorem o5_33 {T : zT} {V : zM} {q0 : Int} {p0 : Int} {p1 : Int} (h1 : zO T p0 10) : ev 5 33 [(2, q0)] [(2, p1), (2, p0)] T V = ev 5 36 [(2, q0)] [] (zqw T p0 3 p1) V := by
  exact ev_pr (show zcode 5 33 = some (59, 36, 10, 3, []) by decide +kernel) h1
theorem o5_41 {T : zT} {V : zM} {q0 : Int} {p0 : Int} {p1 : Int} (h1 : zO T p0 10) : ev 5 41 [(2, q0)] [(2, p1), (2, p0)] T V = ev 5 44 [(2, q0)] [] (zqw T p0 4 p1) V := by
  exact ev_pr (show zcode 5 41 = some (59, 44, 10, 4, []) by decide +kernel) h1
theorem o108_0 {T : zT} {V : zM} {q0 : Int} {x1 : Int} (h1 : zO T q0 1) : ev 108 0 [(2, q0), (0, x1)] [] T V = (zcall 109 [(2, (zp T q0 1)), (0, x1)] T V).bind fun x => ev 108 9 [(2, q0), (0, x1)] (z_push x.1 [(2, q0)]) x.2.1 x.2.2 := by
  refine Eq.trans (ev_lda (show zcode 108 0 = some (6, 1, 0, 0, []) by decide +kernel) rfl (by decide)) ?_
  refine Eq.trans (ev_lda (show zcode 108 1 = some (6, 2, 0, 0, []) by decide +kernel) rfl (by decide)) ?_
  refine Eq.trans (ev_gr (show zcode 108 2 = some (56, 5, 1, 1, []) by decide +kernel) h1) ?_
  refine Eq.trans (ev_ldi (show zcode 108 5 = some (4, 6, 1, 0, []) by decide +kernel) rfl) ?_
  exact ev_cstat (show zcode 108 6 = some (74, 9, 109, 2, []) by decide +kernel) (args := [(2, (zp T q0 1)), (0, x1)]) (rest := [(2, q0)]) rfl rfl (show 1 ≤ 8 by decide) ⟨by decide, show 2 ≤ 3 by decide⟩
theorem o108_9 {T : zT} {V : zM} {q0 : Int} {x1 : Int} {p0 : Int} {p1 : Int} (h1 : zO T p0 1) : ev 108 9 [(2, q0), (0, x1)] [(2, p1), (2, p0)] T V = ev 108 12 [(2, q0), (0, x1)] [] (zqw T p0 1 p1) V := by
  exact ev_pr (show zcode 108 9 = some (59, 12, 1, 1, []) by decide +kernel) h1
theorem o108_12 {T : zT} {V : zM} {q0 : Int} {x1 : Int} (h1 : zO T q0 1) : ev 108 12 [(2, q0), (0, x1)] [] T V = (zcall 109 [(2, (zp T q0 2)), (0, x1)] T V).bind fun x => ev 108 21 [(2, q0), (0, x1)] (z_push x.1 [(2, q0)]) x.2.1 x.2.2 := by
  refine Eq.trans (ev_lda (show zcode 108 12 = some (6, 13, 0, 0, []) by decide +kernel) rfl (by decide)) ?_
  refine Eq.trans (ev_lda (show zcode 108 13 = some (6, 14, 0, 0, []) by decide +kernel) rfl (by decide)) ?_
  refine Eq.trans (ev_gr (show zcode 108 14 = some (56, 17, 1, 2, []) by decide +kernel) h1) ?_
  refine Eq.trans (ev_ldi (show zcode 108 17 = some (4, 18, 1, 0, []) by decide +kernel) rfl) ?_
  exact ev_cstat (show zcode 108 18 = some (74, 21, 109, 2, []) by decide +kernel) (args := [(2, (zp T q0 2)), (0, x1)]) (rest := [(2, q0)]) rfl rfl (show 1 ≤ 8 by decide) ⟨by decide, show 2 ≤ 3 by decide⟩
theorem o108_21 {T : zT} {V : zM} {q0 : Int} {x1 : Int} {p0 : Int} {p1 : Int} (h1 : zO T p0 1) : ev 108 21 [(2, q0), (0, x1)] [(2, p1), (2, p0)] T V = ev 108 24 [(2, q0), (0, x1)] [] (zqw T p0 2 p1) V := by
  exact ev_pr (show zcode 108 21 = some (59, 24, 1, 2, []) by decide +kernel) h1
theorem o108_24 {T : zT} {V : zM} {q0 : Int} {x1 : Int} (h1 : zO T q0 1) : ev 108 24 [(2, q0), (0, x1)] [] T V = (zcall 110 [(2, (zp T q0 3)), (0, x1)] T V).bind fun x => ev 108 33 [(2, q0), (0, x1)] (z_push x.1 [(2, q0)]) x.2.1 x.2.2 := by
  refine Eq.trans (ev_lda (show zcode 108 24 = some (6, 25, 0, 0, []) by decide +kernel) rfl (by decide)) ?_
  refine Eq.trans (ev_lda (show zcode 108 25 = some (6, 26, 0, 0, []) by decide +kernel) rfl (by decide)) ?_
  refine Eq.trans (ev_gr (show zcode 108 26 = some (56, 29, 1, 3, []) by decide +kernel) h1) ?_
  refine Eq.trans (ev_ldi (show zcode 108 29 = some (4, 30, 1, 0, []) by decide +kernel) rfl) ?_
  exact ev_cstat (show zcode 108 30 = some (74, 33, 110, 2, []) by decide +kernel) (args := [(2, (zp T q0 3)), (0, x1)]) (rest := [(2, q0)]) rfl rfl (show 1 ≤ 8 by decide) ⟨by decide, show 2 ≤ 3 by decide⟩
theorem o108_33 {T : zT} {V : zM} {q0 : Int} {x1 : Int} {p0 : Int} {p1 : Int} (h1 : zO T p0 1) : ev 108 33 [(2, q0), (0, x1)] [(2, p1), (2, p0)] T V = ev 108 36 [(2, q0), (0, x1)] [] (zqw T p0 3 p1) V := by
  exact ev_pr (show zcode 108 33 = some (59, 36, 1, 3, []) by decide +kernel) h1
theorem o108_36 {T : zT} {V : zM} {q0 : Int} {x1 : Int} (h1 : zO T q0 1) : ev 108 36 [(2, q0), (0, x1)] [] T V = (zcall 109 [(2, (zp T q0 4)), (0, x1)] T V).bind fun x => ev 108 45 [(2, q0), (0, x1)] (z_push x.1 [(2, q0)]) x.2.1 x.2.2 := by
  refine Eq.trans (ev_lda (show zcode 108 36 = some (6, 37, 0, 0, []) by decide +kernel) rfl (by decide)) ?_
  refine Eq.trans (ev_lda (show zcode 108 37 = some (6, 38, 0, 0, []) by decide +kernel) rfl (by decide)) ?_
  refine Eq.trans (ev_gr (show zcode 108 38 = some (56, 41, 1, 4, []) by decide +kernel) h1) ?_
  refine Eq.trans (ev_ldi (show zcode 108 41 = some (4, 42, 1, 0, []) by decide +kernel) rfl) ?_
  exact ev_cstat (show zcode 108 42 = some (74, 45, 109, 2, []) by decide +kernel) (args := [(2, (zp T q0 4)), (0, x1)]) (rest := [(2, q0)]) rfl rfl (show 1 ≤ 8 by decide) ⟨by decide, show 2 ≤ 3 by decide⟩
theorem o108_45 {T : zT} {V : zM} {q0 : Int} {x1 : Int} {p0 : Int} {p1 : Int} (h1 : zO T p0 1) : ev 108 45 [(2, q0), (0, x1)] [(2, p1), (2, p0)] T V = ev 108 48 [(2, q0), (0, x1)] [] (zqw T p0 4 p1) V := by
  exact ev_pr (show zcode 108 45 = some (59, 48, 1, 4, []) by decide +kernel) h1
theorem o108_48 {T : zT} {V : zM} {q0 : Int} {x1 : Int} (h1 : zO T q0 1) : ev 108 48 [(2, q0), (0, x1)] [] T V = (zcall 110 [(2, (zp T q0 5)), (0, x1)] T V).bind fun x => ev 108 57 [(2, q0), (0, x1)] (z_push x.1 [(2, q0)]) x.2.1 x.2.2 := by
  refine Eq.trans (ev_lda (show zcode 108 48 = some (6, 49, 0, 0, []) by decide +kernel) rfl (by decide)) ?_
  refine Eq.trans (ev_lda (show zcode 108 49 = some (6, 50, 0, 0, []) by decide +kernel) rfl (by decide)) ?_
  refine Eq.trans (ev_gr (show zcode 108 50 = some (56, 53, 1, 5, []) by decide +kernel) h1) ?_
  refine Eq.trans (ev_ldi (show zcode 108 53 = some (4, 54, 1, 0, []) by decide +kernel) rfl) ?_
  exact ev_cstat (show zcode 108 54 = some (74, 57, 110, 2, []) by decide +kernel) (args := [(2, (zp T q0 5)), (0, x1)]) (rest := [(2, q0)]) rfl rfl (show 1 ≤ 8 by decide) ⟨by decide, show 2 ≤ 3 by decide⟩
theorem o108_57 {T : zT} {V : zM} {q0 : Int} {x1 : Int} {p0 : Int} {p1 : Int} (h1 : zO T p0 1) : ev 108 57 [(2, q0), (0, x1)] [(2, p1), (2, p0)] T V = ev 108 60 [(2, q0), (0, x1)] [] (zqw T p0 5 p1) V := by
  exact ev_pr (show zcode 108 57 = some (59, 60, 1, 5, []) by decide +kernel) h1
theorem o108_60 {T : zT} {V : zM} {q0 : Int} {x1 : Int} (h1 : zO T q0 1) : ev 108 60 [(2, q0), (0, x1)] [] T V = (zcall 110 [(2, (zp T q0 6)), (0, x1)] T V).bind fun x => ev 108 69 [(2, q0), (0, x1)] (z_push x.1 [(2, q0)]) x.2.1 x.2.2 := by
  refine Eq.trans (ev_lda (show zcode 108 60 = some (6, 61, 0, 0, []) by decide +kernel) rfl (by decide)) ?_
  refine Eq.trans (ev_lda (show zcode 108 61 = some (6, 62, 0, 0, []) by decide +kernel) rfl (by decide)) ?_
  refine Eq.trans (ev_gr (show zcode 108 62 = some (56, 65, 1, 6, []) by decide +kernel) h1) ?_
  refine Eq.trans (ev_ldi (show zcode 108 65 = some (4, 66, 1, 0, []) by decide +kernel) rfl) ?_
  exact ev_cstat (show zcode 108 66 = some (74, 69, 110, 2, []) by decide +kernel) (args := [(2, (zp T q0 6)), (0, x1)]) (rest := [(2, q0)]) rfl rfl (show 1 ≤ 8 by decide) ⟨by decide, show 2 ≤ 3 by decide⟩
theorem o108_69 {T : zT} {V : zM} {q0 : Int} {x1 : Int} {p0 : Int} {p1 : Int} (h1 : zO T p0 1) : ev 108 69 [(2, q0), (0, x1)] [(2, p1), (2, p0)] T V = ev 108 72 [(2, q0), (0, x1)] [] (zqw T p0 6 p1) V := by
  exact ev_pr (show zcode 108 69 = some (59, 72, 1, 6, []) by decide +kernel) h1
theorem o108_72 {T : zT} {V : zM} {q0 : Int} {x1 : Int} (h1 : zO T q0 1) : ev 108 72 [(2, q0), (0, x1)] [] T V = (zcall 109 [(2, (zp T q0 7)), (0, x1)] T V).bind fun x => ev 108 81 [(2, q0), (0, x1)] (z_push x.1 [(2, q0)]) x.2.1 x.2.2 := by
  refine Eq.trans (ev_lda (show zcode 108 72 = some (6, 73, 0, 0, []) by decide +kernel) rfl (by decide)) ?_
  refine Eq.trans (ev_lda (show zcode 108 73 = some (6, 74, 0, 0, []) by decide +kernel) rfl (by decide)) ?_
  refine Eq.trans (ev_gr (show zcode 108 74 = some (56, 77, 1, 7, []) by decide +kernel) h1) ?_
  refine Eq.trans (ev_ldi (show zcode 108 77 = some (4, 78, 1, 0, []) by decide +kernel) rfl) ?_
  exact ev_cstat (show zcode 108 78 = some (74, 81, 109, 2, []) by decide +kernel) (args := [(2, (zp T q0 7)), (0, x1)]) (rest := [(2, q0)]) rfl rfl (show 1 ≤ 8 by decide) ⟨by decide, show 2 ≤ 3 by decide⟩
theorem o108_81 {T : zT} {V : zM} {q0 : Int} {x1 : Int} {p0 : Int} {p1 : Int} (h1 : zO T p0 1) : ev 108 81 [(2, q0), (0, x1)] [(2, p1), (2, p0)] T V = ev 108 84 [(2, q0), (0, x1)] [] (zqw T p0 7 p1) V := by
  exact ev_pr (show zcode 108 81 = some (59, 84, 1, 7, []) by decide +kernel) h1
