/-! printed by blocks.py: the blocks of methods [11, 12, 13, 102, 103, 104, 105, 106, 107, 108, 111, 112, 113, 114, 115, 116, 117, 118, 121, 126] -/
/-! 11: TwoWayWall$Crossing.<init>()V -/
theorem e11 {T : zT} {V : zM} {q0 : Int} : zcall 11 [(2, q0)] T V = ev 11 0 [(2, q0)] [] T V := rfl
theorem b11_0 {T : zT} {V : zM} {q0 : Int} (h1 : (0 : Int) ≤ q0) : ev 11 0 [(2, q0)] [] T V = ev 11 8 [(2, q0)] [(2, (zsz T)), (2, q0)] (zn T 15 9) (zs V (zsz T) (fun _ => 0)) := by
  refine Eq.trans (ev_lda (show zcode 11 0 = some (6, 1, 0, 0, []) by decide +kernel) rfl (by decide)) ?_
  refine Eq.trans (ev_obj (show zcode 11 1 = some (78, 4, 0, 0, []) by decide +kernel) ⟨h1, show 0 ≤ 8 by decide⟩) ?_
  refine Eq.trans (ev_lda (show zcode 11 4 = some (6, 5, 0, 0, []) by decide +kernel) rfl (by decide)) ?_
  exact ev_new (show zcode 11 5 = some (69, 8, 5, 0, []) by decide +kernel) (by decide)
theorem b11_8 {T : zT} {V : zM} {q0 : Int} {p0 : Int} {p1 : Int} (h1 : (0 : Int) ≤ p1) : ev 11 8 [(2, q0)] [(2, p1), (2, p0)] T V = (zcall 12 [(2, p1)] T V).bind fun x => ev 11 12 [(2, q0)] (z_push x.1 [(2, p1), (2, p0)]) x.2.1 x.2.2 := by
  refine Eq.trans (ev_dup (show zcode 11 8 = some (36, 9, 0, 0, []) by decide +kernel) (by decide)) ?_
  exact ev_cspec (show zcode 11 9 = some (75, 12, 12, 1, []) by decide +kernel) (args := []) (rest := [(2, p1), (2, p0)]) rfl h1 rfl (show 2 ≤ 8 by decide) ⟨by decide, show 1 ≤ 1 by decide⟩
theorem b11_12 {T : zT} {V : zM} {q0 : Int} {p0 : Int} {p1 : Int} (h1 : zO T p0 0) : ev 11 12 [(2, q0)] [(2, p1), (2, p0)] T V = ev 11 15 [(2, q0)] [] (zqw T p0 0 p1) V := by
  exact ev_pr (show zcode 11 12 = some (59, 15, 0, 0, []) by decide +kernel) h1
theorem b11_15 {T : zT} {V : zM} {q0 : Int} : ev 11 15 [(2, q0)] [] T V = ev 11 19 [(2, q0)] [(2, (zsz T)), (2, q0)] (zn T 15 9) (zs V (zsz T) (fun _ => 0)) := by
  refine Eq.trans (ev_lda (show zcode 11 15 = some (6, 16, 0, 0, []) by decide +kernel) rfl (by decide)) ?_
  exact ev_new (show zcode 11 16 = some (69, 19, 5, 0, []) by decide +kernel) (by decide)
theorem b11_19 {T : zT} {V : zM} {q0 : Int} {p0 : Int} {p1 : Int} (h1 : (0 : Int) ≤ p1) : ev 11 19 [(2, q0)] [(2, p1), (2, p0)] T V = (zcall 12 [(2, p1)] T V).bind fun x => ev 11 23 [(2, q0)] (z_push x.1 [(2, p1), (2, p0)]) x.2.1 x.2.2 := by
  refine Eq.trans (ev_dup (show zcode 11 19 = some (36, 20, 0, 0, []) by decide +kernel) (by decide)) ?_
  exact ev_cspec (show zcode 11 20 = some (75, 23, 12, 1, []) by decide +kernel) (args := []) (rest := [(2, p1), (2, p0)]) rfl h1 rfl (show 2 ≤ 8 by decide) ⟨by decide, show 1 ≤ 1 by decide⟩
theorem b11_23 {T : zT} {V : zM} {q0 : Int} {p0 : Int} {p1 : Int} (h1 : zO T p0 0) : ev 11 23 [(2, q0)] [(2, p1), (2, p0)] T V = ev 11 26 [(2, q0)] [] (zqw T p0 1 p1) V := by
  exact ev_pr (show zcode 11 23 = some (59, 26, 0, 1, []) by decide +kernel) h1
theorem b11_26 {T : zT} {V : zM} {q0 : Int} : ev 11 26 [(2, q0)] [] T V = ev 11 30 [(2, q0)] [(2, (zsz T)), (2, q0)] (zn T 11 8) (zs V (zsz T) (fun _ => 0)) := by
  refine Eq.trans (ev_lda (show zcode 11 26 = some (6, 27, 0, 0, []) by decide +kernel) rfl (by decide)) ?_
  exact ev_new (show zcode 11 27 = some (69, 30, 1, 0, []) by decide +kernel) (by decide)
theorem b11_30 {T : zT} {V : zM} {q0 : Int} {p0 : Int} {p1 : Int} (h1 : (0 : Int) ≤ p1) : ev 11 30 [(2, q0)] [(2, p1), (2, p0)] T V = (zcall 13 [(2, p1), (0, 16)] T V).bind fun x => ev 11 36 [(2, q0)] (z_push x.1 [(2, p1), (2, p0)]) x.2.1 x.2.2 := by
  refine Eq.trans (ev_dup (show zcode 11 30 = some (36, 31, 0, 0, []) by decide +kernel) (by decide)) ?_
  refine Eq.trans (ev_ci (show zcode 11 31 = some (0, 33, 0, 16, []) by decide +kernel) (by decide)) ?_
  exact ev_cspec (show zcode 11 33 = some (75, 36, 13, 2, []) by decide +kernel) (args := [(0, 16)]) (rest := [(2, p1), (2, p0)]) rfl h1 rfl (show 2 ≤ 8 by decide) ⟨by decide, show 2 ≤ 3 by decide⟩
theorem b11_36 {T : zT} {V : zM} {q0 : Int} {p0 : Int} {p1 : Int} (h1 : zO T p0 0) : ev 11 36 [(2, q0)] [(2, p1), (2, p0)] T V = ev 11 39 [(2, q0)] [] (zqw T p0 2 p1) V := by
  exact ev_pr (show zcode 11 36 = some (59, 39, 0, 2, []) by decide +kernel) h1
theorem b11_39 {T : zT} {V : zM} {q0 : Int} : ev 11 39 [(2, q0)] [] T V = ev 11 43 [(2, q0)] [(2, (zsz T)), (2, q0)] (zn T 11 8) (zs V (zsz T) (fun _ => 0)) := by
  refine Eq.trans (ev_lda (show zcode 11 39 = some (6, 40, 0, 0, []) by decide +kernel) rfl (by decide)) ?_
  exact ev_new (show zcode 11 40 = some (69, 43, 1, 0, []) by decide +kernel) (by decide)
theorem b11_43 {T : zT} {V : zM} {q0 : Int} {p0 : Int} {p1 : Int} (h1 : (0 : Int) ≤ p1) : ev 11 43 [(2, q0)] [(2, p1), (2, p0)] T V = (zcall 13 [(2, p1), (0, 16)] T V).bind fun x => ev 11 49 [(2, q0)] (z_push x.1 [(2, p1), (2, p0)]) x.2.1 x.2.2 := by
  refine Eq.trans (ev_dup (show zcode 11 43 = some (36, 44, 0, 0, []) by decide +kernel) (by decide)) ?_
  refine Eq.trans (ev_ci (show zcode 11 44 = some (0, 46, 0, 16, []) by decide +kernel) (by decide)) ?_
  exact ev_cspec (show zcode 11 46 = some (75, 49, 13, 2, []) by decide +kernel) (args := [(0, 16)]) (rest := [(2, p1), (2, p0)]) rfl h1 rfl (show 2 ≤ 8 by decide) ⟨by decide, show 2 ≤ 3 by decide⟩
theorem b11_49 {T : zT} {V : zM} {q0 : Int} {p0 : Int} {p1 : Int} (h1 : zO T p0 0) : ev 11 49 [(2, q0)] [(2, p1), (2, p0)] T V = ev 11 52 [(2, q0)] [] (zqw T p0 3 p1) V := by
  exact ev_pr (show zcode 11 49 = some (59, 52, 0, 3, []) by decide +kernel) h1
theorem b11_52 {T : zT} {V : zM} {q0 : Int} : ev 11 52 [(2, q0)] [] T V = ev 11 56 [(2, q0)] [(2, (zsz T)), (2, q0)] (zn T 0 0) (zs V (zsz T) (fun _ => 0)) := by
  refine Eq.trans (ev_lda (show zcode 11 52 = some (6, 53, 0, 0, []) by decide +kernel) rfl (by decide)) ?_
  refine Eq.trans (ev_ci (show zcode 11 53 = some (0, 54, 0, 0, []) by decide +kernel) (by decide)) ?_
  exact ev_narr (show zcode 11 54 = some (70, 56, 0, 0, []) by decide +kernel) (by decide)
theorem b11_56 {T : zT} {V : zM} {q0 : Int} {p0 : Int} {p1 : Int} (h1 : zO T p0 0) : ev 11 56 [(2, q0)] [(2, p1), (2, p0)] T V = ev 11 59 [(2, q0)] [] (zqw T p0 4 p1) V := by
  exact ev_pr (show zcode 11 56 = some (59, 59, 0, 4, []) by decide +kernel) h1
theorem b11_59 {T : zT} {V : zM} {q0 : Int} : ev 11 59 [(2, q0)] [] T V = some ((9, 0), T, V) := by
  exact ev_rn (show zcode 11 59 = some (73, 60, 0, 0, []) by decide +kernel)
/-! 12: TwoWayWall$Rows.<init>()V -/
theorem e12 {T : zT} {V : zM} {q0 : Int} : zcall 12 [(2, q0)] T V = ev 12 0 [(2, q0)] [] T V := rfl
theorem b12_0 {T : zT} {V : zM} {q0 : Int} (h1 : (0 : Int) ≤ q0) : ev 12 0 [(2, q0)] [] T V = ev 12 10 [(2, q0)] [(2, (zsz T)), (2, q0)] (zn T 0 196) (zs V (zsz T) (fun _ => 0)) := by
  refine Eq.trans (ev_lda (show zcode 12 0 = some (6, 1, 0, 0, []) by decide +kernel) rfl (by decide)) ?_
  refine Eq.trans (ev_obj (show zcode 12 1 = some (78, 4, 0, 0, []) by decide +kernel) ⟨h1, show 0 ≤ 8 by decide⟩) ?_
  refine Eq.trans (ev_lda (show zcode 12 4 = some (6, 5, 0, 0, []) by decide +kernel) rfl (by decide)) ?_
  refine Eq.trans (ev_ci (show zcode 12 5 = some (0, 8, 0, 196, []) by decide +kernel) (by decide)) ?_
  exact ev_narr (show zcode 12 8 = some (70, 10, 0, 0, []) by decide +kernel) (by decide)
theorem b12_10 {T : zT} {V : zM} {q0 : Int} {p0 : Int} {p1 : Int} (h1 : zRows T p0) : ev 12 10 [(2, q0)] [(2, p1), (2, p0)] T V = ev 12 13 [(2, q0)] [] (zqw T p0 0 p1) V := by
  exact ev_pr (show zcode 12 10 = some (59, 13, 5, 0, []) by decide +kernel) h1.o
theorem b12_13 {T : zT} {V : zM} {q0 : Int} : ev 12 13 [(2, q0)] [] T V = ev 12 19 [(2, q0)] [(2, (zsz T)), (2, q0)] (zn T 0 196) (zs V (zsz T) (fun _ => 0)) := by
  refine Eq.trans (ev_lda (show zcode 12 13 = some (6, 14, 0, 0, []) by decide +kernel) rfl (by decide)) ?_
  refine Eq.trans (ev_ci (show zcode 12 14 = some (0, 17, 0, 196, []) by decide +kernel) (by decide)) ?_
  exact ev_narr (show zcode 12 17 = some (70, 19, 0, 0, []) by decide +kernel) (by decide)
theorem b12_19 {T : zT} {V : zM} {q0 : Int} {p0 : Int} {p1 : Int} (h1 : zRows T p0) : ev 12 19 [(2, q0)] [(2, p1), (2, p0)] T V = ev 12 22 [(2, q0)] [] (zqw T p0 1 p1) V := by
  exact ev_pr (show zcode 12 19 = some (59, 22, 5, 1, []) by decide +kernel) h1.o
theorem b12_22 {T : zT} {V : zM} {q0 : Int} : ev 12 22 [(2, q0)] [] T V = ev 12 28 [(2, q0)] [(2, (zsz T)), (2, q0)] (zn T 0 196) (zs V (zsz T) (fun _ => 0)) := by
  refine Eq.trans (ev_lda (show zcode 12 22 = some (6, 23, 0, 0, []) by decide +kernel) rfl (by decide)) ?_
  refine Eq.trans (ev_ci (show zcode 12 23 = some (0, 26, 0, 196, []) by decide +kernel) (by decide)) ?_
  exact ev_narr (show zcode 12 26 = some (70, 28, 0, 0, []) by decide +kernel) (by decide)
theorem b12_28 {T : zT} {V : zM} {q0 : Int} {p0 : Int} {p1 : Int} (h1 : zRows T p0) : ev 12 28 [(2, q0)] [(2, p1), (2, p0)] T V = ev 12 31 [(2, q0)] [] (zqw T p0 2 p1) V := by
  exact ev_pr (show zcode 12 28 = some (59, 31, 5, 2, []) by decide +kernel) h1.o
theorem b12_31 {T : zT} {V : zM} {q0 : Int} : ev 12 31 [(2, q0)] [] T V = ev 12 37 [(2, q0)] [(2, (zsz T)), (2, q0)] (zn T 0 196) (zs V (zsz T) (fun _ => 0)) := by
  refine Eq.trans (ev_lda (show zcode 12 31 = some (6, 32, 0, 0, []) by decide +kernel) rfl (by decide)) ?_
  refine Eq.trans (ev_ci (show zcode 12 32 = some (0, 35, 0, 196, []) by decide +kernel) (by decide)) ?_
  exact ev_narr (show zcode 12 35 = some (70, 37, 0, 0, []) by decide +kernel) (by decide)
theorem b12_37 {T : zT} {V : zM} {q0 : Int} {p0 : Int} {p1 : Int} (h1 : zRows T p0) : ev 12 37 [(2, q0)] [(2, p1), (2, p0)] T V = ev 12 40 [(2, q0)] [] (zqw T p0 3 p1) V := by
  exact ev_pr (show zcode 12 37 = some (59, 40, 5, 3, []) by decide +kernel) h1.o
theorem b12_40 {T : zT} {V : zM} {q0 : Int} : ev 12 40 [(2, q0)] [] T V = ev 12 46 [(2, q0)] [(2, (zsz T)), (2, q0)] (zn T 3 196) (zs V (zsz T) (fun _ => 0)) := by
  refine Eq.trans (ev_lda (show zcode 12 40 = some (6, 41, 0, 0, []) by decide +kernel) rfl (by decide)) ?_
  refine Eq.trans (ev_ci (show zcode 12 41 = some (0, 44, 0, 196, []) by decide +kernel) (by decide)) ?_
  exact ev_narr (show zcode 12 44 = some (70, 46, 3, 0, []) by decide +kernel) (by decide)
theorem b12_46 {T : zT} {V : zM} {q0 : Int} {p0 : Int} {p1 : Int} (h1 : zRows T p0) : ev 12 46 [(2, q0)] [(2, p1), (2, p0)] T V = ev 12 49 [(2, q0)] [] (zqw T p0 4 p1) V := by
  exact ev_pr (show zcode 12 46 = some (59, 49, 5, 4, []) by decide +kernel) h1.o
theorem b12_49 {T : zT} {V : zM} {q0 : Int} : ev 12 49 [(2, q0)] [] T V = ev 12 54 [(2, q0)] [(2, (zsz T)), (2, q0)] (zn T 0 9) (zs V (zsz T) (fun _ => 0)) := by
  refine Eq.trans (ev_lda (show zcode 12 49 = some (6, 50, 0, 0, []) by decide +kernel) rfl (by decide)) ?_
  refine Eq.trans (ev_ci (show zcode 12 50 = some (0, 52, 0, 9, []) by decide +kernel) (by decide)) ?_
  exact ev_narr (show zcode 12 52 = some (70, 54, 0, 0, []) by decide +kernel) (by decide)
theorem b12_54 {T : zT} {V : zM} {q0 : Int} {p0 : Int} {p1 : Int} (h1 : zRows T p0) : ev 12 54 [(2, q0)] [(2, p1), (2, p0)] T V = ev 12 57 [(2, q0)] [] (zqw T p0 6 p1) V := by
  exact ev_pr (show zcode 12 54 = some (59, 57, 5, 6, []) by decide +kernel) h1.o
theorem b12_57 {T : zT} {V : zM} {q0 : Int} : ev 12 57 [(2, q0)] [] T V = ev 12 62 [(2, q0)] [(2, (zsz T)), (2, q0)] (zn T 0 9) (zs V (zsz T) (fun _ => 0)) := by
  refine Eq.trans (ev_lda (show zcode 12 57 = some (6, 58, 0, 0, []) by decide +kernel) rfl (by decide)) ?_
  refine Eq.trans (ev_ci (show zcode 12 58 = some (0, 60, 0, 9, []) by decide +kernel) (by decide)) ?_
  exact ev_narr (show zcode 12 60 = some (70, 62, 0, 0, []) by decide +kernel) (by decide)
theorem b12_62 {T : zT} {V : zM} {q0 : Int} {p0 : Int} {p1 : Int} (h1 : zRows T p0) : ev 12 62 [(2, q0)] [(2, p1), (2, p0)] T V = ev 12 65 [(2, q0)] [] (zqw T p0 7 p1) V := by
  exact ev_pr (show zcode 12 62 = some (59, 65, 5, 7, []) by decide +kernel) h1.o
theorem b12_65 {T : zT} {V : zM} {q0 : Int} : ev 12 65 [(2, q0)] [] T V = some ((9, 0), T, V) := by
  exact ev_rn (show zcode 12 65 = some (73, 66, 0, 0, []) by decide +kernel)
/-! 13: TwoWayWall$Layer.<init>(I)V -/
theorem e13 {T : zT} {V : zM} {q0 : Int} {x1 : Int} : zcall 13 [(2, q0), (0, x1)] T V = ev 13 0 [(2, q0), (0, x1), (9, 0)] [] T V := rfl
theorem b13_0 {T : zT} {V : zM} {q0 : Int} {x1 : Int} (h1 : (0 : Int) ≤ q0) (h2 : (0 : Int) ≤ (max 1 x1) ∧ (max 1 x1) ≤ 1000000) : ev 13 0 [(2, q0), (0, x1), (9, 0)] [] T V = ev 13 14 [(2, q0), (0, x1), (0, (max 1 x1))] [(2, (zsz T)), (2, q0)] (zn T 0 (max 1 x1)) (zs V (zsz T) (fun _ => 0)) := by
  refine Eq.trans (ev_lda (show zcode 13 0 = some (6, 1, 0, 0, []) by decide +kernel) rfl (by decide)) ?_
  refine Eq.trans (ev_obj (show zcode 13 1 = some (78, 4, 0, 0, []) by decide +kernel) ⟨h1, show 0 ≤ 8 by decide⟩) ?_
  refine Eq.trans (ev_ci (show zcode 13 4 = some (0, 5, 0, 1, []) by decide +kernel) (by decide)) ?_
  refine Eq.trans (ev_ldi (show zcode 13 5 = some (4, 6, 1, 0, []) by decide +kernel) rfl) ?_
  refine Eq.trans (ev_max (show zcode 13 6 = some (84, 9, 0, 0, []) by decide +kernel) (show 0 ≤ 8 by decide)) ?_
  refine Eq.trans (ev_sti (show zcode 13 9 = some (7, 10, 2, 0, []) by decide +kernel) ⟨show 2 < 3 by decide, Or.inr (show ¬ (0 : Nat) = 1 by decide)⟩) ?_
  refine Eq.trans (ev_lda (show zcode 13 10 = some (6, 11, 0, 0, []) by decide +kernel) rfl (by decide)) ?_
  refine Eq.trans (ev_ldi (show zcode 13 11 = some (4, 12, 2, 0, []) by decide +kernel) rfl) ?_
  exact ev_narr (show zcode 13 12 = some (70, 14, 0, 0, []) by decide +kernel) h2
theorem b13_14 {T : zT} {V : zM} {q0 : Int} {x1 : Int} {x2 : Int} {p0 : Int} {p1 : Int} {n1 : Int} (h1 : zLayer T p0 n1) : ev 13 14 [(2, q0), (0, x1), (0, x2)] [(2, p1), (2, p0)] T V = ev 13 17 [(2, q0), (0, x1), (0, x2)] [] (zqw T p0 1 p1) V := by
  exact ev_pr (show zcode 13 14 = some (59, 17, 1, 1, []) by decide +kernel) h1.o
theorem b13_17 {T : zT} {V : zM} {q0 : Int} {x1 : Int} {x2 : Int} (h1 : (0 : Int) ≤ x2 ∧ x2 ≤ 1000000) : ev 13 17 [(2, q0), (0, x1), (0, x2)] [] T V = ev 13 21 [(2, q0), (0, x1), (0, x2)] [(2, (zsz T)), (2, q0)] (zn T 0 x2) (zs V (zsz T) (fun _ => 0)) := by
  refine Eq.trans (ev_lda (show zcode 13 17 = some (6, 18, 0, 0, []) by decide +kernel) rfl (by decide)) ?_
  refine Eq.trans (ev_ldi (show zcode 13 18 = some (4, 19, 2, 0, []) by decide +kernel) rfl) ?_
  exact ev_narr (show zcode 13 19 = some (70, 21, 0, 0, []) by decide +kernel) h1
theorem b13_21 {T : zT} {V : zM} {q0 : Int} {x1 : Int} {x2 : Int} {p0 : Int} {p1 : Int} {n1 : Int} (h1 : zLayer T p0 n1) : ev 13 21 [(2, q0), (0, x1), (0, x2)] [(2, p1), (2, p0)] T V = ev 13 24 [(2, q0), (0, x1), (0, x2)] [] (zqw T p0 2 p1) V := by
  exact ev_pr (show zcode 13 21 = some (59, 24, 1, 2, []) by decide +kernel) h1.o
theorem b13_24 {T : zT} {V : zM} {q0 : Int} {x1 : Int} {x2 : Int} (h1 : (0 : Int) ≤ x2 ∧ x2 ≤ 1000000) : ev 13 24 [(2, q0), (0, x1), (0, x2)] [] T V = ev 13 28 [(2, q0), (0, x1), (0, x2)] [(2, (zsz T)), (2, q0)] (zn T 1 x2) (zs V (zsz T) (fun _ => 0)) := by
  refine Eq.trans (ev_lda (show zcode 13 24 = some (6, 25, 0, 0, []) by decide +kernel) rfl (by decide)) ?_
  refine Eq.trans (ev_ldi (show zcode 13 25 = some (4, 26, 2, 0, []) by decide +kernel) rfl) ?_
  exact ev_narr (show zcode 13 26 = some (70, 28, 1, 0, []) by decide +kernel) h1
theorem b13_28 {T : zT} {V : zM} {q0 : Int} {x1 : Int} {x2 : Int} {p0 : Int} {p1 : Int} {n1 : Int} (h1 : zLayer T p0 n1) : ev 13 28 [(2, q0), (0, x1), (0, x2)] [(2, p1), (2, p0)] T V = ev 13 31 [(2, q0), (0, x1), (0, x2)] [] (zqw T p0 3 p1) V := by
  exact ev_pr (show zcode 13 28 = some (59, 31, 1, 3, []) by decide +kernel) h1.o
theorem b13_31 {T : zT} {V : zM} {q0 : Int} {x1 : Int} {x2 : Int} (h1 : (0 : Int) ≤ x2 ∧ x2 ≤ 1000000) : ev 13 31 [(2, q0), (0, x1), (0, x2)] [] T V = ev 13 35 [(2, q0), (0, x1), (0, x2)] [(2, (zsz T)), (2, q0)] (zn T 0 x2) (zs V (zsz T) (fun _ => 0)) := by
  refine Eq.trans (ev_lda (show zcode 13 31 = some (6, 32, 0, 0, []) by decide +kernel) rfl (by decide)) ?_
  refine Eq.trans (ev_ldi (show zcode 13 32 = some (4, 33, 2, 0, []) by decide +kernel) rfl) ?_
  exact ev_narr (show zcode 13 33 = some (70, 35, 0, 0, []) by decide +kernel) h1
theorem b13_35 {T : zT} {V : zM} {q0 : Int} {x1 : Int} {x2 : Int} {p0 : Int} {p1 : Int} {n1 : Int} (h1 : zLayer T p0 n1) : ev 13 35 [(2, q0), (0, x1), (0, x2)] [(2, p1), (2, p0)] T V = ev 13 38 [(2, q0), (0, x1), (0, x2)] [] (zqw T p0 4 p1) V := by
  exact ev_pr (show zcode 13 35 = some (59, 38, 1, 4, []) by decide +kernel) h1.o
theorem b13_38 {T : zT} {V : zM} {q0 : Int} {x1 : Int} {x2 : Int} (h1 : (0 : Int) ≤ x2 ∧ x2 ≤ 1000000) : ev 13 38 [(2, q0), (0, x1), (0, x2)] [] T V = ev 13 42 [(2, q0), (0, x1), (0, x2)] [(2, (zsz T)), (2, q0)] (zn T 1 x2) (zs V (zsz T) (fun _ => 0)) := by
  refine Eq.trans (ev_lda (show zcode 13 38 = some (6, 39, 0, 0, []) by decide +kernel) rfl (by decide)) ?_
  refine Eq.trans (ev_ldi (show zcode 13 39 = some (4, 40, 2, 0, []) by decide +kernel) rfl) ?_
  exact ev_narr (show zcode 13 40 = some (70, 42, 1, 0, []) by decide +kernel) h1
theorem b13_42 {T : zT} {V : zM} {q0 : Int} {x1 : Int} {x2 : Int} {p0 : Int} {p1 : Int} {n1 : Int} (h1 : zLayer T p0 n1) : ev 13 42 [(2, q0), (0, x1), (0, x2)] [(2, p1), (2, p0)] T V = ev 13 45 [(2, q0), (0, x1), (0, x2)] [] (zqw T p0 5 p1) V := by
  exact ev_pr (show zcode 13 42 = some (59, 45, 1, 5, []) by decide +kernel) h1.o
theorem b13_45 {T : zT} {V : zM} {q0 : Int} {x1 : Int} {x2 : Int} (h1 : (0 : Int) ≤ x2 ∧ x2 ≤ 1000000) : ev 13 45 [(2, q0), (0, x1), (0, x2)] [] T V = ev 13 49 [(2, q0), (0, x1), (0, x2)] [(2, (zsz T)), (2, q0)] (zn T 1 x2) (zs V (zsz T) (fun _ => 0)) := by
  refine Eq.trans (ev_lda (show zcode 13 45 = some (6, 46, 0, 0, []) by decide +kernel) rfl (by decide)) ?_
  refine Eq.trans (ev_ldi (show zcode 13 46 = some (4, 47, 2, 0, []) by decide +kernel) rfl) ?_
  exact ev_narr (show zcode 13 47 = some (70, 49, 1, 0, []) by decide +kernel) h1
theorem b13_49 {T : zT} {V : zM} {q0 : Int} {x1 : Int} {x2 : Int} {p0 : Int} {p1 : Int} {n1 : Int} (h1 : zLayer T p0 n1) : ev 13 49 [(2, q0), (0, x1), (0, x2)] [(2, p1), (2, p0)] T V = ev 13 52 [(2, q0), (0, x1), (0, x2)] [] (zqw T p0 6 p1) V := by
  exact ev_pr (show zcode 13 49 = some (59, 52, 1, 6, []) by decide +kernel) h1.o
theorem b13_52 {T : zT} {V : zM} {q0 : Int} {x1 : Int} {x2 : Int} (h1 : (0 : Int) ≤ x2 ∧ x2 ≤ 1000000) : ev 13 52 [(2, q0), (0, x1), (0, x2)] [] T V = ev 13 56 [(2, q0), (0, x1), (0, x2)] [(2, (zsz T)), (2, q0)] (zn T 0 x2) (zs V (zsz T) (fun _ => 0)) := by
  refine Eq.trans (ev_lda (show zcode 13 52 = some (6, 53, 0, 0, []) by decide +kernel) rfl (by decide)) ?_
  refine Eq.trans (ev_ldi (show zcode 13 53 = some (4, 54, 2, 0, []) by decide +kernel) rfl) ?_
  exact ev_narr (show zcode 13 54 = some (70, 56, 0, 0, []) by decide +kernel) h1
theorem b13_56 {T : zT} {V : zM} {q0 : Int} {x1 : Int} {x2 : Int} {p0 : Int} {p1 : Int} {n1 : Int} (h1 : zLayer T p0 n1) : ev 13 56 [(2, q0), (0, x1), (0, x2)] [(2, p1), (2, p0)] T V = ev 13 59 [(2, q0), (0, x1), (0, x2)] [] (zqw T p0 7 p1) V := by
  exact ev_pr (show zcode 13 56 = some (59, 59, 1, 7, []) by decide +kernel) h1.o
theorem b13_59 {T : zT} {V : zM} {q0 : Int} {x1 : Int} {x2 : Int} : ev 13 59 [(2, q0), (0, x1), (0, x2)] [] T V = some ((9, 0), T, V) := by
  exact ev_rn (show zcode 13 59 = some (73, 60, 0, 0, []) by decide +kernel)
/-! 102: TwoWayWall$Rows.makeStory(LTwoWayWall$Tongue;Z)V -/
theorem e102 {T : zT} {V : zM} {q0 : Int} {q1 : Int} {x2 : Int} : zcall 102 [(2, q0), (2, q1), (0, x2)] T V = ev 102 0 [(2, q0), (2, q1), (0, x2), (9, 0), (9, 0), (9, 0), (9, 0), (9, 0), (9, 0)] [] T V := rfl
theorem b102_0 {T : zT} {V : zM} {q0 : Int} {q1 : Int} {x2 : Int} (h1 : zTongue T q1) (h2 : zRows T q0) : ev 102 0 [(2, q0), (2, q1), (0, x2), (9, 0), (9, 0), (9, 0), (9, 0), (9, 0), (9, 0)] [] T V = (zcall 103 [(2, q0), (0, 26)] T (zwr V q0 5 0)).bind fun x => ev 102 16 [(2, q0), (2, q1), (0, x2), (0, (V q1 9)), (9, 0), (9, 0), (9, 0), (9, 0), (9, 0)] (z_push x.1 []) x.2.1 x.2.2 := by
  refine Eq.trans (ev_lda (show zcode 102 0 = some (6, 1, 1, 0, []) by decide +kernel) rfl (by decide)) ?_
  refine Eq.trans (ev_gi (show zcode 102 1 = some (55, 4, 9, 9, []) by decide +kernel) h1.o) ?_
  refine Eq.trans (ev_sti (show zcode 102 4 = some (7, 5, 3, 0, []) by decide +kernel) ⟨show 3 < 9 by decide, Or.inr (show ¬ (0 : Nat) = 1 by decide)⟩) ?_
  refine Eq.trans (ev_lda (show zcode 102 5 = some (6, 6, 0, 0, []) by decide +kernel) rfl (by decide)) ?_
  refine Eq.trans (ev_ci (show zcode 102 6 = some (0, 7, 0, 0, []) by decide +kernel) (by decide)) ?_
  refine Eq.trans (ev_pi (show zcode 102 7 = some (57, 10, 5, 5, []) by decide +kernel) h2.o) ?_
  refine Eq.trans (ev_lda (show zcode 102 10 = some (6, 11, 0, 0, []) by decide +kernel) rfl (by decide)) ?_
  refine Eq.trans (ev_ci (show zcode 102 11 = some (0, 13, 0, 26, []) by decide +kernel) (by decide)) ?_
  exact ev_cvirt (show zcode 102 13 = some (76, 16, 103, 2, [5]) by decide +kernel) (args := [(0, 26)]) (rest := []) rfl h2.o rfl (show 0 ≤ 8 by decide) ⟨by decide, show 2 ≤ 3 by decide⟩
theorem b102_16 {T : zT} {V : zM} {q0 : Int} {q1 : Int} {x2 : Int} {x3 : Int} {y0 : Int} : ev 102 16 [(2, q0), (2, q1), (0, x2), (0, x3), (9, 0), (9, 0), (9, 0), (9, 0), (9, 0)] [(0, y0)] T V = if x3 = 0 then ev 102 22 [(2, q0), (2, q1), (0, x2), (0, x3), (0, y0), (9, 0), (9, 0), (9, 0), (9, 0)] [] T V else ev 102 39 [(2, q0), (2, q1), (0, x2), (0, x3), (0, y0), (9, 0), (9, 0), (9, 0), (9, 0)] [] T V := by
  refine Eq.trans (ev_sti (show zcode 102 16 = some (7, 18, 4, 0, []) by decide +kernel) ⟨show 4 < 9 by decide, Or.inr (show ¬ (0 : Nat) = 1 by decide)⟩) ?_
  refine Eq.trans (ev_ldi (show zcode 102 18 = some (4, 19, 3, 0, []) by decide +kernel) rfl) ?_
  exact ev_ne (show zcode 102 19 = some (41, 22, 39, 0, []) by decide +kernel)
theorem b102_22 {T : zT} {V : zM} {q0 : Int} {q1 : Int} {x2 : Int} {x3 : Int} {x4 : Int} (h1 : zRows T q0) (h2 : (0 : Int) ≤ x4 ∧ x4 < 196) : ev 102 22 [(2, q0), (2, q1), (0, x2), (0, x3), (0, x4), (9, 0), (9, 0), (9, 0), (9, 0)] [] T V = ev 102 39 [(2, q0), (2, q1), (0, x2), (0, x3), (0, x4), (9, 0), (9, 0), (9, 0), (9, 0)] [] T (zwr (zwr V (q0 + 4) x4 x4) (q0 + 5) x4 1) := by
  refine Eq.trans (ev_lda (show zcode 102 22 = some (6, 23, 0, 0, []) by decide +kernel) rfl (by decide)) ?_
  refine Eq.trans (ev_gq (show zcode 102 23 = some (56, 26, 5, 3, []) by decide +kernel) h1.o h1.p3) ?_
  refine Eq.trans (ev_ldi (show zcode 102 26 = some (4, 28, 4, 0, []) by decide +kernel) rfl) ?_
  refine Eq.trans (ev_ldi (show zcode 102 28 = some (4, 30, 4, 0, []) by decide +kernel) rfl) ?_
  refine Eq.trans (ev_is (show zcode 102 30 = some (64, 31, 0, 0, []) by decide +kernel) h1.a4 h2) ?_
  refine Eq.trans (ev_lda (show zcode 102 31 = some (6, 32, 0, 0, []) by decide +kernel) rfl (by decide)) ?_
  refine Eq.trans (ev_gq (show zcode 102 32 = some (56, 35, 5, 4, []) by decide +kernel) h1.o h1.p4) ?_
  refine Eq.trans (ev_ldi (show zcode 102 35 = some (4, 37, 4, 0, []) by decide +kernel) rfl) ?_
  refine Eq.trans (ev_ci (show zcode 102 37 = some (0, 38, 0, 1, []) by decide +kernel) (by decide)) ?_
  exact ev_zs (show zcode 102 38 = some (66, 39, 0, 0, []) by decide +kernel) h1.a5 h2 (by decide)
theorem b102_39 {T : zT} {V : zM} {q0 : Int} {q1 : Int} {x2 : Int} {x3 : Int} {x4 : Int} : ev 102 39 [(2, q0), (2, q1), (0, x2), (0, x3), (0, x4), (9, 0), (9, 0), (9, 0), (9, 0)] [] T V = ev 102 42 [(2, q0), (2, q1), (0, x2), (0, x3), (0, x4), (0, 1), (9, 0), (9, 0), (9, 0)] [] T V := by
  refine Eq.trans (ev_ci (show zcode 102 39 = some (0, 40, 0, 1, []) by decide +kernel) (by decide)) ?_
  exact ev_sti (show zcode 102 40 = some (7, 42, 5, 0, []) by decide +kernel) ⟨show 5 < 9 by decide, Or.inr (show ¬ (0 : Nat) = 1 by decide)⟩
theorem b102_42 {T : zT} {V : zM} {q0 : Int} {q1 : Int} {x2 : Int} {x3 : Int} {x4 : Int} {x5 : Int} : ev 102 42 [(2, q0), (2, q1), (0, x2), (0, x3), (0, x4), (0, x5), (9, 0), (9, 0), (9, 0)] [] T V = if x3 ≤ x5 then ev 102 61 [(2, q0), (2, q1), (0, x2), (0, x3), (0, x4), (0, x5), (9, 0), (9, 0), (9, 0)] [] T V else ev 102 48 [(2, q0), (2, q1), (0, x2), (0, x3), (0, x4), (0, x5), (9, 0), (9, 0), (9, 0)] [] T V := by
  refine Eq.trans (ev_ldi (show zcode 102 42 = some (4, 44, 5, 0, []) by decide +kernel) rfl) ?_
  refine Eq.trans (ev_ldi (show zcode 102 44 = some (4, 45, 3, 0, []) by decide +kernel) rfl) ?_
  exact ev_cge (show zcode 102 45 = some (49, 48, 61, 0, []) by decide +kernel)
theorem b102_48 {T : zT} {V : zM} {q0 : Int} {q1 : Int} {x2 : Int} {x3 : Int} {x4 : Int} {x5 : Int} (h1 : zRows T q0) : ev 102 48 [(2, q0), (2, q1), (0, x2), (0, x3), (0, x4), (0, x5), (9, 0), (9, 0), (9, 0)] [] T V = (zcall 103 [(2, q0), (0, 26)] T V).bind fun x => ev 102 54 [(2, q0), (2, q1), (0, x2), (0, x3), (0, x4), (0, x5), (9, 0), (9, 0), (9, 0)] (z_push x.1 []) x.2.1 x.2.2 := by
  refine Eq.trans (ev_lda (show zcode 102 48 = some (6, 49, 0, 0, []) by decide +kernel) rfl (by decide)) ?_
  refine Eq.trans (ev_ci (show zcode 102 49 = some (0, 51, 0, 26, []) by decide +kernel) (by decide)) ?_
  exact ev_cvirt (show zcode 102 51 = some (76, 54, 103, 2, [5]) by decide +kernel) (args := [(0, 26)]) (rest := []) rfl h1.o rfl (show 0 ≤ 8 by decide) ⟨by decide, show 2 ≤ 3 by decide⟩
theorem b102_54 {T : zT} {V : zM} {q0 : Int} {q1 : Int} {x2 : Int} {x3 : Int} {x4 : Int} {x5 : Int} {y0 : Int} (h1 : -2147483648 ≤ (x5 + 1) ∧ (x5 + 1) ≤ 2147483647) : ev 102 54 [(2, q0), (2, q1), (0, x2), (0, x3), (0, x4), (0, x5), (9, 0), (9, 0), (9, 0)] [(0, y0)] T V = ev 102 42 [(2, q0), (2, q1), (0, x2), (0, x3), (0, x4), (0, (x5 + 1)), (9, 0), (9, 0), (9, 0)] [] T V := by
  refine Eq.trans (ev_pop (show zcode 102 54 = some (37, 55, 0, 0, []) by decide +kernel) (by decide)) ?_
  refine Eq.trans (ev_inc (show zcode 102 55 = some (10, 58, 5, 1, []) by decide +kernel) rfl h1 (Or.inr (show ¬ (0 : Nat) = 1 by decide))) ?_
  exact ev_goto (show zcode 102 58 = some (53, 61, 42, 0, []) by decide +kernel)
theorem b102_61 {T : zT} {V : zM} {q0 : Int} {q1 : Int} {x2 : Int} {x3 : Int} {x4 : Int} {x5 : Int} : ev 102 61 [(2, q0), (2, q1), (0, x2), (0, x3), (0, x4), (0, x5), (9, 0), (9, 0), (9, 0)] [] T V = ev 102 64 [(2, q0), (2, q1), (0, x2), (0, x3), (0, x4), (0, 0), (9, 0), (9, 0), (9, 0)] [] T V := by
  refine Eq.trans (ev_ci (show zcode 102 61 = some (0, 62, 0, 0, []) by decide +kernel) (by decide)) ?_
  exact ev_sti (show zcode 102 62 = some (7, 64, 5, 0, []) by decide +kernel) ⟨show 5 < 9 by decide, Or.inr (show ¬ (0 : Nat) = 1 by decide)⟩
theorem b102_64 {T : zT} {V : zM} {q0 : Int} {q1 : Int} {x2 : Int} {x3 : Int} {x4 : Int} {x5 : Int} {v6 : zV} {v7 : zV} {v8 : zV} : ev 102 64 [(2, q0), (2, q1), (0, x2), (0, x3), (0, x4), (0, x5), v6, v7, v8] [] T V = if x3 ≤ x5 then ev 102 183 [(2, q0), (2, q1), (0, x2), (0, x3), (0, x4), (0, x5), v6, v7, v8] [] T V else ev 102 70 [(2, q0), (2, q1), (0, x2), (0, x3), (0, x4), (0, x5), v6, v7, v8] [] T V := by
  refine Eq.trans (ev_ldi (show zcode 102 64 = some (4, 66, 5, 0, []) by decide +kernel) rfl) ?_
  refine Eq.trans (ev_ldi (show zcode 102 66 = some (4, 67, 3, 0, []) by decide +kernel) rfl) ?_
  exact ev_cge (show zcode 102 67 = some (49, 70, 183, 0, []) by decide +kernel)
theorem b102_70 {T : zT} {V : zM} {q0 : Int} {q1 : Int} {x2 : Int} {x3 : Int} {x4 : Int} {x5 : Int} {v6 : zV} {v7 : zV} {v8 : zV} (h1 : zTongue T q1) : ev 102 70 [(2, q0), (2, q1), (0, x2), (0, x3), (0, x4), (0, x5), v6, v7, v8] [] T V = if x2 = 0 then ev 102 87 [(2, q0), (2, q1), (0, x2), (0, x3), (0, x4), (0, x5), v6, v7, v8] [(2, (q1 + 7))] T V else ev 102 78 [(2, q0), (2, q1), (0, x2), (0, x3), (0, x4), (0, x5), v6, v7, v8] [(2, (q1 + 7))] T V := by
  refine Eq.trans (ev_lda (show zcode 102 70 = some (6, 71, 1, 0, []) by decide +kernel) rfl (by decide)) ?_
  refine Eq.trans (ev_gq (show zcode 102 71 = some (56, 74, 9, 8, []) by decide +kernel) h1.o h1.p8) ?_
  refine Eq.trans (ev_ldi (show zcode 102 74 = some (4, 75, 2, 0, []) by decide +kernel) rfl) ?_
  exact ev_eq (show zcode 102 75 = some (40, 78, 87, 0, []) by decide +kernel)
theorem b102_78 {T : zT} {V : zM} {q0 : Int} {q1 : Int} {x2 : Int} {x3 : Int} {x4 : Int} {x5 : Int} {v6 : zV} {v7 : zV} {v8 : zV} {p0 : Int} (h1 : -2147483648 ≤ (x3 - 1) ∧ (x3 - 1) ≤ 2147483647) (h2 : -2147483648 ≤ ((x3 - 1) - x5) ∧ ((x3 - 1) - x5) ≤ 2147483647) : ev 102 78 [(2, q0), (2, q1), (0, x2), (0, x3), (0, x4), (0, x5), v6, v7, v8] [(2, p0)] T V = ev 102 89 [(2, q0), (2, q1), (0, x2), (0, x3), (0, x4), (0, x5), v6, v7, v8] [(0, ((x3 - 1) - x5)), (2, p0)] T V := by
  refine Eq.trans (ev_ldi (show zcode 102 78 = some (4, 79, 3, 0, []) by decide +kernel) rfl) ?_
  refine Eq.trans (ev_ci (show zcode 102 79 = some (0, 80, 0, 1, []) by decide +kernel) (by decide)) ?_
  refine Eq.trans (ev_sub (show zcode 102 80 = some (12, 81, 0, 0, []) by decide +kernel) h1) ?_
  refine Eq.trans (ev_ldi (show zcode 102 81 = some (4, 83, 5, 0, []) by decide +kernel) rfl) ?_
  refine Eq.trans (ev_sub (show zcode 102 83 = some (12, 84, 0, 0, []) by decide +kernel) h2) ?_
  exact ev_goto (show zcode 102 84 = some (53, 87, 89, 0, []) by decide +kernel)
theorem b102_87 {T : zT} {V : zM} {q0 : Int} {q1 : Int} {x2 : Int} {x3 : Int} {x4 : Int} {x5 : Int} {v6 : zV} {v7 : zV} {v8 : zV} {p0 : Int} : ev 102 87 [(2, q0), (2, q1), (0, x2), (0, x3), (0, x4), (0, x5), v6, v7, v8] [(2, p0)] T V = ev 102 89 [(2, q0), (2, q1), (0, x2), (0, x3), (0, x4), (0, x5), v6, v7, v8] [(0, x5), (2, p0)] T V := by
  exact ev_ldi (show zcode 102 87 = some (4, 89, 5, 0, []) by decide +kernel) rfl
theorem b102_89 {T : zT} {V : zM} {q0 : Int} {q1 : Int} {x2 : Int} {x3 : Int} {x4 : Int} {x5 : Int} {v6 : zV} {v7 : zV} {v8 : zV} {p0 : Int} {y1 : Int} {n1 : Int} (h1 : zAr T p0 0 n1) (h2 : (0 : Int) ≤ y1 ∧ y1 < n1) : ev 102 89 [(2, q0), (2, q1), (0, x2), (0, x3), (0, x4), (0, x5), v6, v7, v8] [(0, y1), (2, p0)] T V = ev 102 95 [(2, q0), (2, q1), (0, x2), (0, x3), (0, x4), (0, x5), (0, (V p0 y1)), (0, 0), v8] [] T V := by
  refine Eq.trans (ev_ia (show zcode 102 89 = some (60, 90, 0, 0, []) by decide +kernel) h1 h2) ?_
  refine Eq.trans (ev_sti (show zcode 102 90 = some (7, 92, 6, 0, []) by decide +kernel) ⟨show 6 < 9 by decide, Or.inr (show ¬ (0 : Nat) = 1 by decide)⟩) ?_
  refine Eq.trans (ev_ci (show zcode 102 92 = some (0, 93, 0, 0, []) by decide +kernel) (by decide)) ?_
  exact ev_sti (show zcode 102 93 = some (7, 95, 7, 0, []) by decide +kernel) ⟨show 7 < 9 by decide, Or.inr (show ¬ (0 : Nat) = 1 by decide)⟩
theorem b102_95 {T : zT} {V : zM} {q0 : Int} {q1 : Int} {x2 : Int} {x3 : Int} {x4 : Int} {x5 : Int} {x6 : Int} {x7 : Int} {v8 : zV} (h1 : zTongue T q1) : ev 102 95 [(2, q0), (2, q1), (0, x2), (0, x3), (0, x4), (0, x5), (0, x6), (0, x7), v8] [] T V = if (V q1 5) ≤ x7 then ev 102 177 [(2, q0), (2, q1), (0, x2), (0, x3), (0, x4), (0, x5), (0, x6), (0, x7), v8] [] T V else ev 102 104 [(2, q0), (2, q1), (0, x2), (0, x3), (0, x4), (0, x5), (0, x6), (0, x7), v8] [] T V := by
  refine Eq.trans (ev_ldi (show zcode 102 95 = some (4, 97, 7, 0, []) by decide +kernel) rfl) ?_
  refine Eq.trans (ev_lda (show zcode 102 97 = some (6, 98, 1, 0, []) by decide +kernel) rfl (by decide)) ?_
  refine Eq.trans (ev_gi (show zcode 102 98 = some (55, 101, 9, 5, []) by decide +kernel) h1.o) ?_
  exact ev_cge (show zcode 102 101 = some (49, 104, 177, 0, []) by decide +kernel)
theorem b102_104 {T : zT} {V : zM} {q0 : Int} {q1 : Int} {x2 : Int} {x3 : Int} {x4 : Int} {x5 : Int} {x6 : Int} {x7 : Int} {v8 : zV} (h1 : zTongue T q1) (h2 : (0 : Int) ≤ x7 ∧ x7 < 8) : ev 102 104 [(2, q0), (2, q1), (0, x2), (0, x3), (0, x4), (0, x5), (0, x6), (0, x7), v8] [] T V = if (V (q1 + 3) x7) = x6 then ev 102 116 [(2, q0), (2, q1), (0, x2), (0, x3), (0, x4), (0, x5), (0, x6), (0, x7), v8] [] T V else ev 102 171 [(2, q0), (2, q1), (0, x2), (0, x3), (0, x4), (0, x5), (0, x6), (0, x7), v8] [] T V := by
  refine Eq.trans (ev_lda (show zcode 102 104 = some (6, 105, 1, 0, []) by decide +kernel) rfl (by decide)) ?_
  refine Eq.trans (ev_gq (show zcode 102 105 = some (56, 108, 9, 2, []) by decide +kernel) h1.o h1.p2) ?_
  refine Eq.trans (ev_ldi (show zcode 102 108 = some (4, 110, 7, 0, []) by decide +kernel) rfl) ?_
  refine Eq.trans (ev_ia (show zcode 102 110 = some (60, 111, 0, 0, []) by decide +kernel) h1.a3 h2) ?_
  refine Eq.trans (ev_ldi (show zcode 102 111 = some (4, 113, 6, 0, []) by decide +kernel) rfl) ?_
  exact ev_cne (show zcode 102 113 = some (47, 116, 171, 0, []) by decide +kernel)
theorem b102_116 {T : zT} {V : zM} {q0 : Int} {q1 : Int} {x2 : Int} {x3 : Int} {x4 : Int} {x5 : Int} {x6 : Int} {x7 : Int} {v8 : zV} (h1 : zRows T q0) : ev 102 116 [(2, q0), (2, q1), (0, x2), (0, x3), (0, x4), (0, x5), (0, x6), (0, x7), v8] [] T V = (zcall 104 [(2, q0), (0, x5), (2, q1), (0, x7), (0, x2)] T V).bind fun x => ev 102 126 [(2, q0), (2, q1), (0, x2), (0, x3), (0, x4), (0, x5), (0, x6), (0, x7), v8] (z_push x.1 []) x.2.1 x.2.2 := by
  refine Eq.trans (ev_lda (show zcode 102 116 = some (6, 117, 0, 0, []) by decide +kernel) rfl (by decide)) ?_
  refine Eq.trans (ev_ldi (show zcode 102 117 = some (4, 119, 5, 0, []) by decide +kernel) rfl) ?_
  refine Eq.trans (ev_lda (show zcode 102 119 = some (6, 120, 1, 0, []) by decide +kernel) rfl (by decide)) ?_
  refine Eq.trans (ev_ldi (show zcode 102 120 = some (4, 122, 7, 0, []) by decide +kernel) rfl) ?_
  refine Eq.trans (ev_ldi (show zcode 102 122 = some (4, 123, 2, 0, []) by decide +kernel) rfl) ?_
  exact ev_cvirt (show zcode 102 123 = some (76, 126, 104, 5, [5]) by decide +kernel) (args := [(0, x5), (2, q1), (0, x7), (0, x2)]) (rest := []) rfl h1.o rfl (show 0 ≤ 8 by decide) ⟨by decide, show 5 ≤ 8 by decide⟩
theorem b102_126 {T : zT} {V : zM} {q0 : Int} {q1 : Int} {x2 : Int} {x3 : Int} {x4 : Int} {x5 : Int} {x6 : Int} {x7 : Int} {v8 : zV} {y0 : Int} (h1 : zRows T q0) (h2 : -2147483648 ≤ (x3 - 1) ∧ (x3 - 1) ≤ 2147483647) : ev 102 126 [(2, q0), (2, q1), (0, x2), (0, x3), (0, x4), (0, x5), (0, x6), (0, x7), v8] [(0, y0)] T V = if x5 = (x3 - 1) then ev 102 142 [(2, q0), (2, q1), (0, x2), (0, x3), (0, x4), (0, x5), (0, x6), (0, x7), (0, y0)] [(0, y0), (2, (q0 + 5))] T V else ev 102 146 [(2, q0), (2, q1), (0, x2), (0, x3), (0, x4), (0, x5), (0, x6), (0, x7), (0, y0)] [(0, y0), (2, (q0 + 5))] T V := by
  refine Eq.trans (ev_sti (show zcode 102 126 = some (7, 128, 8, 0, []) by decide +kernel) ⟨show 8 < 9 by decide, Or.inr (show ¬ (0 : Nat) = 1 by decide)⟩) ?_
  refine Eq.trans (ev_lda (show zcode 102 128 = some (6, 129, 0, 0, []) by decide +kernel) rfl (by decide)) ?_
  refine Eq.trans (ev_gq (show zcode 102 129 = some (56, 132, 5, 4, []) by decide +kernel) h1.o h1.p4) ?_
  refine Eq.trans (ev_ldi (show zcode 102 132 = some (4, 134, 8, 0, []) by decide +kernel) rfl) ?_
  refine Eq.trans (ev_ldi (show zcode 102 134 = some (4, 136, 5, 0, []) by decide +kernel) rfl) ?_
  refine Eq.trans (ev_ldi (show zcode 102 136 = some (4, 137, 3, 0, []) by decide +kernel) rfl) ?_
  refine Eq.trans (ev_ci (show zcode 102 137 = some (0, 138, 0, 1, []) by decide +kernel) (by decide)) ?_
  refine Eq.trans (ev_sub (show zcode 102 138 = some (12, 139, 0, 0, []) by decide +kernel) h2) ?_
  exact ev_cne (show zcode 102 139 = some (47, 142, 146, 0, []) by decide +kernel)
theorem b102_142 {T : zT} {V : zM} {q0 : Int} {q1 : Int} {x2 : Int} {x3 : Int} {x4 : Int} {x5 : Int} {x6 : Int} {x7 : Int} {x8 : Int} {p0 : Int} {y1 : Int} : ev 102 142 [(2, q0), (2, q1), (0, x2), (0, x3), (0, x4), (0, x5), (0, x6), (0, x7), (0, x8)] [(0, y1), (2, p0)] T V = ev 102 147 [(2, q0), (2, q1), (0, x2), (0, x3), (0, x4), (0, x5), (0, x6), (0, x7), (0, x8)] [(0, 1), (0, y1), (2, p0)] T V := by
  refine Eq.trans (ev_ci (show zcode 102 142 = some (0, 143, 0, 1, []) by decide +kernel) (by decide)) ?_
  exact ev_goto (show zcode 102 143 = some (53, 146, 147, 0, []) by decide +kernel)
theorem b102_146 {T : zT} {V : zM} {q0 : Int} {q1 : Int} {x2 : Int} {x3 : Int} {x4 : Int} {x5 : Int} {x6 : Int} {x7 : Int} {x8 : Int} {p0 : Int} {y1 : Int} : ev 102 146 [(2, q0), (2, q1), (0, x2), (0, x3), (0, x4), (0, x5), (0, x6), (0, x7), (0, x8)] [(0, y1), (2, p0)] T V = ev 102 147 [(2, q0), (2, q1), (0, x2), (0, x3), (0, x4), (0, x5), (0, x6), (0, x7), (0, x8)] [(0, 0), (0, y1), (2, p0)] T V := by
  exact ev_ci (show zcode 102 146 = some (0, 147, 0, 0, []) by decide +kernel) (by decide)
theorem b102_147 {T : zT} {V : zM} {q0 : Int} {q1 : Int} {x2 : Int} {x3 : Int} {x4 : Int} {x5 : Int} {x6 : Int} {x7 : Int} {x8 : Int} {p0 : Int} {y1 : Int} {y2 : Int} {n1 : Int} (h1 : zAr T p0 3 n1) (h2 : (0 : Int) ≤ y1 ∧ y1 < n1) (h3 : (0 : Int) ≤ y2 ∧ y2 ≤ 1) (h4 : zRows T q0) (h5 : -2147483648 ≤ (x3 - 1) ∧ (x3 - 1) ≤ 2147483647) : ev 102 147 [(2, q0), (2, q1), (0, x2), (0, x3), (0, x4), (0, x5), (0, x6), (0, x7), (0, x8)] [(0, y2), (0, y1), (2, p0)] T V = if x5 = (x3 - 1) then ev 102 162 [(2, q0), (2, q1), (0, x2), (0, x3), (0, x4), (0, x5), (0, x6), (0, x7), (0, x8)] [(0, x8), (2, (q0 + 4))] T (zwr V p0 y1 y2) else ev 102 166 [(2, q0), (2, q1), (0, x2), (0, x3), (0, x4), (0, x5), (0, x6), (0, x7), (0, x8)] [(0, x8), (2, (q0 + 4))] T (zwr V p0 y1 y2) := by
  refine Eq.trans (ev_zs (show zcode 102 147 = some (66, 148, 0, 0, []) by decide +kernel) h1 h2 h3) ?_
  refine Eq.trans (ev_lda (show zcode 102 148 = some (6, 149, 0, 0, []) by decide +kernel) rfl (by decide)) ?_
  refine Eq.trans (ev_gq (show zcode 102 149 = some (56, 152, 5, 3, []) by decide +kernel) h4.o h4.p3) ?_
  refine Eq.trans (ev_ldi (show zcode 102 152 = some (4, 154, 8, 0, []) by decide +kernel) rfl) ?_
  refine Eq.trans (ev_ldi (show zcode 102 154 = some (4, 156, 5, 0, []) by decide +kernel) rfl) ?_
  refine Eq.trans (ev_ldi (show zcode 102 156 = some (4, 157, 3, 0, []) by decide +kernel) rfl) ?_
  refine Eq.trans (ev_ci (show zcode 102 157 = some (0, 158, 0, 1, []) by decide +kernel) (by decide)) ?_
  refine Eq.trans (ev_sub (show zcode 102 158 = some (12, 159, 0, 0, []) by decide +kernel) h5) ?_
  exact ev_cne (show zcode 102 159 = some (47, 162, 166, 0, []) by decide +kernel)
theorem b102_162 {T : zT} {V : zM} {q0 : Int} {q1 : Int} {x2 : Int} {x3 : Int} {x4 : Int} {x5 : Int} {x6 : Int} {x7 : Int} {x8 : Int} {p0 : Int} {y1 : Int} : ev 102 162 [(2, q0), (2, q1), (0, x2), (0, x3), (0, x4), (0, x5), (0, x6), (0, x7), (0, x8)] [(0, y1), (2, p0)] T V = ev 102 170 [(2, q0), (2, q1), (0, x2), (0, x3), (0, x4), (0, x5), (0, x6), (0, x7), (0, x8)] [(0, (-1)), (0, y1), (2, p0)] T V := by
  refine Eq.trans (ev_ci (show zcode 102 162 = some (0, 163, 0, (-1), []) by decide +kernel) (by decide)) ?_
  exact ev_goto (show zcode 102 163 = some (53, 166, 170, 0, []) by decide +kernel)
theorem b102_166 {T : zT} {V : zM} {q0 : Int} {q1 : Int} {x2 : Int} {x3 : Int} {x4 : Int} {x5 : Int} {x6 : Int} {x7 : Int} {x8 : Int} {p0 : Int} {y1 : Int} (h1 : -2147483648 ≤ (x5 + 1) ∧ (x5 + 1) ≤ 2147483647) : ev 102 166 [(2, q0), (2, q1), (0, x2), (0, x3), (0, x4), (0, x5), (0, x6), (0, x7), (0, x8)] [(0, y1), (2, p0)] T V = ev 102 170 [(2, q0), (2, q1), (0, x2), (0, x3), (0, x4), (0, x5), (0, x6), (0, x7), (0, x8)] [(0, (x5 + 1)), (0, y1), (2, p0)] T V := by
  refine Eq.trans (ev_ldi (show zcode 102 166 = some (4, 168, 5, 0, []) by decide +kernel) rfl) ?_
  refine Eq.trans (ev_ci (show zcode 102 168 = some (0, 169, 0, 1, []) by decide +kernel) (by decide)) ?_
  exact ev_add (show zcode 102 169 = some (11, 170, 0, 0, []) by decide +kernel) h1
theorem b102_170 {T : zT} {V : zM} {q0 : Int} {q1 : Int} {x2 : Int} {x3 : Int} {x4 : Int} {x5 : Int} {x6 : Int} {x7 : Int} {x8 : Int} {p0 : Int} {y1 : Int} {y2 : Int} {n1 : Int} (h1 : zAr T p0 0 n1) (h2 : (0 : Int) ≤ y1 ∧ y1 < n1) : ev 102 170 [(2, q0), (2, q1), (0, x2), (0, x3), (0, x4), (0, x5), (0, x6), (0, x7), (0, x8)] [(0, y2), (0, y1), (2, p0)] T V = ev 102 171 [(2, q0), (2, q1), (0, x2), (0, x3), (0, x4), (0, x5), (0, x6), (0, x7), (0, x8)] [] T (zwr V p0 y1 y2) := by
  exact ev_is (show zcode 102 170 = some (64, 171, 0, 0, []) by decide +kernel) h1 h2
theorem b102_171 {T : zT} {V : zM} {q0 : Int} {q1 : Int} {x2 : Int} {x3 : Int} {x4 : Int} {x5 : Int} {x6 : Int} {x7 : Int} {v8 : zV} (h1 : -2147483648 ≤ (x7 + 1) ∧ (x7 + 1) ≤ 2147483647) : ev 102 171 [(2, q0), (2, q1), (0, x2), (0, x3), (0, x4), (0, x5), (0, x6), (0, x7), v8] [] T V = ev 102 95 [(2, q0), (2, q1), (0, x2), (0, x3), (0, x4), (0, x5), (0, x6), (0, (x7 + 1)), v8] [] T V := by
  refine Eq.trans (ev_inc (show zcode 102 171 = some (10, 174, 7, 1, []) by decide +kernel) rfl h1 (Or.inr (show ¬ (0 : Nat) = 1 by decide))) ?_
  exact ev_goto (show zcode 102 174 = some (53, 177, 95, 0, []) by decide +kernel)
theorem b102_177 {T : zT} {V : zM} {q0 : Int} {q1 : Int} {x2 : Int} {x3 : Int} {x4 : Int} {x5 : Int} {x6 : Int} {x7 : Int} {v8 : zV} (h1 : -2147483648 ≤ (x5 + 1) ∧ (x5 + 1) ≤ 2147483647) : ev 102 177 [(2, q0), (2, q1), (0, x2), (0, x3), (0, x4), (0, x5), (0, x6), (0, x7), v8] [] T V = ev 102 64 [(2, q0), (2, q1), (0, x2), (0, x3), (0, x4), (0, (x5 + 1)), (0, x6), (0, x7), v8] [] T V := by
  refine Eq.trans (ev_inc (show zcode 102 177 = some (10, 180, 5, 1, []) by decide +kernel) rfl h1 (Or.inr (show ¬ (0 : Nat) = 1 by decide))) ?_
  exact ev_goto (show zcode 102 180 = some (53, 183, 64, 0, []) by decide +kernel)
theorem b102_183 {T : zT} {V : zM} {q0 : Int} {q1 : Int} {x2 : Int} {x3 : Int} {x4 : Int} {x5 : Int} {v6 : zV} {v7 : zV} {v8 : zV} : ev 102 183 [(2, q0), (2, q1), (0, x2), (0, x3), (0, x4), (0, x5), v6, v7, v8] [] T V = some ((9, 0), T, V) := by
  exact ev_rn (show zcode 102 183 = some (73, 184, 0, 0, []) by decide +kernel)
/-! 103: TwoWayWall$Rows.addNode(I)I -/
theorem e103 {T : zT} {V : zM} {q0 : Int} {x1 : Int} : zcall 103 [(2, q0), (0, x1)] T V = ev 103 0 [(2, q0), (0, x1), (9, 0)] [] T V := rfl
theorem b103_0 {T : zT} {V : zM} {q0 : Int} {x1 : Int} (h1 : zRows T q0) (h2 : (0 : Int) ≤ (min (V q0 5) 195) ∧ (min (V q0 5) 195) < 196) (h3 : -2147483648 ≤ ((min (V q0 5) 195) + 1) ∧ ((min (V q0 5) 195) + 1) ≤ 2147483647) : ev 103 0 [(2, q0), (0, x1), (9, 0)] [] T V = some ((0, (min (V q0 5) 195)), T, (zwr (zwr (zwr (zwr (zwr (zwr V (q0 + 1) (min (V q0 5) 195) x1) (q0 + 2) (min (V q0 5) 195) (-1)) (q0 + 3) (min (V q0 5) 195) (-1)) (q0 + 4) (min (V q0 5) 195) (-1)) (q0 + 5) (min (V q0 5) 195) 0) q0 5 ((min (V q0 5) 195) + 1))) := by
  refine Eq.trans (ev_lda (show zcode 103 0 = some (6, 1, 0, 0, []) by decide +kernel) rfl (by decide)) ?_
  refine Eq.trans (ev_gi (show zcode 103 1 = some (55, 4, 5, 5, []) by decide +kernel) h1.o) ?_
  refine Eq.trans (ev_ci (show zcode 103 4 = some (0, 7, 0, 195, []) by decide +kernel) (by decide)) ?_
  refine Eq.trans (ev_min (show zcode 103 7 = some (85, 10, 0, 0, []) by decide +kernel) (show 0 ≤ 8 by decide)) ?_
  refine Eq.trans (ev_sti (show zcode 103 10 = some (7, 11, 2, 0, []) by decide +kernel) ⟨show 2 < 3 by decide, Or.inr (show ¬ (0 : Nat) = 1 by decide)⟩) ?_
  refine Eq.trans (ev_lda (show zcode 103 11 = some (6, 12, 0, 0, []) by decide +kernel) rfl (by decide)) ?_
  refine Eq.trans (ev_gq (show zcode 103 12 = some (56, 15, 5, 0, []) by decide +kernel) h1.o h1.p0) ?_
  refine Eq.trans (ev_ldi (show zcode 103 15 = some (4, 16, 2, 0, []) by decide +kernel) rfl) ?_
  refine Eq.trans (ev_ldi (show zcode 103 16 = some (4, 17, 1, 0, []) by decide +kernel) rfl) ?_
  refine Eq.trans (ev_is (show zcode 103 17 = some (64, 18, 0, 0, []) by decide +kernel) h1.a1 h2) ?_
  refine Eq.trans (ev_lda (show zcode 103 18 = some (6, 19, 0, 0, []) by decide +kernel) rfl (by decide)) ?_
  refine Eq.trans (ev_gq (show zcode 103 19 = some (56, 22, 5, 1, []) by decide +kernel) h1.o h1.p1) ?_
  refine Eq.trans (ev_ldi (show zcode 103 22 = some (4, 23, 2, 0, []) by decide +kernel) rfl) ?_
  refine Eq.trans (ev_ci (show zcode 103 23 = some (0, 24, 0, (-1), []) by decide +kernel) (by decide)) ?_
  refine Eq.trans (ev_is (show zcode 103 24 = some (64, 25, 0, 0, []) by decide +kernel) h1.a2 h2) ?_
  refine Eq.trans (ev_lda (show zcode 103 25 = some (6, 26, 0, 0, []) by decide +kernel) rfl (by decide)) ?_
  refine Eq.trans (ev_gq (show zcode 103 26 = some (56, 29, 5, 2, []) by decide +kernel) h1.o h1.p2) ?_
  refine Eq.trans (ev_ldi (show zcode 103 29 = some (4, 30, 2, 0, []) by decide +kernel) rfl) ?_
  refine Eq.trans (ev_ci (show zcode 103 30 = some (0, 31, 0, (-1), []) by decide +kernel) (by decide)) ?_
  refine Eq.trans (ev_is (show zcode 103 31 = some (64, 32, 0, 0, []) by decide +kernel) h1.a3 h2) ?_
  refine Eq.trans (ev_lda (show zcode 103 32 = some (6, 33, 0, 0, []) by decide +kernel) rfl (by decide)) ?_
  refine Eq.trans (ev_gq (show zcode 103 33 = some (56, 36, 5, 3, []) by decide +kernel) h1.o h1.p3) ?_
  refine Eq.trans (ev_ldi (show zcode 103 36 = some (4, 37, 2, 0, []) by decide +kernel) rfl) ?_
  refine Eq.trans (ev_ci (show zcode 103 37 = some (0, 38, 0, (-1), []) by decide +kernel) (by decide)) ?_
  refine Eq.trans (ev_is (show zcode 103 38 = some (64, 39, 0, 0, []) by decide +kernel) h1.a4 h2) ?_
  refine Eq.trans (ev_lda (show zcode 103 39 = some (6, 40, 0, 0, []) by decide +kernel) rfl (by decide)) ?_
  refine Eq.trans (ev_gq (show zcode 103 40 = some (56, 43, 5, 4, []) by decide +kernel) h1.o h1.p4) ?_
  refine Eq.trans (ev_ldi (show zcode 103 43 = some (4, 44, 2, 0, []) by decide +kernel) rfl) ?_
  refine Eq.trans (ev_ci (show zcode 103 44 = some (0, 45, 0, 0, []) by decide +kernel) (by decide)) ?_
  refine Eq.trans (ev_zs (show zcode 103 45 = some (66, 46, 0, 0, []) by decide +kernel) h1.a5 h2 (by decide)) ?_
  refine Eq.trans (ev_lda (show zcode 103 46 = some (6, 47, 0, 0, []) by decide +kernel) rfl (by decide)) ?_
  refine Eq.trans (ev_ldi (show zcode 103 47 = some (4, 48, 2, 0, []) by decide +kernel) rfl) ?_
  refine Eq.trans (ev_ci (show zcode 103 48 = some (0, 49, 0, 1, []) by decide +kernel) (by decide)) ?_
  refine Eq.trans (ev_add (show zcode 103 49 = some (11, 50, 0, 0, []) by decide +kernel) h3) ?_
  refine Eq.trans (ev_pi (show zcode 103 50 = some (57, 53, 5, 5, []) by decide +kernel) h1.o) ?_
  refine Eq.trans (ev_ldi (show zcode 103 53 = some (4, 54, 2, 0, []) by decide +kernel) rfl) ?_
  exact ev_ri (show zcode 103 54 = some (72, 55, 0, 0, []) by decide +kernel)
/-! 104: TwoWayWall$Rows.addWord(ILTwoWayWall$Tongue;IZ)I -/
theorem e104 {T : zT} {V : zM} {q0 : Int} {x1 : Int} {q2 : Int} {x3 : Int} {x4 : Int} : zcall 104 [(2, q0), (0, x1), (2, q2), (0, x3), (0, x4)] T V = ev 104 0 [(2, q0), (0, x1), (2, q2), (0, x3), (0, x4), (9, 0), (9, 0), (9, 0)] [] T V := rfl
theorem b104_0 {T : zT} {V : zM} {q0 : Int} {x1 : Int} {q2 : Int} {x3 : Int} {x4 : Int} (h1 : zTongue T q2) (h2 : (0 : Int) ≤ x3 ∧ x3 < 8) : ev 104 0 [(2, q0), (0, x1), (2, q2), (0, x3), (0, x4), (9, 0), (9, 0), (9, 0)] [] T V = ev 104 14 [(2, q0), (0, x1), (2, q2), (0, x3), (0, x4), (0, (V (q2 + 4) x3)), (0, x1), (0, 0)] [] T V := by
  refine Eq.trans (ev_lda (show zcode 104 0 = some (6, 1, 2, 0, []) by decide +kernel) rfl (by decide)) ?_
  refine Eq.trans (ev_gq (show zcode 104 1 = some (56, 4, 9, 3, []) by decide +kernel) h1.o h1.p3) ?_
  refine Eq.trans (ev_ldi (show zcode 104 4 = some (4, 5, 3, 0, []) by decide +kernel) rfl) ?_
  refine Eq.trans (ev_ia (show zcode 104 5 = some (60, 6, 0, 0, []) by decide +kernel) h1.a4 h2) ?_
  refine Eq.trans (ev_sti (show zcode 104 6 = some (7, 8, 5, 0, []) by decide +kernel) ⟨show 5 < 8 by decide, Or.inr (show ¬ (0 : Nat) = 1 by decide)⟩) ?_
  refine Eq.trans (ev_ldi (show zcode 104 8 = some (4, 9, 1, 0, []) by decide +kernel) rfl) ?_
  refine Eq.trans (ev_sti (show zcode 104 9 = some (7, 11, 6, 0, []) by decide +kernel) ⟨show 6 < 8 by decide, Or.inr (show ¬ (0 : Nat) = 1 by decide)⟩) ?_
  refine Eq.trans (ev_ci (show zcode 104 11 = some (0, 12, 0, 0, []) by decide +kernel) (by decide)) ?_
  exact ev_sti (show zcode 104 12 = some (7, 14, 7, 0, []) by decide +kernel) ⟨show 7 < 8 by decide, Or.inr (show ¬ (0 : Nat) = 1 by decide)⟩
theorem b104_14 {T : zT} {V : zM} {q0 : Int} {x1 : Int} {q2 : Int} {x3 : Int} {x4 : Int} {x5 : Int} {x6 : Int} {x7 : Int} : ev 104 14 [(2, q0), (0, x1), (2, q2), (0, x3), (0, x4), (0, x5), (0, x6), (0, x7)] [] T V = if x5 ≤ x7 then ev 104 57 [(2, q0), (0, x1), (2, q2), (0, x3), (0, x4), (0, x5), (0, x6), (0, x7)] [] T V else ev 104 21 [(2, q0), (0, x1), (2, q2), (0, x3), (0, x4), (0, x5), (0, x6), (0, x7)] [] T V := by
  refine Eq.trans (ev_ldi (show zcode 104 14 = some (4, 16, 7, 0, []) by decide +kernel) rfl) ?_
  refine Eq.trans (ev_ldi (show zcode 104 16 = some (4, 18, 5, 0, []) by decide +kernel) rfl) ?_
  exact ev_cge (show zcode 104 18 = some (49, 21, 57, 0, []) by decide +kernel)
theorem b104_21 {T : zT} {V : zM} {q0 : Int} {x1 : Int} {q2 : Int} {x3 : Int} {x4 : Int} {x5 : Int} {x6 : Int} {x7 : Int} : ev 104 21 [(2, q0), (0, x1), (2, q2), (0, x3), (0, x4), (0, x5), (0, x6), (0, x7)] [] T V = if x4 = 0 then ev 104 41 [(2, q0), (0, x1), (2, q2), (0, x3), (0, x4), (0, x5), (0, x6), (0, x7)] [(0, x3), (2, q2), (0, x6), (2, q0)] T V else ev 104 31 [(2, q0), (0, x1), (2, q2), (0, x3), (0, x4), (0, x5), (0, x6), (0, x7)] [(0, x3), (2, q2), (0, x6), (2, q0)] T V := by
  refine Eq.trans (ev_lda (show zcode 104 21 = some (6, 22, 0, 0, []) by decide +kernel) rfl (by decide)) ?_
  refine Eq.trans (ev_ldi (show zcode 104 22 = some (4, 24, 6, 0, []) by decide +kernel) rfl) ?_
  refine Eq.trans (ev_lda (show zcode 104 24 = some (6, 25, 2, 0, []) by decide +kernel) rfl (by decide)) ?_
  refine Eq.trans (ev_ldi (show zcode 104 25 = some (4, 26, 3, 0, []) by decide +kernel) rfl) ?_
  refine Eq.trans (ev_ldi (show zcode 104 26 = some (4, 28, 4, 0, []) by decide +kernel) rfl) ?_
  exact ev_eq (show zcode 104 28 = some (40, 31, 41, 0, []) by decide +kernel)
theorem b104_31 {T : zT} {V : zM} {q0 : Int} {x1 : Int} {q2 : Int} {x3 : Int} {x4 : Int} {x5 : Int} {x6 : Int} {x7 : Int} {p0 : Int} {y1 : Int} {p2 : Int} {y3 : Int} (h1 : -2147483648 ≤ (x5 - 1) ∧ (x5 - 1) ≤ 2147483647) (h2 : -2147483648 ≤ ((x5 - 1) - x7) ∧ ((x5 - 1) - x7) ≤ 2147483647) : ev 104 31 [(2, q0), (0, x1), (2, q2), (0, x3), (0, x4), (0, x5), (0, x6), (0, x7)] [(0, y3), (2, p2), (0, y1), (2, p0)] T V = ev 104 43 [(2, q0), (0, x1), (2, q2), (0, x3), (0, x4), (0, x5), (0, x6), (0, x7)] [(0, ((x5 - 1) - x7)), (0, y3), (2, p2), (0, y1), (2, p0)] T V := by
  refine Eq.trans (ev_ldi (show zcode 104 31 = some (4, 33, 5, 0, []) by decide +kernel) rfl) ?_
  refine Eq.trans (ev_ci (show zcode 104 33 = some (0, 34, 0, 1, []) by decide +kernel) (by decide)) ?_
  refine Eq.trans (ev_sub (show zcode 104 34 = some (12, 35, 0, 0, []) by decide +kernel) h1) ?_
  refine Eq.trans (ev_ldi (show zcode 104 35 = some (4, 37, 7, 0, []) by decide +kernel) rfl) ?_
  refine Eq.trans (ev_sub (show zcode 104 37 = some (12, 38, 0, 0, []) by decide +kernel) h2) ?_
  exact ev_goto (show zcode 104 38 = some (53, 41, 43, 0, []) by decide +kernel)
theorem b104_41 {T : zT} {V : zM} {q0 : Int} {x1 : Int} {q2 : Int} {x3 : Int} {x4 : Int} {x5 : Int} {x6 : Int} {x7 : Int} {p0 : Int} {y1 : Int} {p2 : Int} {y3 : Int} : ev 104 41 [(2, q0), (0, x1), (2, q2), (0, x3), (0, x4), (0, x5), (0, x6), (0, x7)] [(0, y3), (2, p2), (0, y1), (2, p0)] T V = ev 104 43 [(2, q0), (0, x1), (2, q2), (0, x3), (0, x4), (0, x5), (0, x6), (0, x7)] [(0, x7), (0, y3), (2, p2), (0, y1), (2, p0)] T V := by
  exact ev_ldi (show zcode 104 41 = some (4, 43, 7, 0, []) by decide +kernel) rfl
theorem b104_43 {T : zT} {V : zM} {q0 : Int} {x1 : Int} {q2 : Int} {x3 : Int} {x4 : Int} {x5 : Int} {x6 : Int} {x7 : Int} {p0 : Int} {y1 : Int} {p2 : Int} {y3 : Int} {y4 : Int} (h1 : zTongue T p2) : ev 104 43 [(2, q0), (0, x1), (2, q2), (0, x3), (0, x4), (0, x5), (0, x6), (0, x7)] [(0, y4), (0, y3), (2, p2), (0, y1), (2, p0)] T V = (zcall 76 [(2, p2), (0, y3), (0, y4)] T V).bind fun x => ev 104 46 [(2, q0), (0, x1), (2, q2), (0, x3), (0, x4), (0, x5), (0, x6), (0, x7)] (z_push x.1 [(0, y1), (2, p0)]) x.2.1 x.2.2 := by
  exact ev_cvirt (show zcode 104 43 = some (76, 46, 76, 3, [9]) by decide +kernel) (args := [(0, y3), (0, y4)]) (rest := [(0, y1), (2, p0)]) rfl h1.o rfl (show 2 ≤ 8 by decide) ⟨by decide, show 3 ≤ 3 by decide⟩
theorem b104_46 {T : zT} {V : zM} {q0 : Int} {x1 : Int} {q2 : Int} {x3 : Int} {x4 : Int} {x5 : Int} {x6 : Int} {x7 : Int} {p0 : Int} {y1 : Int} {y2 : Int} (h1 : zRows T p0) : ev 104 46 [(2, q0), (0, x1), (2, q2), (0, x3), (0, x4), (0, x5), (0, x6), (0, x7)] [(0, y2), (0, y1), (2, p0)] T V = (zcall 105 [(2, p0), (0, y1), (0, y2)] T V).bind fun x => ev 104 49 [(2, q0), (0, x1), (2, q2), (0, x3), (0, x4), (0, x5), (0, x6), (0, x7)] (z_push x.1 []) x.2.1 x.2.2 := by
  exact ev_cvirt (show zcode 104 46 = some (76, 49, 105, 3, [5]) by decide +kernel) (args := [(0, y1), (0, y2)]) (rest := []) rfl h1.o rfl (show 0 ≤ 8 by decide) ⟨by decide, show 3 ≤ 5 by decide⟩
theorem b104_49 {T : zT} {V : zM} {q0 : Int} {x1 : Int} {q2 : Int} {x3 : Int} {x4 : Int} {x5 : Int} {x6 : Int} {x7 : Int} {y0 : Int} (h1 : -2147483648 ≤ (x7 + 1) ∧ (x7 + 1) ≤ 2147483647) : ev 104 49 [(2, q0), (0, x1), (2, q2), (0, x3), (0, x4), (0, x5), (0, x6), (0, x7)] [(0, y0)] T V = ev 104 14 [(2, q0), (0, x1), (2, q2), (0, x3), (0, x4), (0, x5), (0, y0), (0, (x7 + 1))] [] T V := by
  refine Eq.trans (ev_sti (show zcode 104 49 = some (7, 51, 6, 0, []) by decide +kernel) ⟨show 6 < 8 by decide, Or.inr (show ¬ (0 : Nat) = 1 by decide)⟩) ?_
  refine Eq.trans (ev_inc (show zcode 104 51 = some (10, 54, 7, 1, []) by decide +kernel) rfl h1 (Or.inr (show ¬ (0 : Nat) = 1 by decide))) ?_
  exact ev_goto (show zcode 104 54 = some (53, 57, 14, 0, []) by decide +kernel)
theorem b104_57 {T : zT} {V : zM} {q0 : Int} {x1 : Int} {q2 : Int} {x3 : Int} {x4 : Int} {x5 : Int} {x6 : Int} {x7 : Int} : ev 104 57 [(2, q0), (0, x1), (2, q2), (0, x3), (0, x4), (0, x5), (0, x6), (0, x7)] [] T V = some ((0, x6), T, V) := by
  refine Eq.trans (ev_ldi (show zcode 104 57 = some (4, 59, 6, 0, []) by decide +kernel) rfl) ?_
  exact ev_ri (show zcode 104 59 = some (72, 60, 0, 0, []) by decide +kernel)
/-! 105: TwoWayWall$Rows.childOf(II)I -/
theorem e105 {T : zT} {V : zM} {q0 : Int} {x1 : Int} {x2 : Int} : zcall 105 [(2, q0), (0, x1), (0, x2)] T V = ev 105 0 [(2, q0), (0, x1), (0, x2), (9, 0), (9, 0)] [] T V := rfl
theorem b105_0 {T : zT} {V : zM} {q0 : Int} {x1 : Int} {x2 : Int} (h1 : zRows T q0) (h2 : (0 : Int) ≤ x1 ∧ x1 < 196) : ev 105 0 [(2, q0), (0, x1), (0, x2), (9, 0), (9, 0)] [] T V = ev 105 10 [(2, q0), (0, x1), (0, x2), (0, (V (q0 + 2) x1)), (0, 0)] [] T V := by
  refine Eq.trans (ev_lda (show zcode 105 0 = some (6, 1, 0, 0, []) by decide +kernel) rfl (by decide)) ?_
  refine Eq.trans (ev_gq (show zcode 105 1 = some (56, 4, 5, 1, []) by decide +kernel) h1.o h1.p1) ?_
  refine Eq.trans (ev_ldi (show zcode 105 4 = some (4, 5, 1, 0, []) by decide +kernel) rfl) ?_
  refine Eq.trans (ev_ia (show zcode 105 5 = some (60, 6, 0, 0, []) by decide +kernel) h1.a2 h2) ?_
  refine Eq.trans (ev_sti (show zcode 105 6 = some (7, 7, 3, 0, []) by decide +kernel) ⟨show 3 < 5 by decide, Or.inr (show ¬ (0 : Nat) = 1 by decide)⟩) ?_
  refine Eq.trans (ev_ci (show zcode 105 7 = some (0, 8, 0, 0, []) by decide +kernel) (by decide)) ?_
  exact ev_sti (show zcode 105 8 = some (7, 10, 4, 0, []) by decide +kernel) ⟨show 4 < 5 by decide, Or.inr (show ¬ (0 : Nat) = 1 by decide)⟩
theorem b105_10 {T : zT} {V : zM} {q0 : Int} {x1 : Int} {x2 : Int} {x3 : Int} {x4 : Int} : ev 105 10 [(2, q0), (0, x1), (0, x2), (0, x3), (0, x4)] [] T V = if 8 ≤ x4 then ev 105 47 [(2, q0), (0, x1), (0, x2), (0, x3), (0, x4)] [] T V else ev 105 17 [(2, q0), (0, x1), (0, x2), (0, x3), (0, x4)] [] T V := by
  refine Eq.trans (ev_ldi (show zcode 105 10 = some (4, 12, 4, 0, []) by decide +kernel) rfl) ?_
  refine Eq.trans (ev_ci (show zcode 105 12 = some (0, 14, 0, 8, []) by decide +kernel) (by decide)) ?_
  exact ev_cge (show zcode 105 14 = some (49, 17, 47, 0, []) by decide +kernel)
theorem b105_17 {T : zT} {V : zM} {q0 : Int} {x1 : Int} {x2 : Int} {x3 : Int} {x4 : Int} : ev 105 17 [(2, q0), (0, x1), (0, x2), (0, x3), (0, x4)] [] T V = if x3 = (-1) then ev 105 47 [(2, q0), (0, x1), (0, x2), (0, x3), (0, x4)] [] T V else ev 105 22 [(2, q0), (0, x1), (0, x2), (0, x3), (0, x4)] [] T V := by
  refine Eq.trans (ev_ldi (show zcode 105 17 = some (4, 18, 3, 0, []) by decide +kernel) rfl) ?_
  refine Eq.trans (ev_ci (show zcode 105 18 = some (0, 19, 0, (-1), []) by decide +kernel) (by decide)) ?_
  exact ev_ceq (show zcode 105 19 = some (46, 22, 47, 0, []) by decide +kernel)
theorem b105_22 {T : zT} {V : zM} {q0 : Int} {x1 : Int} {x2 : Int} {x3 : Int} {x4 : Int} (h1 : zRows T q0) (h2 : (0 : Int) ≤ x3 ∧ x3 < 196) : ev 105 22 [(2, q0), (0, x1), (0, x2), (0, x3), (0, x4)] [] T V = if (V (q0 + 1) x3) = x2 then ev 105 32 [(2, q0), (0, x1), (0, x2), (0, x3), (0, x4)] [] T V else ev 105 34 [(2, q0), (0, x1), (0, x2), (0, x3), (0, x4)] [] T V := by
  refine Eq.trans (ev_lda (show zcode 105 22 = some (6, 23, 0, 0, []) by decide +kernel) rfl (by decide)) ?_
  refine Eq.trans (ev_gq (show zcode 105 23 = some (56, 26, 5, 0, []) by decide +kernel) h1.o h1.p0) ?_
  refine Eq.trans (ev_ldi (show zcode 105 26 = some (4, 27, 3, 0, []) by decide +kernel) rfl) ?_
  refine Eq.trans (ev_ia (show zcode 105 27 = some (60, 28, 0, 0, []) by decide +kernel) h1.a1 h2) ?_
  refine Eq.trans (ev_ldi (show zcode 105 28 = some (4, 29, 2, 0, []) by decide +kernel) rfl) ?_
  exact ev_cne (show zcode 105 29 = some (47, 32, 34, 0, []) by decide +kernel)
theorem b105_32 {T : zT} {V : zM} {q0 : Int} {x1 : Int} {x2 : Int} {x3 : Int} {x4 : Int} : ev 105 32 [(2, q0), (0, x1), (0, x2), (0, x3), (0, x4)] [] T V = some ((0, x3), T, V) := by
  refine Eq.trans (ev_ldi (show zcode 105 32 = some (4, 33, 3, 0, []) by decide +kernel) rfl) ?_
  exact ev_ri (show zcode 105 33 = some (72, 34, 0, 0, []) by decide +kernel)
theorem b105_34 {T : zT} {V : zM} {q0 : Int} {x1 : Int} {x2 : Int} {x3 : Int} {x4 : Int} (h1 : zRows T q0) (h2 : (0 : Int) ≤ x3 ∧ x3 < 196) (h3 : -2147483648 ≤ (x4 + 1) ∧ (x4 + 1) ≤ 2147483647) : ev 105 34 [(2, q0), (0, x1), (0, x2), (0, x3), (0, x4)] [] T V = ev 105 10 [(2, q0), (0, x1), (0, x2), (0, (V (q0 + 3) x3)), (0, (x4 + 1))] [] T V := by
  refine Eq.trans (ev_lda (show zcode 105 34 = some (6, 35, 0, 0, []) by decide +kernel) rfl (by decide)) ?_
  refine Eq.trans (ev_gq (show zcode 105 35 = some (56, 38, 5, 2, []) by decide +kernel) h1.o h1.p2) ?_
  refine Eq.trans (ev_ldi (show zcode 105 38 = some (4, 39, 3, 0, []) by decide +kernel) rfl) ?_
  refine Eq.trans (ev_ia (show zcode 105 39 = some (60, 40, 0, 0, []) by decide +kernel) h1.a3 h2) ?_
  refine Eq.trans (ev_sti (show zcode 105 40 = some (7, 41, 3, 0, []) by decide +kernel) ⟨show 3 < 5 by decide, Or.inr (show ¬ (0 : Nat) = 1 by decide)⟩) ?_
  refine Eq.trans (ev_inc (show zcode 105 41 = some (10, 44, 4, 1, []) by decide +kernel) rfl h3 (Or.inr (show ¬ (0 : Nat) = 1 by decide))) ?_
  exact ev_goto (show zcode 105 44 = some (53, 47, 10, 0, []) by decide +kernel)
theorem b105_47 {T : zT} {V : zM} {q0 : Int} {x1 : Int} {x2 : Int} {x3 : Int} {x4 : Int} (h1 : zRows T q0) : ev 105 47 [(2, q0), (0, x1), (0, x2), (0, x3), (0, x4)] [] T V = (zcall 103 [(2, q0), (0, x2)] T V).bind fun x => ev 105 52 [(2, q0), (0, x1), (0, x2), (0, x3), (0, x4)] (z_push x.1 []) x.2.1 x.2.2 := by
  refine Eq.trans (ev_lda (show zcode 105 47 = some (6, 48, 0, 0, []) by decide +kernel) rfl (by decide)) ?_
  refine Eq.trans (ev_ldi (show zcode 105 48 = some (4, 49, 2, 0, []) by decide +kernel) rfl) ?_
  exact ev_cvirt (show zcode 105 49 = some (76, 52, 103, 2, [5]) by decide +kernel) (args := [(0, x2)]) (rest := []) rfl h1.o rfl (show 0 ≤ 8 by decide) ⟨by decide, show 2 ≤ 3 by decide⟩
theorem b105_52 {T : zT} {V : zM} {q0 : Int} {x1 : Int} {x2 : Int} {x3 : Int} {x4 : Int} {y0 : Int} : ev 105 52 [(2, q0), (0, x1), (0, x2), (0, x3), (0, x4)] [(0, y0)] T V = if y0 = x1 then ev 105 81 [(2, q0), (0, x1), (0, x2), (0, x3), (0, y0)] [] T V else ev 105 60 [(2, q0), (0, x1), (0, x2), (0, x3), (0, y0)] [] T V := by
  refine Eq.trans (ev_sti (show zcode 105 52 = some (7, 54, 4, 0, []) by decide +kernel) ⟨show 4 < 5 by decide, Or.inr (show ¬ (0 : Nat) = 1 by decide)⟩) ?_
  refine Eq.trans (ev_ldi (show zcode 105 54 = some (4, 56, 4, 0, []) by decide +kernel) rfl) ?_
  refine Eq.trans (ev_ldi (show zcode 105 56 = some (4, 57, 1, 0, []) by decide +kernel) rfl) ?_
  exact ev_ceq (show zcode 105 57 = some (46, 60, 81, 0, []) by decide +kernel)
theorem b105_60 {T : zT} {V : zM} {q0 : Int} {x1 : Int} {x2 : Int} {x3 : Int} {x4 : Int} (h1 : zRows T q0) (h2 : (0 : Int) ≤ x1 ∧ x1 < 196) (h3 : (0 : Int) ≤ x4 ∧ x4 < 196) : ev 105 60 [(2, q0), (0, x1), (0, x2), (0, x3), (0, x4)] [] T V = ev 105 81 [(2, q0), (0, x1), (0, x2), (0, x3), (0, x4)] [] T (zwr (zwr V (q0 + 3) x4 (V (q0 + 2) x1)) (q0 + 2) x1 x4) := by
  refine Eq.trans (ev_lda (show zcode 105 60 = some (6, 61, 0, 0, []) by decide +kernel) rfl (by decide)) ?_
  refine Eq.trans (ev_gq (show zcode 105 61 = some (56, 64, 5, 2, []) by decide +kernel) h1.o h1.p2) ?_
  refine Eq.trans (ev_ldi (show zcode 105 64 = some (4, 66, 4, 0, []) by decide +kernel) rfl) ?_
  refine Eq.trans (ev_lda (show zcode 105 66 = some (6, 67, 0, 0, []) by decide +kernel) rfl (by decide)) ?_
  refine Eq.trans (ev_gq (show zcode 105 67 = some (56, 70, 5, 1, []) by decide +kernel) h1.o h1.p1) ?_
  refine Eq.trans (ev_ldi (show zcode 105 70 = some (4, 71, 1, 0, []) by decide +kernel) rfl) ?_
  refine Eq.trans (ev_ia (show zcode 105 71 = some (60, 72, 0, 0, []) by decide +kernel) h1.a2 h2) ?_
  refine Eq.trans (ev_is (show zcode 105 72 = some (64, 73, 0, 0, []) by decide +kernel) h1.a3 h3) ?_
  refine Eq.trans (ev_lda (show zcode 105 73 = some (6, 74, 0, 0, []) by decide +kernel) rfl (by decide)) ?_
  refine Eq.trans (ev_gq (show zcode 105 74 = some (56, 77, 5, 1, []) by decide +kernel) h1.o h1.p1) ?_
  refine Eq.trans (ev_ldi (show zcode 105 77 = some (4, 78, 1, 0, []) by decide +kernel) rfl) ?_
  refine Eq.trans (ev_ldi (show zcode 105 78 = some (4, 80, 4, 0, []) by decide +kernel) rfl) ?_
  exact ev_is (show zcode 105 80 = some (64, 81, 0, 0, []) by decide +kernel) h1.a2 h2
theorem b105_81 {T : zT} {V : zM} {q0 : Int} {x1 : Int} {x2 : Int} {x3 : Int} {x4 : Int} : ev 105 81 [(2, q0), (0, x1), (0, x2), (0, x3), (0, x4)] [] T V = some ((0, x4), T, V) := by
  refine Eq.trans (ev_ldi (show zcode 105 81 = some (4, 83, 4, 0, []) by decide +kernel) rfl) ?_
  exact ev_ri (show zcode 105 83 = some (72, 84, 0, 0, []) by decide +kernel)
/-! 106: TwoWayWall$Crossing.begin()V -/
theorem e106 {T : zT} {V : zM}  : zcall 106 [(2, 78)] T V = ev 106 0 [(2, 78), (9, 0), (9, 0)] [] T V := rfl
theorem b106_0 {T : zT} {V : zM} {n1 : Int} (hS : zStr T) (h1 : -2147483648 ≤ ((V 79 5) * (V 87 5)) ∧ ((V 79 5) * (V 87 5)) ≤ 2147483647) (h2 : zAr T (zp T 78 4) 0 n1) : ev 106 0 [(2, 78), (9, 0), (9, 0)] [] T V = if ((V 79 5) * (V 87 5)) ≤ n1 then ev 106 47 [(2, 78), (0, ((V 79 5) * (V 87 5))), (9, 0)] [] T V else ev 106 25 [(2, 78), (0, ((V 79 5) * (V 87 5))), (9, 0)] [] T V := by
  refine Eq.trans (ev_lda (show zcode 106 0 = some (6, 1, 0, 0, []) by decide +kernel) rfl (by decide)) ?_
  refine Eq.trans (ev_gq (show zcode 106 1 = some (56, 4, 0, 0, []) by decide +kernel) (so78 hS) (sp78_0 hS)) ?_
  refine Eq.trans (ev_gi (show zcode 106 4 = some (55, 7, 5, 5, []) by decide +kernel) (so79 hS)) ?_
  refine Eq.trans (ev_lda (show zcode 106 7 = some (6, 8, 0, 0, []) by decide +kernel) rfl (by decide)) ?_
  refine Eq.trans (ev_gq (show zcode 106 8 = some (56, 11, 0, 1, []) by decide +kernel) (so78 hS) (sp78_1 hS)) ?_
  refine Eq.trans (ev_gi (show zcode 106 11 = some (55, 14, 5, 5, []) by decide +kernel) (so87 hS)) ?_
  refine Eq.trans (ev_mul (show zcode 106 14 = some (13, 15, 0, 0, []) by decide +kernel) h1) ?_
  refine Eq.trans (ev_sti (show zcode 106 15 = some (7, 16, 1, 0, []) by decide +kernel) ⟨show 1 < 3 by decide, Or.inr (show ¬ (2 : Nat) = 1 by decide)⟩) ?_
  refine Eq.trans (ev_lda (show zcode 106 16 = some (6, 17, 0, 0, []) by decide +kernel) rfl (by decide)) ?_
  refine Eq.trans (ev_gr (show zcode 106 17 = some (56, 20, 0, 4, []) by decide +kernel) (so78 hS)) ?_
  refine Eq.trans (ev_len (show zcode 106 20 = some (68, 21, 0, 0, []) by decide +kernel) h2 (by decide)) ?_
  refine Eq.trans (ev_ldi (show zcode 106 21 = some (4, 22, 1, 0, []) by decide +kernel) rfl) ?_
  exact ev_cge (show zcode 106 22 = some (49, 25, 47, 0, []) by decide +kernel)
theorem b106_25 {T : zT} {V : zM} {x1 : Int} (h1 : -2147483648 ≤ (2 * x1) ∧ (2 * x1) ≤ 2147483647) (h2 : (0 : Int) ≤ (min (2 * x1) 38416) ∧ (min (2 * x1) 38416) ≤ 1000000) : ev 106 25 [(2, 78), (0, x1), (9, 0)] [] T V = ev 106 36 [(2, 78), (0, x1), (9, 0)] [(2, (zsz T)), (2, 78)] (zn T 0 (min (2 * x1) 38416)) (zs V (zsz T) (fun _ => 0)) := by
  refine Eq.trans (ev_lda (show zcode 106 25 = some (6, 26, 0, 0, []) by decide +kernel) rfl (by decide)) ?_
  refine Eq.trans (ev_ci (show zcode 106 26 = some (0, 27, 0, 2, []) by decide +kernel) (by decide)) ?_
  refine Eq.trans (ev_ldi (show zcode 106 27 = some (4, 28, 1, 0, []) by decide +kernel) rfl) ?_
  refine Eq.trans (ev_mul (show zcode 106 28 = some (13, 29, 0, 0, []) by decide +kernel) h1) ?_
  refine Eq.trans (ev_ci (show zcode 106 29 = some (0, 31, 0, 38416, []) by decide +kernel) (by decide)) ?_
  refine Eq.trans (ev_min (show zcode 106 31 = some (85, 34, 0, 0, []) by decide +kernel) (show 1 ≤ 8 by decide)) ?_
  exact ev_narr (show zcode 106 34 = some (70, 36, 0, 0, []) by decide +kernel) h2
theorem b106_36 {T : zT} {V : zM} {x1 : Int} {p1 : Int} (hS : zStr T)  : ev 106 36 [(2, 78), (0, x1), (9, 0)] [(2, p1), (2, 78)] T V = ev 106 39 [(2, 78), (0, x1), (9, 0)] [] (zqw T 78 4 p1) V := by
  exact ev_pr (show zcode 106 36 = some (59, 39, 0, 4, []) by decide +kernel) (so78 hS)
theorem b106_39 {T : zT} {V : zM} {x1 : Int} (hS : zStr T)  : ev 106 39 [(2, 78), (0, x1), (9, 0)] [] T V = (zcall 18 [(2, (zp T 78 4)), (0, (-1))] T V).bind fun x => ev 106 47 [(2, 78), (0, x1), (9, 0)] (z_push x.1 []) x.2.1 x.2.2 := by
  refine Eq.trans (ev_lda (show zcode 106 39 = some (6, 40, 0, 0, []) by decide +kernel) rfl (by decide)) ?_
  refine Eq.trans (ev_gr (show zcode 106 40 = some (56, 43, 0, 4, []) by decide +kernel) (so78 hS)) ?_
  refine Eq.trans (ev_ci (show zcode 106 43 = some (0, 44, 0, (-1), []) by decide +kernel) (by decide)) ?_
  exact ev_cstat (show zcode 106 44 = some (74, 47, 18, 2, []) by decide +kernel) (args := [(2, (zp T 78 4)), (0, (-1))]) (rest := []) rfl rfl (show 0 ≤ 8 by decide) ⟨by decide, show 2 ≤ 4 by decide⟩
theorem b106_47 {T : zT} {V : zM} {x1 : Int} {n1 : Int} (hS : zStr T) (h1 : zLayer T (zp T 78 2) n1) : ev 106 47 [(2, 78), (0, x1), (9, 0)] [] T V = (zcall 107 [(2, (zp T 78 2)), (0, 0), (0, 0)] T (zwr V (zp T 78 2) 0 0)).bind fun x => ev 106 64 [(2, 78), (0, x1), (9, 0)] (z_push x.1 []) x.2.1 x.2.2 := by
  refine Eq.trans (ev_lda (show zcode 106 47 = some (6, 48, 0, 0, []) by decide +kernel) rfl (by decide)) ?_
  refine Eq.trans (ev_gr (show zcode 106 48 = some (56, 51, 0, 2, []) by decide +kernel) (so78 hS)) ?_
  refine Eq.trans (ev_ci (show zcode 106 51 = some (0, 52, 0, 0, []) by decide +kernel) (by decide)) ?_
  refine Eq.trans (ev_pi (show zcode 106 52 = some (57, 55, 1, 0, []) by decide +kernel) h1.o) ?_
  refine Eq.trans (ev_lda (show zcode 106 55 = some (6, 56, 0, 0, []) by decide +kernel) rfl (by decide)) ?_
  refine Eq.trans (ev_gr (show zcode 106 56 = some (56, 59, 0, 2, []) by decide +kernel) (so78 hS)) ?_
  refine Eq.trans (ev_ci (show zcode 106 59 = some (0, 60, 0, 0, []) by decide +kernel) (by decide)) ?_
  refine Eq.trans (ev_ci (show zcode 106 60 = some (0, 61, 0, 0, []) by decide +kernel) (by decide)) ?_
  exact ev_cvirt (show zcode 106 61 = some (76, 64, 107, 3, [1]) by decide +kernel) (args := [(0, 0), (0, 0)]) (rest := []) rfl h1.o rfl (show 0 ≤ 8 by decide) ⟨by decide, show 3 ≤ 4 by decide⟩
theorem b106_64 {T : zT} {V : zM} {x1 : Int} {y0 : Int} {n1 : Int} (hS : zStr T) (h1 : zLayer T (zp T 78 2) n1) : ev 106 64 [(2, 78), (0, x1), (9, 0)] [(0, y0)] T V = (zcall 112 [(2, (zp T 78 2)), (0, y0), (1, 1), (0, 0), (1, 0), (1, 0), (0, 0)] T V).bind fun x => ev 106 78 [(2, 78), (0, x1), (0, y0)] (z_push x.1 []) x.2.1 x.2.2 := by
  refine Eq.trans (ev_sti (show zcode 106 64 = some (7, 65, 2, 0, []) by decide +kernel) ⟨show 2 < 3 by decide, Or.inr (show ¬ (0 : Nat) = 1 by decide)⟩) ?_
  refine Eq.trans (ev_lda (show zcode 106 65 = some (6, 66, 0, 0, []) by decide +kernel) rfl (by decide)) ?_
  refine Eq.trans (ev_gr (show zcode 106 66 = some (56, 69, 0, 2, []) by decide +kernel) (so78 hS)) ?_
  refine Eq.trans (ev_ldi (show zcode 106 69 = some (4, 70, 2, 0, []) by decide +kernel) rfl) ?_
  refine Eq.trans (ev_cl (show zcode 106 70 = some (1, 71, 0, 1, []) by decide +kernel) (by decide)) ?_
  refine Eq.trans (ev_ci (show zcode 106 71 = some (0, 72, 0, 0, []) by decide +kernel) (by decide)) ?_
  refine Eq.trans (ev_cl (show zcode 106 72 = some (1, 73, 0, 0, []) by decide +kernel) (by decide)) ?_
  refine Eq.trans (ev_cl (show zcode 106 73 = some (1, 74, 0, 0, []) by decide +kernel) (by decide)) ?_
  refine Eq.trans (ev_ci (show zcode 106 74 = some (0, 75, 0, 0, []) by decide +kernel) (by decide)) ?_
  exact ev_cvirt (show zcode 106 75 = some (76, 78, 112, 7, [1]) by decide +kernel) (args := [(0, y0), (1, 1), (0, 0), (1, 0), (1, 0), (0, 0)]) (rest := []) rfl h1.o rfl (show 0 ≤ 8 by decide) ⟨by decide, show 10 ≤ 11 by decide⟩
theorem b106_78 {T : zT} {V : zM} {x1 : Int} {x2 : Int} : ev 106 78 [(2, 78), (0, x1), (0, x2)] [] T V = some ((9, 0), T, V) := by
  exact ev_rn (show zcode 106 78 = some (73, 79, 0, 0, []) by decide +kernel)
/-! 107: TwoWayWall$Layer.open(II)I -/
theorem e107 {T : zT} {V : zM} {q0 : Int} {x1 : Int} {x2 : Int} : zcall 107 [(2, q0), (0, x1), (0, x2)] T V = ev 107 0 [(2, q0), (0, x1), (0, x2), (9, 0)] [] T V := rfl
theorem b107_0 {T : zT} {V : zM} {q0 : Int} {x1 : Int} {x2 : Int} {n1 : Int} (h1 : zLayer T q0 n1) : ev 107 0 [(2, q0), (0, x1), (0, x2), (9, 0)] [] T V = if (V q0 0) < n1 then ev 107 22 [(2, q0), (0, x1), (0, x2), (9, 0)] [] T V else ev 107 12 [(2, q0), (0, x1), (0, x2), (9, 0)] [] T V := by
  refine Eq.trans (ev_lda (show zcode 107 0 = some (6, 1, 0, 0, []) by decide +kernel) rfl (by decide)) ?_
  refine Eq.trans (ev_gi (show zcode 107 1 = some (55, 4, 1, 0, []) by decide +kernel) h1.o) ?_
  refine Eq.trans (ev_lda (show zcode 107 4 = some (6, 5, 0, 0, []) by decide +kernel) rfl (by decide)) ?_
  refine Eq.trans (ev_gr (show zcode 107 5 = some (56, 8, 1, 3, []) by decide +kernel) h1.o) ?_
  refine Eq.trans (ev_len (show zcode 107 8 = some (68, 9, 0, 0, []) by decide +kernel) h1.a3 (by decide)) ?_
  exact ev_clt (show zcode 107 9 = some (48, 12, 22, 0, []) by decide +kernel)
theorem b107_12 {T : zT} {V : zM} {q0 : Int} {x1 : Int} {x2 : Int} {n1 : Int} (h1 : zLayer T q0 n1) (h2 : -2147483648 ≤ (2 * (V q0 0)) ∧ (2 * (V q0 0)) ≤ 2147483647) : ev 107 12 [(2, q0), (0, x1), (0, x2), (9, 0)] [] T V = (zcall 108 [(2, q0), (0, (2 * (V q0 0)))] T V).bind fun x => ev 107 22 [(2, q0), (0, x1), (0, x2), (9, 0)] (z_push x.1 []) x.2.1 x.2.2 := by
  refine Eq.trans (ev_lda (show zcode 107 12 = some (6, 13, 0, 0, []) by decide +kernel) rfl (by decide)) ?_
  refine Eq.trans (ev_ci (show zcode 107 13 = some (0, 14, 0, 2, []) by decide +kernel) (by decide)) ?_
  refine Eq.trans (ev_lda (show zcode 107 14 = some (6, 15, 0, 0, []) by decide +kernel) rfl (by decide)) ?_
  refine Eq.trans (ev_gi (show zcode 107 15 = some (55, 18, 1, 0, []) by decide +kernel) h1.o) ?_
  refine Eq.trans (ev_mul (show zcode 107 18 = some (13, 19, 0, 0, []) by decide +kernel) h2) ?_
  exact ev_cvirt (show zcode 107 19 = some (76, 22, 108, 2, [1]) by decide +kernel) (args := [(0, (2 * (V q0 0)))]) (rest := []) rfl h1.o rfl (show 0 ≤ 8 by decide) ⟨by decide, show 2 ≤ 2 by decide⟩
theorem b107_22 {T : zT} {V : zM} {q0 : Int} {x1 : Int} {x2 : Int} {n1 : Int} (h1 : zLayer T q0 n1) (h2 : -2147483648 ≤ ((V q0 0) + 1) ∧ ((V q0 0) + 1) ≤ 2147483647) (h3 : (0 : Int) ≤ (V q0 0) ∧ (V q0 0) < n1) : ev 107 22 [(2, q0), (0, x1), (0, x2), (9, 0)] [] T V = (zcall 111 [(2, q0), (0, (V q0 0))] T (zwr (zwr (zwr V q0 0 ((V q0 0) + 1)) (zp T q0 1) (V q0 0) x1) (zp T q0 2) (V q0 0) x2)).bind fun x => ev 107 56 [(2, q0), (0, x1), (0, x2), (0, (V q0 0))] (z_push x.1 []) x.2.1 x.2.2 := by
  refine Eq.trans (ev_lda (show zcode 107 22 = some (6, 23, 0, 0, []) by decide +kernel) rfl (by decide)) ?_
  refine Eq.trans (ev_gi (show zcode 107 23 = some (55, 26, 1, 0, []) by decide +kernel) h1.o) ?_
  refine Eq.trans (ev_sti (show zcode 107 26 = some (7, 27, 3, 0, []) by decide +kernel) ⟨show 3 < 4 by decide, Or.inr (show ¬ (0 : Nat) = 1 by decide)⟩) ?_
  refine Eq.trans (ev_lda (show zcode 107 27 = some (6, 28, 0, 0, []) by decide +kernel) rfl (by decide)) ?_
  refine Eq.trans (ev_dup (show zcode 107 28 = some (36, 29, 0, 0, []) by decide +kernel) (by decide)) ?_
  refine Eq.trans (ev_gi (show zcode 107 29 = some (55, 32, 1, 0, []) by decide +kernel) h1.o) ?_
  refine Eq.trans (ev_ci (show zcode 107 32 = some (0, 33, 0, 1, []) by decide +kernel) (by decide)) ?_
  refine Eq.trans (ev_add (show zcode 107 33 = some (11, 34, 0, 0, []) by decide +kernel) h2) ?_
  refine Eq.trans (ev_pi (show zcode 107 34 = some (57, 37, 1, 0, []) by decide +kernel) h1.o) ?_
  refine Eq.trans (ev_lda (show zcode 107 37 = some (6, 38, 0, 0, []) by decide +kernel) rfl (by decide)) ?_
  refine Eq.trans (ev_gr (show zcode 107 38 = some (56, 41, 1, 1, []) by decide +kernel) h1.o) ?_
  refine Eq.trans (ev_ldi (show zcode 107 41 = some (4, 42, 3, 0, []) by decide +kernel) rfl) ?_
  refine Eq.trans (ev_ldi (show zcode 107 42 = some (4, 43, 1, 0, []) by decide +kernel) rfl) ?_
  refine Eq.trans (ev_is (show zcode 107 43 = some (64, 44, 0, 0, []) by decide +kernel) h1.a1 h3) ?_
  refine Eq.trans (ev_lda (show zcode 107 44 = some (6, 45, 0, 0, []) by decide +kernel) rfl (by decide)) ?_
  refine Eq.trans (ev_gr (show zcode 107 45 = some (56, 48, 1, 2, []) by decide +kernel) h1.o) ?_
  refine Eq.trans (ev_ldi (show zcode 107 48 = some (4, 49, 3, 0, []) by decide +kernel) rfl) ?_
  refine Eq.trans (ev_ldi (show zcode 107 49 = some (4, 50, 2, 0, []) by decide +kernel) rfl) ?_
  refine Eq.trans (ev_is (show zcode 107 50 = some (64, 51, 0, 0, []) by decide +kernel) h1.a2 h3) ?_
  refine Eq.trans (ev_lda (show zcode 107 51 = some (6, 52, 0, 0, []) by decide +kernel) rfl (by decide)) ?_
  refine Eq.trans (ev_ldi (show zcode 107 52 = some (4, 53, 3, 0, []) by decide +kernel) rfl) ?_
  exact ev_cvirt (show zcode 107 53 = some (76, 56, 111, 2, [1]) by decide +kernel) (args := [(0, (V q0 0))]) (rest := []) rfl h1.o rfl (show 0 ≤ 8 by decide) ⟨by decide, show 2 ≤ 2 by decide⟩
theorem b107_56 {T : zT} {V : zM} {q0 : Int} {x1 : Int} {x2 : Int} {x3 : Int} : ev 107 56 [(2, q0), (0, x1), (0, x2), (0, x3)] [] T V = some ((0, x3), T, V) := by
  refine Eq.trans (ev_ldi (show zcode 107 56 = some (4, 57, 3, 0, []) by decide +kernel) rfl) ?_
  exact ev_ri (show zcode 107 57 = some (72, 58, 0, 0, []) by decide +kernel)
/-! 108: TwoWayWall$Layer.grow(I)V -/
theorem e108 {T : zT} {V : zM} {q0 : Int} {x1 : Int} : zcall 108 [(2, q0), (0, x1)] T V = ev 108 0 [(2, q0), (0, x1)] [] T V := rfl
theorem b108_0 {T : zT} {V : zM} {q0 : Int} {x1 : Int} {n1 : Int} (h1 : zLayer T q0 n1) : ev 108 0 [(2, q0), (0, x1)] [] T V = (zcall 109 [(2, (zp T q0 1)), (0, x1)] T V).bind fun x => ev 108 9 [(2, q0), (0, x1)] (z_push x.1 [(2, q0)]) x.2.1 x.2.2 := by
  refine Eq.trans (ev_lda (show zcode 108 0 = some (6, 1, 0, 0, []) by decide +kernel) rfl (by decide)) ?_
  refine Eq.trans (ev_lda (show zcode 108 1 = some (6, 2, 0, 0, []) by decide +kernel) rfl (by decide)) ?_
  refine Eq.trans (ev_gr (show zcode 108 2 = some (56, 5, 1, 1, []) by decide +kernel) h1.o) ?_
  refine Eq.trans (ev_ldi (show zcode 108 5 = some (4, 6, 1, 0, []) by decide +kernel) rfl) ?_
  exact ev_cstat (show zcode 108 6 = some (74, 9, 109, 2, []) by decide +kernel) (args := [(2, (zp T q0 1)), (0, x1)]) (rest := [(2, q0)]) rfl rfl (show 1 ≤ 8 by decide) ⟨by decide, show 2 ≤ 3 by decide⟩
theorem b108_9 {T : zT} {V : zM} {q0 : Int} {x1 : Int} {p0 : Int} {p1 : Int} {n1 : Int} (h1 : zLayer T p0 n1) : ev 108 9 [(2, q0), (0, x1)] [(2, p1), (2, p0)] T V = ev 108 12 [(2, q0), (0, x1)] [] (zqw T p0 1 p1) V := by
  exact ev_pr (show zcode 108 9 = some (59, 12, 1, 1, []) by decide +kernel) h1.o
theorem b108_12 {T : zT} {V : zM} {q0 : Int} {x1 : Int} {n1 : Int} (h1 : zLayer T q0 n1) : ev 108 12 [(2, q0), (0, x1)] [] T V = (zcall 109 [(2, (zp T q0 2)), (0, x1)] T V).bind fun x => ev 108 21 [(2, q0), (0, x1)] (z_push x.1 [(2, q0)]) x.2.1 x.2.2 := by
  refine Eq.trans (ev_lda (show zcode 108 12 = some (6, 13, 0, 0, []) by decide +kernel) rfl (by decide)) ?_
  refine Eq.trans (ev_lda (show zcode 108 13 = some (6, 14, 0, 0, []) by decide +kernel) rfl (by decide)) ?_
  refine Eq.trans (ev_gr (show zcode 108 14 = some (56, 17, 1, 2, []) by decide +kernel) h1.o) ?_
  refine Eq.trans (ev_ldi (show zcode 108 17 = some (4, 18, 1, 0, []) by decide +kernel) rfl) ?_
  exact ev_cstat (show zcode 108 18 = some (74, 21, 109, 2, []) by decide +kernel) (args := [(2, (zp T q0 2)), (0, x1)]) (rest := [(2, q0)]) rfl rfl (show 1 ≤ 8 by decide) ⟨by decide, show 2 ≤ 3 by decide⟩
theorem b108_21 {T : zT} {V : zM} {q0 : Int} {x1 : Int} {p0 : Int} {p1 : Int} {n1 : Int} (h1 : zLayer T p0 n1) : ev 108 21 [(2, q0), (0, x1)] [(2, p1), (2, p0)] T V = ev 108 24 [(2, q0), (0, x1)] [] (zqw T p0 2 p1) V := by
  exact ev_pr (show zcode 108 21 = some (59, 24, 1, 2, []) by decide +kernel) h1.o
theorem b108_24 {T : zT} {V : zM} {q0 : Int} {x1 : Int} {n1 : Int} (h1 : zLayer T q0 n1) : ev 108 24 [(2, q0), (0, x1)] [] T V = (zcall 110 [(2, (zp T q0 3)), (0, x1)] T V).bind fun x => ev 108 33 [(2, q0), (0, x1)] (z_push x.1 [(2, q0)]) x.2.1 x.2.2 := by
  refine Eq.trans (ev_lda (show zcode 108 24 = some (6, 25, 0, 0, []) by decide +kernel) rfl (by decide)) ?_
  refine Eq.trans (ev_lda (show zcode 108 25 = some (6, 26, 0, 0, []) by decide +kernel) rfl (by decide)) ?_
  refine Eq.trans (ev_gr (show zcode 108 26 = some (56, 29, 1, 3, []) by decide +kernel) h1.o) ?_
  refine Eq.trans (ev_ldi (show zcode 108 29 = some (4, 30, 1, 0, []) by decide +kernel) rfl) ?_
  exact ev_cstat (show zcode 108 30 = some (74, 33, 110, 2, []) by decide +kernel) (args := [(2, (zp T q0 3)), (0, x1)]) (rest := [(2, q0)]) rfl rfl (show 1 ≤ 8 by decide) ⟨by decide, show 2 ≤ 3 by decide⟩
theorem b108_33 {T : zT} {V : zM} {q0 : Int} {x1 : Int} {p0 : Int} {p1 : Int} {n1 : Int} (h1 : zLayer T p0 n1) : ev 108 33 [(2, q0), (0, x1)] [(2, p1), (2, p0)] T V = ev 108 36 [(2, q0), (0, x1)] [] (zqw T p0 3 p1) V := by
  exact ev_pr (show zcode 108 33 = some (59, 36, 1, 3, []) by decide +kernel) h1.o
theorem b108_36 {T : zT} {V : zM} {q0 : Int} {x1 : Int} {n1 : Int} (h1 : zLayer T q0 n1) : ev 108 36 [(2, q0), (0, x1)] [] T V = (zcall 109 [(2, (zp T q0 4)), (0, x1)] T V).bind fun x => ev 108 45 [(2, q0), (0, x1)] (z_push x.1 [(2, q0)]) x.2.1 x.2.2 := by
  refine Eq.trans (ev_lda (show zcode 108 36 = some (6, 37, 0, 0, []) by decide +kernel) rfl (by decide)) ?_
  refine Eq.trans (ev_lda (show zcode 108 37 = some (6, 38, 0, 0, []) by decide +kernel) rfl (by decide)) ?_
  refine Eq.trans (ev_gr (show zcode 108 38 = some (56, 41, 1, 4, []) by decide +kernel) h1.o) ?_
  refine Eq.trans (ev_ldi (show zcode 108 41 = some (4, 42, 1, 0, []) by decide +kernel) rfl) ?_
  exact ev_cstat (show zcode 108 42 = some (74, 45, 109, 2, []) by decide +kernel) (args := [(2, (zp T q0 4)), (0, x1)]) (rest := [(2, q0)]) rfl rfl (show 1 ≤ 8 by decide) ⟨by decide, show 2 ≤ 3 by decide⟩
theorem b108_45 {T : zT} {V : zM} {q0 : Int} {x1 : Int} {p0 : Int} {p1 : Int} {n1 : Int} (h1 : zLayer T p0 n1) : ev 108 45 [(2, q0), (0, x1)] [(2, p1), (2, p0)] T V = ev 108 48 [(2, q0), (0, x1)] [] (zqw T p0 4 p1) V := by
  exact ev_pr (show zcode 108 45 = some (59, 48, 1, 4, []) by decide +kernel) h1.o
theorem b108_48 {T : zT} {V : zM} {q0 : Int} {x1 : Int} {n1 : Int} (h1 : zLayer T q0 n1) : ev 108 48 [(2, q0), (0, x1)] [] T V = (zcall 110 [(2, (zp T q0 5)), (0, x1)] T V).bind fun x => ev 108 57 [(2, q0), (0, x1)] (z_push x.1 [(2, q0)]) x.2.1 x.2.2 := by
  refine Eq.trans (ev_lda (show zcode 108 48 = some (6, 49, 0, 0, []) by decide +kernel) rfl (by decide)) ?_
  refine Eq.trans (ev_lda (show zcode 108 49 = some (6, 50, 0, 0, []) by decide +kernel) rfl (by decide)) ?_
  refine Eq.trans (ev_gr (show zcode 108 50 = some (56, 53, 1, 5, []) by decide +kernel) h1.o) ?_
  refine Eq.trans (ev_ldi (show zcode 108 53 = some (4, 54, 1, 0, []) by decide +kernel) rfl) ?_
  exact ev_cstat (show zcode 108 54 = some (74, 57, 110, 2, []) by decide +kernel) (args := [(2, (zp T q0 5)), (0, x1)]) (rest := [(2, q0)]) rfl rfl (show 1 ≤ 8 by decide) ⟨by decide, show 2 ≤ 3 by decide⟩
theorem b108_57 {T : zT} {V : zM} {q0 : Int} {x1 : Int} {p0 : Int} {p1 : Int} {n1 : Int} (h1 : zLayer T p0 n1) : ev 108 57 [(2, q0), (0, x1)] [(2, p1), (2, p0)] T V = ev 108 60 [(2, q0), (0, x1)] [] (zqw T p0 5 p1) V := by
  exact ev_pr (show zcode 108 57 = some (59, 60, 1, 5, []) by decide +kernel) h1.o
theorem b108_60 {T : zT} {V : zM} {q0 : Int} {x1 : Int} {n1 : Int} (h1 : zLayer T q0 n1) : ev 108 60 [(2, q0), (0, x1)] [] T V = (zcall 110 [(2, (zp T q0 6)), (0, x1)] T V).bind fun x => ev 108 69 [(2, q0), (0, x1)] (z_push x.1 [(2, q0)]) x.2.1 x.2.2 := by
  refine Eq.trans (ev_lda (show zcode 108 60 = some (6, 61, 0, 0, []) by decide +kernel) rfl (by decide)) ?_
  refine Eq.trans (ev_lda (show zcode 108 61 = some (6, 62, 0, 0, []) by decide +kernel) rfl (by decide)) ?_
  refine Eq.trans (ev_gr (show zcode 108 62 = some (56, 65, 1, 6, []) by decide +kernel) h1.o) ?_
  refine Eq.trans (ev_ldi (show zcode 108 65 = some (4, 66, 1, 0, []) by decide +kernel) rfl) ?_
  exact ev_cstat (show zcode 108 66 = some (74, 69, 110, 2, []) by decide +kernel) (args := [(2, (zp T q0 6)), (0, x1)]) (rest := [(2, q0)]) rfl rfl (show 1 ≤ 8 by decide) ⟨by decide, show 2 ≤ 3 by decide⟩
theorem b108_69 {T : zT} {V : zM} {q0 : Int} {x1 : Int} {p0 : Int} {p1 : Int} {n1 : Int} (h1 : zLayer T p0 n1) : ev 108 69 [(2, q0), (0, x1)] [(2, p1), (2, p0)] T V = ev 108 72 [(2, q0), (0, x1)] [] (zqw T p0 6 p1) V := by
  exact ev_pr (show zcode 108 69 = some (59, 72, 1, 6, []) by decide +kernel) h1.o
theorem b108_72 {T : zT} {V : zM} {q0 : Int} {x1 : Int} {n1 : Int} (h1 : zLayer T q0 n1) : ev 108 72 [(2, q0), (0, x1)] [] T V = (zcall 109 [(2, (zp T q0 7)), (0, x1)] T V).bind fun x => ev 108 81 [(2, q0), (0, x1)] (z_push x.1 [(2, q0)]) x.2.1 x.2.2 := by
  refine Eq.trans (ev_lda (show zcode 108 72 = some (6, 73, 0, 0, []) by decide +kernel) rfl (by decide)) ?_
  refine Eq.trans (ev_lda (show zcode 108 73 = some (6, 74, 0, 0, []) by decide +kernel) rfl (by decide)) ?_
  refine Eq.trans (ev_gr (show zcode 108 74 = some (56, 77, 1, 7, []) by decide +kernel) h1.o) ?_
  refine Eq.trans (ev_ldi (show zcode 108 77 = some (4, 78, 1, 0, []) by decide +kernel) rfl) ?_
  exact ev_cstat (show zcode 108 78 = some (74, 81, 109, 2, []) by decide +kernel) (args := [(2, (zp T q0 7)), (0, x1)]) (rest := [(2, q0)]) rfl rfl (show 1 ≤ 8 by decide) ⟨by decide, show 2 ≤ 3 by decide⟩
theorem b108_81 {T : zT} {V : zM} {q0 : Int} {x1 : Int} {p0 : Int} {p1 : Int} {n1 : Int} (h1 : zLayer T p0 n1) : ev 108 81 [(2, q0), (0, x1)] [(2, p1), (2, p0)] T V = ev 108 84 [(2, q0), (0, x1)] [] (zqw T p0 7 p1) V := by
  exact ev_pr (show zcode 108 81 = some (59, 84, 1, 7, []) by decide +kernel) h1.o
theorem b108_84 {T : zT} {V : zM} {q0 : Int} {x1 : Int} : ev 108 84 [(2, q0), (0, x1)] [] T V = some ((9, 0), T, V) := by
  exact ev_rn (show zcode 108 84 = some (73, 85, 0, 0, []) by decide +kernel)
/-! 111: TwoWayWall$Layer.blank(I)V -/
theorem e111 {T : zT} {V : zM} {q0 : Int} {x1 : Int} : zcall 111 [(2, q0), (0, x1)] T V = ev 111 0 [(2, q0), (0, x1)] [] T V := rfl
theorem b111_0 {T : zT} {V : zM} {q0 : Int} {x1 : Int} {n1 : Int} (h1 : zLayer T q0 n1) (h2 : (0 : Int) ≤ x1 ∧ x1 < n1) : ev 111 0 [(2, q0), (0, x1)] [] T V = some ((9, 0), T, (zwr (zwr (zwr (zwr (zwr V (zp T q0 3) x1 0) (zp T q0 4) x1 1000000) (zp T q0 5) x1 0) (zp T q0 6) x1 0) (zp T q0 7) x1 0)) := by
  refine Eq.trans (ev_lda (show zcode 111 0 = some (6, 1, 0, 0, []) by decide +kernel) rfl (by decide)) ?_
  refine Eq.trans (ev_gr (show zcode 111 1 = some (56, 4, 1, 3, []) by decide +kernel) h1.o) ?_
  refine Eq.trans (ev_ldi (show zcode 111 4 = some (4, 5, 1, 0, []) by decide +kernel) rfl) ?_
  refine Eq.trans (ev_cl (show zcode 111 5 = some (1, 6, 0, 0, []) by decide +kernel) (by decide)) ?_
  refine Eq.trans (ev_ls (show zcode 111 6 = some (65, 7, 0, 0, []) by decide +kernel) h1.a3 h2) ?_
  refine Eq.trans (ev_lda (show zcode 111 7 = some (6, 8, 0, 0, []) by decide +kernel) rfl (by decide)) ?_
  refine Eq.trans (ev_gr (show zcode 111 8 = some (56, 11, 1, 4, []) by decide +kernel) h1.o) ?_
  refine Eq.trans (ev_ldi (show zcode 111 11 = some (4, 12, 1, 0, []) by decide +kernel) rfl) ?_
  refine Eq.trans (ev_ci (show zcode 111 12 = some (0, 14, 0, 1000000, []) by decide +kernel) (by decide)) ?_
  refine Eq.trans (ev_is (show zcode 111 14 = some (64, 15, 0, 0, []) by decide +kernel) h1.a4 h2) ?_
  refine Eq.trans (ev_lda (show zcode 111 15 = some (6, 16, 0, 0, []) by decide +kernel) rfl (by decide)) ?_
  refine Eq.trans (ev_gr (show zcode 111 16 = some (56, 19, 1, 5, []) by decide +kernel) h1.o) ?_
  refine Eq.trans (ev_ldi (show zcode 111 19 = some (4, 20, 1, 0, []) by decide +kernel) rfl) ?_
  refine Eq.trans (ev_cl (show zcode 111 20 = some (1, 21, 0, 0, []) by decide +kernel) (by decide)) ?_
  refine Eq.trans (ev_ls (show zcode 111 21 = some (65, 22, 0, 0, []) by decide +kernel) h1.a5 h2) ?_
  refine Eq.trans (ev_lda (show zcode 111 22 = some (6, 23, 0, 0, []) by decide +kernel) rfl (by decide)) ?_
  refine Eq.trans (ev_gr (show zcode 111 23 = some (56, 26, 1, 6, []) by decide +kernel) h1.o) ?_
  refine Eq.trans (ev_ldi (show zcode 111 26 = some (4, 27, 1, 0, []) by decide +kernel) rfl) ?_
  refine Eq.trans (ev_cl (show zcode 111 27 = some (1, 28, 0, 0, []) by decide +kernel) (by decide)) ?_
  refine Eq.trans (ev_ls (show zcode 111 28 = some (65, 29, 0, 0, []) by decide +kernel) h1.a6 h2) ?_
  refine Eq.trans (ev_lda (show zcode 111 29 = some (6, 30, 0, 0, []) by decide +kernel) rfl (by decide)) ?_
  refine Eq.trans (ev_gr (show zcode 111 30 = some (56, 33, 1, 7, []) by decide +kernel) h1.o) ?_
  refine Eq.trans (ev_ldi (show zcode 111 33 = some (4, 34, 1, 0, []) by decide +kernel) rfl) ?_
  refine Eq.trans (ev_ci (show zcode 111 34 = some (0, 35, 0, 0, []) by decide +kernel) (by decide)) ?_
  refine Eq.trans (ev_is (show zcode 111 35 = some (64, 36, 0, 0, []) by decide +kernel) h1.a7 h2) ?_
  exact ev_rn (show zcode 111 36 = some (73, 37, 0, 0, []) by decide +kernel)
/-! 112: TwoWayWall$Layer.take(IJIJJI)V -/
theorem e112 {T : zT} {V : zM} {q0 : Int} {x1 : Int} {x2 : Int} {x4 : Int} {x5 : Int} {x7 : Int} {x9 : Int} : zcall 112 [(2, q0), (0, x1), (1, x2), (0, x4), (1, x5), (1, x7), (0, x9)] T V = ev 112 0 [(2, q0), (0, x1), (1, x2), (9, 0), (0, x4), (1, x5), (9, 0), (1, x7), (9, 0), (0, x9), (9, 0)] [] T V := rfl
theorem b112_0 {T : zT} {V : zM} {q0 : Int} {x1 : Int} {x2 : Int} {x4 : Int} {x5 : Int} {x7 : Int} {x9 : Int} {n1 : Int} (h1 : zLayer T q0 n1) (h2 : (0 : Int) ≤ x1 ∧ x1 < n1) (h3 : -9223372036854775808 ≤ ((V (zp T q0 3) x1) + x2) ∧ ((V (zp T q0 3) x1) + x2) ≤ 9223372036854775807) : ev 112 0 [(2, q0), (0, x1), (1, x2), (9, 0), (0, x4), (1, x5), (9, 0), (1, x7), (9, 0), (0, x9), (9, 0)] [] T V = if x5 < ((zwr (zwr V (zp T q0 3) x1 (min 1000000000000 ((V (zp T q0 3) x1) + x2))) (zp T q0 7) x1 (zor ((zwr V (zp T q0 3) x1 (min 1000000000000 ((V (zp T q0 3) x1) + x2))) (zp T q0 7) x1) x9)) (zp T q0 5) x1) then ev 112 67 [(2, q0), (0, x1), (1, x2), (9, 0), (0, x4), (1, x5), (9, 0), (1, x7), (9, 0), (0, x9), (9, 0)] [] T (zwr (zwr V (zp T q0 3) x1 (min 1000000000000 ((V (zp T q0 3) x1) + x2))) (zp T q0 7) x1 (zor ((zwr V (zp T q0 3) x1 (min 1000000000000 ((V (zp T q0 3) x1) + x2))) (zp T q0 7) x1) x9)) else ev 112 43 [(2, q0), (0, x1), (1, x2), (9, 0), (0, x4), (1, x5), (9, 0), (1, x7), (9, 0), (0, x9), (9, 0)] [] T (zwr (zwr V (zp T q0 3) x1 (min 1000000000000 ((V (zp T q0 3) x1) + x2))) (zp T q0 7) x1 (zor ((zwr V (zp T q0 3) x1 (min 1000000000000 ((V (zp T q0 3) x1) + x2))) (zp T q0 7) x1) x9)) := by
  refine Eq.trans (ev_lda (show zcode 112 0 = some (6, 1, 0, 0, []) by decide +kernel) rfl (by decide)) ?_
  refine Eq.trans (ev_gr (show zcode 112 1 = some (56, 4, 1, 3, []) by decide +kernel) h1.o) ?_
  refine Eq.trans (ev_ldi (show zcode 112 4 = some (4, 5, 1, 0, []) by decide +kernel) rfl) ?_
  refine Eq.trans (ev_cl (show zcode 112 5 = some (1, 8, 0, 1000000000000, []) by decide +kernel) (by decide)) ?_
  refine Eq.trans (ev_lda (show zcode 112 8 = some (6, 9, 0, 0, []) by decide +kernel) rfl (by decide)) ?_
  refine Eq.trans (ev_gr (show zcode 112 9 = some (56, 12, 1, 3, []) by decide +kernel) h1.o) ?_
  refine Eq.trans (ev_ldi (show zcode 112 12 = some (4, 13, 1, 0, []) by decide +kernel) rfl) ?_
  refine Eq.trans (ev_la (show zcode 112 13 = some (61, 14, 0, 0, []) by decide +kernel) h1.a3 h2) ?_
  refine Eq.trans (ev_ldl (show zcode 112 14 = some (5, 15, 2, 0, []) by decide +kernel) rfl) ?_
  refine Eq.trans (ev_ladd (show zcode 112 15 = some (23, 16, 0, 0, []) by decide +kernel) h3) ?_
  refine Eq.trans (ev_minl (show zcode 112 16 = some (86, 19, 0, 0, []) by decide +kernel) (show 2 ≤ 8 by decide)) ?_
  refine Eq.trans (ev_ls (show zcode 112 19 = some (65, 20, 0, 0, []) by decide +kernel) h1.a3 h2) ?_
  refine Eq.trans (ev_lda (show zcode 112 20 = some (6, 21, 0, 0, []) by decide +kernel) rfl (by decide)) ?_
  refine Eq.trans (ev_gr (show zcode 112 21 = some (56, 24, 1, 7, []) by decide +kernel) h1.o) ?_
  refine Eq.trans (ev_ldi (show zcode 112 24 = some (4, 25, 1, 0, []) by decide +kernel) rfl) ?_
  refine Eq.trans (ev_dup2 (show zcode 112 25 = some (38, 26, 0, 0, []) by decide +kernel) (by decide)) ?_
  refine Eq.trans (ev_ia (show zcode 112 26 = some (60, 27, 0, 0, []) by decide +kernel) h1.a7 h2) ?_
  refine Eq.trans (ev_ldi (show zcode 112 27 = some (4, 29, 9, 0, []) by decide +kernel) rfl) ?_
  refine Eq.trans (ev_or (show zcode 112 29 = some (15, 30, 0, 0, []) by decide +kernel)) ?_
  refine Eq.trans (ev_is (show zcode 112 30 = some (64, 31, 0, 0, []) by decide +kernel) h1.a7 h2) ?_
  refine Eq.trans (ev_ldl (show zcode 112 31 = some (5, 33, 5, 0, []) by decide +kernel) rfl) ?_
  refine Eq.trans (ev_lda (show zcode 112 33 = some (6, 34, 0, 0, []) by decide +kernel) rfl (by decide)) ?_
  refine Eq.trans (ev_gr (show zcode 112 34 = some (56, 37, 1, 5, []) by decide +kernel) h1.o) ?_
  refine Eq.trans (ev_ldi (show zcode 112 37 = some (4, 38, 1, 0, []) by decide +kernel) rfl) ?_
  refine Eq.trans (ev_la (show zcode 112 38 = some (61, 39, 0, 0, []) by decide +kernel) h1.a5 h2) ?_
  exact ev_llt (show zcode 112 39 = some (31, 40, 0, 0, []) by decide +kernel) (show zcode 112 40 = some (42, 43, 67, 0, []) by decide +kernel)
theorem b112_43 {T : zT} {V : zM} {q0 : Int} {x1 : Int} {x2 : Int} {x4 : Int} {x5 : Int} {x7 : Int} {x9 : Int} {n1 : Int} (h1 : zLayer T q0 n1) (h2 : (0 : Int) ≤ x1 ∧ x1 < n1) : ev 112 43 [(2, q0), (0, x1), (1, x2), (9, 0), (0, x4), (1, x5), (9, 0), (1, x7), (9, 0), (0, x9), (9, 0)] [] T V = if x5 = (V (zp T q0 5) x1) then ev 112 55 [(2, q0), (0, x1), (1, x2), (9, 0), (0, x4), (1, x5), (9, 0), (1, x7), (9, 0), (0, x9), (9, 0)] [] T V else ev 112 71 [(2, q0), (0, x1), (1, x2), (9, 0), (0, x4), (1, x5), (9, 0), (1, x7), (9, 0), (0, x9), (9, 0)] [] T V := by
  refine Eq.trans (ev_ldl (show zcode 112 43 = some (5, 45, 5, 0, []) by decide +kernel) rfl) ?_
  refine Eq.trans (ev_lda (show zcode 112 45 = some (6, 46, 0, 0, []) by decide +kernel) rfl (by decide)) ?_
  refine Eq.trans (ev_gr (show zcode 112 46 = some (56, 49, 1, 5, []) by decide +kernel) h1.o) ?_
  refine Eq.trans (ev_ldi (show zcode 112 49 = some (4, 50, 1, 0, []) by decide +kernel) rfl) ?_
  refine Eq.trans (ev_la (show zcode 112 50 = some (61, 51, 0, 0, []) by decide +kernel) h1.a5 h2) ?_
  exact ev_lne (show zcode 112 51 = some (31, 52, 0, 0, []) by decide +kernel) (show zcode 112 52 = some (41, 55, 71, 0, []) by decide +kernel)
theorem b112_55 {T : zT} {V : zM} {q0 : Int} {x1 : Int} {x2 : Int} {x4 : Int} {x5 : Int} {x7 : Int} {x9 : Int} {n1 : Int} (h1 : zLayer T q0 n1) (h2 : (0 : Int) ≤ x1 ∧ x1 < n1) : ev 112 55 [(2, q0), (0, x1), (1, x2), (9, 0), (0, x4), (1, x5), (9, 0), (1, x7), (9, 0), (0, x9), (9, 0)] [] T V = if (V (zp T q0 6) x1) ≤ x7 then ev 112 71 [(2, q0), (0, x1), (1, x2), (9, 0), (0, x4), (1, x5), (9, 0), (1, x7), (9, 0), (0, x9), (9, 0)] [] T V else ev 112 67 [(2, q0), (0, x1), (1, x2), (9, 0), (0, x4), (1, x5), (9, 0), (1, x7), (9, 0), (0, x9), (9, 0)] [] T V := by
  refine Eq.trans (ev_ldl (show zcode 112 55 = some (5, 57, 7, 0, []) by decide +kernel) rfl) ?_
  refine Eq.trans (ev_lda (show zcode 112 57 = some (6, 58, 0, 0, []) by decide +kernel) rfl (by decide)) ?_
  refine Eq.trans (ev_gr (show zcode 112 58 = some (56, 61, 1, 6, []) by decide +kernel) h1.o) ?_
  refine Eq.trans (ev_ldi (show zcode 112 61 = some (4, 62, 1, 0, []) by decide +kernel) rfl) ?_
  refine Eq.trans (ev_la (show zcode 112 62 = some (61, 63, 0, 0, []) by decide +kernel) h1.a6 h2) ?_
  exact ev_lge (show zcode 112 63 = some (31, 64, 0, 0, []) by decide +kernel) (show zcode 112 64 = some (43, 67, 71, 0, []) by decide +kernel)
theorem b112_67 {T : zT} {V : zM} {q0 : Int} {x1 : Int} {x2 : Int} {x4 : Int} {x5 : Int} {x7 : Int} {x9 : Int} : ev 112 67 [(2, q0), (0, x1), (1, x2), (9, 0), (0, x4), (1, x5), (9, 0), (1, x7), (9, 0), (0, x9), (9, 0)] [] T V = ev 112 72 [(2, q0), (0, x1), (1, x2), (9, 0), (0, x4), (1, x5), (9, 0), (1, x7), (9, 0), (0, x9), (9, 0)] [(0, 1)] T V := by
  refine Eq.trans (ev_ci (show zcode 112 67 = some (0, 68, 0, 1, []) by decide +kernel) (by decide)) ?_
  exact ev_goto (show zcode 112 68 = some (53, 71, 72, 0, []) by decide +kernel)
theorem b112_71 {T : zT} {V : zM} {q0 : Int} {x1 : Int} {x2 : Int} {x4 : Int} {x5 : Int} {x7 : Int} {x9 : Int} : ev 112 71 [(2, q0), (0, x1), (1, x2), (9, 0), (0, x4), (1, x5), (9, 0), (1, x7), (9, 0), (0, x9), (9, 0)] [] T V = ev 112 72 [(2, q0), (0, x1), (1, x2), (9, 0), (0, x4), (1, x5), (9, 0), (1, x7), (9, 0), (0, x9), (9, 0)] [(0, 0)] T V := by
  exact ev_ci (show zcode 112 71 = some (0, 72, 0, 0, []) by decide +kernel) (by decide)
theorem b112_72 {T : zT} {V : zM} {q0 : Int} {x1 : Int} {x2 : Int} {x4 : Int} {x5 : Int} {x7 : Int} {x9 : Int} {y0 : Int} {n1 : Int} (h1 : zLayer T q0 n1) (h2 : (0 : Int) ≤ x1 ∧ x1 < n1) : ev 112 72 [(2, q0), (0, x1), (1, x2), (9, 0), (0, x4), (1, x5), (9, 0), (1, x7), (9, 0), (0, x9), (9, 0)] [(0, y0)] T V = if x4 < (V (zp T q0 4) x1) then ev 112 101 [(2, q0), (0, x1), (1, x2), (9, 0), (0, x4), (1, x5), (9, 0), (1, x7), (9, 0), (0, x9), (0, y0)] [] T V else ev 112 85 [(2, q0), (0, x1), (1, x2), (9, 0), (0, x4), (1, x5), (9, 0), (1, x7), (9, 0), (0, x9), (0, y0)] [] T V := by
  refine Eq.trans (ev_sti (show zcode 112 72 = some (7, 74, 10, 0, []) by decide +kernel) ⟨show 10 < 11 by decide, Or.inr (show ¬ (0 : Nat) = 1 by decide)⟩) ?_
  refine Eq.trans (ev_ldi (show zcode 112 74 = some (4, 76, 4, 0, []) by decide +kernel) rfl) ?_
  refine Eq.trans (ev_lda (show zcode 112 76 = some (6, 77, 0, 0, []) by decide +kernel) rfl (by decide)) ?_
  refine Eq.trans (ev_gr (show zcode 112 77 = some (56, 80, 1, 4, []) by decide +kernel) h1.o) ?_
  refine Eq.trans (ev_ldi (show zcode 112 80 = some (4, 81, 1, 0, []) by decide +kernel) rfl) ?_
  refine Eq.trans (ev_ia (show zcode 112 81 = some (60, 82, 0, 0, []) by decide +kernel) h1.a4 h2) ?_
  exact ev_clt (show zcode 112 82 = some (48, 85, 101, 0, []) by decide +kernel)
theorem b112_85 {T : zT} {V : zM} {q0 : Int} {x1 : Int} {x2 : Int} {x4 : Int} {x5 : Int} {x7 : Int} {x9 : Int} {x10 : Int} {n1 : Int} (h1 : zLayer T q0 n1) (h2 : (0 : Int) ≤ x1 ∧ x1 < n1) : ev 112 85 [(2, q0), (0, x1), (1, x2), (9, 0), (0, x4), (1, x5), (9, 0), (1, x7), (9, 0), (0, x9), (0, x10)] [] T V = if x4 = (V (zp T q0 4) x1) then ev 112 96 [(2, q0), (0, x1), (1, x2), (9, 0), (0, x4), (1, x5), (9, 0), (1, x7), (9, 0), (0, x9), (0, x10)] [] T V else ev 112 125 [(2, q0), (0, x1), (1, x2), (9, 0), (0, x4), (1, x5), (9, 0), (1, x7), (9, 0), (0, x9), (0, x10)] [] T V := by
  refine Eq.trans (ev_ldi (show zcode 112 85 = some (4, 87, 4, 0, []) by decide +kernel) rfl) ?_
  refine Eq.trans (ev_lda (show zcode 112 87 = some (6, 88, 0, 0, []) by decide +kernel) rfl (by decide)) ?_
  refine Eq.trans (ev_gr (show zcode 112 88 = some (56, 91, 1, 4, []) by decide +kernel) h1.o) ?_
  refine Eq.trans (ev_ldi (show zcode 112 91 = some (4, 92, 1, 0, []) by decide +kernel) rfl) ?_
  refine Eq.trans (ev_ia (show zcode 112 92 = some (60, 93, 0, 0, []) by decide +kernel) h1.a4 h2) ?_
  exact ev_cne (show zcode 112 93 = some (47, 96, 125, 0, []) by decide +kernel)
theorem b112_96 {T : zT} {V : zM} {q0 : Int} {x1 : Int} {x2 : Int} {x4 : Int} {x5 : Int} {x7 : Int} {x9 : Int} {x10 : Int} : ev 112 96 [(2, q0), (0, x1), (1, x2), (9, 0), (0, x4), (1, x5), (9, 0), (1, x7), (9, 0), (0, x9), (0, x10)] [] T V = if x10 = 0 then ev 112 125 [(2, q0), (0, x1), (1, x2), (9, 0), (0, x4), (1, x5), (9, 0), (1, x7), (9, 0), (0, x9), (0, x10)] [] T V else ev 112 101 [(2, q0), (0, x1), (1, x2), (9, 0), (0, x4), (1, x5), (9, 0), (1, x7), (9, 0), (0, x9), (0, x10)] [] T V := by
  refine Eq.trans (ev_ldi (show zcode 112 96 = some (4, 98, 10, 0, []) by decide +kernel) rfl) ?_
  exact ev_eq (show zcode 112 98 = some (40, 101, 125, 0, []) by decide +kernel)
theorem b112_101 {T : zT} {V : zM} {q0 : Int} {x1 : Int} {x2 : Int} {x4 : Int} {x5 : Int} {x7 : Int} {x9 : Int} {x10 : Int} {n1 : Int} (h1 : zLayer T q0 n1) (h2 : (0 : Int) ≤ x1 ∧ x1 < n1) : ev 112 101 [(2, q0), (0, x1), (1, x2), (9, 0), (0, x4), (1, x5), (9, 0), (1, x7), (9, 0), (0, x9), (0, x10)] [] T V = ev 112 125 [(2, q0), (0, x1), (1, x2), (9, 0), (0, x4), (1, x5), (9, 0), (1, x7), (9, 0), (0, x9), (0, x10)] [] T (zwr (zwr (zwr V (zp T q0 4) x1 x4) (zp T q0 5) x1 x5) (zp T q0 6) x1 x7) := by
  refine Eq.trans (ev_lda (show zcode 112 101 = some (6, 102, 0, 0, []) by decide +kernel) rfl (by decide)) ?_
  refine Eq.trans (ev_gr (show zcode 112 102 = some (56, 105, 1, 4, []) by decide +kernel) h1.o) ?_
  refine Eq.trans (ev_ldi (show zcode 112 105 = some (4, 106, 1, 0, []) by decide +kernel) rfl) ?_
  refine Eq.trans (ev_ldi (show zcode 112 106 = some (4, 108, 4, 0, []) by decide +kernel) rfl) ?_
  refine Eq.trans (ev_is (show zcode 112 108 = some (64, 109, 0, 0, []) by decide +kernel) h1.a4 h2) ?_
  refine Eq.trans (ev_lda (show zcode 112 109 = some (6, 110, 0, 0, []) by decide +kernel) rfl (by decide)) ?_
  refine Eq.trans (ev_gr (show zcode 112 110 = some (56, 113, 1, 5, []) by decide +kernel) h1.o) ?_
  refine Eq.trans (ev_ldi (show zcode 112 113 = some (4, 114, 1, 0, []) by decide +kernel) rfl) ?_
  refine Eq.trans (ev_ldl (show zcode 112 114 = some (5, 116, 5, 0, []) by decide +kernel) rfl) ?_
  refine Eq.trans (ev_ls (show zcode 112 116 = some (65, 117, 0, 0, []) by decide +kernel) h1.a5 h2) ?_
  refine Eq.trans (ev_lda (show zcode 112 117 = some (6, 118, 0, 0, []) by decide +kernel) rfl (by decide)) ?_
  refine Eq.trans (ev_gr (show zcode 112 118 = some (56, 121, 1, 6, []) by decide +kernel) h1.o) ?_
  refine Eq.trans (ev_ldi (show zcode 112 121 = some (4, 122, 1, 0, []) by decide +kernel) rfl) ?_
  refine Eq.trans (ev_ldl (show zcode 112 122 = some (5, 124, 7, 0, []) by decide +kernel) rfl) ?_
  exact ev_ls (show zcode 112 124 = some (65, 125, 0, 0, []) by decide +kernel) h1.a6 h2
theorem b112_125 {T : zT} {V : zM} {q0 : Int} {x1 : Int} {x2 : Int} {x4 : Int} {x5 : Int} {x7 : Int} {x9 : Int} {x10 : Int} : ev 112 125 [(2, q0), (0, x1), (1, x2), (9, 0), (0, x4), (1, x5), (9, 0), (1, x7), (9, 0), (0, x9), (0, x10)] [] T V = some ((9, 0), T, V) := by
  exact ev_rn (show zcode 112 125 = some (73, 126, 0, 0, []) by decide +kernel)
/-! 113: TwoWayWall$Crossing.step(LTwoWayWall$PairTable;I)V -/
theorem e113 {T : zT} {V : zM} {q1 : Int} {x2 : Int} : zcall 113 [(2, 78), (2, q1), (0, x2)] T V = ev 113 0 [(2, 78), (2, q1), (0, x2), (9, 0), (9, 0), (9, 0), (9, 0), (9, 0)] [] T V := rfl
theorem b113_0 {T : zT} {V : zM} {q1 : Int} {x2 : Int} {n1 : Int} (hS : zStr T) (h1 : zLayer T (zp T 78 3) n1) : ev 113 0 [(2, 78), (2, q1), (0, x2), (9, 0), (9, 0), (9, 0), (9, 0), (9, 0)] [] T V = ev 113 10 [(2, 78), (2, q1), (0, x2), (0, 0), (9, 0), (9, 0), (9, 0), (9, 0)] [] T (zwr V (zp T 78 3) 0 0) := by
  refine Eq.trans (ev_lda (show zcode 113 0 = some (6, 1, 0, 0, []) by decide +kernel) rfl (by decide)) ?_
  refine Eq.trans (ev_gr (show zcode 113 1 = some (56, 4, 0, 3, []) by decide +kernel) (so78 hS)) ?_
  refine Eq.trans (ev_ci (show zcode 113 4 = some (0, 5, 0, 0, []) by decide +kernel) (by decide)) ?_
  refine Eq.trans (ev_pi (show zcode 113 5 = some (57, 8, 1, 0, []) by decide +kernel) h1.o) ?_
  refine Eq.trans (ev_ci (show zcode 113 8 = some (0, 9, 0, 0, []) by decide +kernel) (by decide)) ?_
  exact ev_sti (show zcode 113 9 = some (7, 10, 3, 0, []) by decide +kernel) ⟨show 3 < 8 by decide, Or.inr (show ¬ (0 : Nat) = 1 by decide)⟩
theorem b113_10 {T : zT} {V : zM} {q1 : Int} {x2 : Int} {x3 : Int} {v4 : zV} {v5 : zV} {v6 : zV} {v7 : zV} {n1 : Int} (hS : zStr T) (h1 : zLayer T (zp T 78 2) n1) : ev 113 10 [(2, 78), (2, q1), (0, x2), (0, x3), v4, v5, v6, v7] [] T V = if (V (zp T 78 2) 0) ≤ x3 then ev 113 173 [(2, 78), (2, q1), (0, x2), (0, x3), v4, v5, v6, v7] [] T V else ev 113 21 [(2, 78), (2, q1), (0, x2), (0, x3), v4, v5, v6, v7] [] T V := by
  refine Eq.trans (ev_ldi (show zcode 113 10 = some (4, 11, 3, 0, []) by decide +kernel) rfl) ?_
  refine Eq.trans (ev_lda (show zcode 113 11 = some (6, 12, 0, 0, []) by decide +kernel) rfl (by decide)) ?_
  refine Eq.trans (ev_gr (show zcode 113 12 = some (56, 15, 0, 2, []) by decide +kernel) (so78 hS)) ?_
  refine Eq.trans (ev_gi (show zcode 113 15 = some (55, 18, 1, 0, []) by decide +kernel) h1.o) ?_
  exact ev_cge (show zcode 113 18 = some (49, 21, 173, 0, []) by decide +kernel)
theorem b113_21 {T : zT} {V : zM} {q1 : Int} {x2 : Int} {x3 : Int} {v4 : zV} {v5 : zV} {v6 : zV} {v7 : zV} {n1 : Int} (hS : zStr T) (h1 : zLayer T (zp T 78 2) n1) (h2 : (0 : Int) ≤ x3 ∧ x3 < n1) : ev 113 21 [(2, 78), (2, q1), (0, x2), (0, x3), v4, v5, v6, v7] [] T V = (zcall 114 [(2, 79), (0, (V (zp T (zp T 78 2) 1) x3))] T V).bind fun x => ev 113 37 [(2, 78), (2, q1), (0, x2), (0, x3), v4, v5, v6, v7] (z_push x.1 []) x.2.1 x.2.2 := by
  refine Eq.trans (ev_lda (show zcode 113 21 = some (6, 22, 0, 0, []) by decide +kernel) rfl (by decide)) ?_
  refine Eq.trans (ev_gq (show zcode 113 22 = some (56, 25, 0, 0, []) by decide +kernel) (so78 hS) (sp78_0 hS)) ?_
  refine Eq.trans (ev_lda (show zcode 113 25 = some (6, 26, 0, 0, []) by decide +kernel) rfl (by decide)) ?_
  refine Eq.trans (ev_gr (show zcode 113 26 = some (56, 29, 0, 2, []) by decide +kernel) (so78 hS)) ?_
  refine Eq.trans (ev_gr (show zcode 113 29 = some (56, 32, 1, 1, []) by decide +kernel) h1.o) ?_
  refine Eq.trans (ev_ldi (show zcode 113 32 = some (4, 33, 3, 0, []) by decide +kernel) rfl) ?_
  refine Eq.trans (ev_ia (show zcode 113 33 = some (60, 34, 0, 0, []) by decide +kernel) h1.a1 h2) ?_
  exact ev_cvirt (show zcode 113 34 = some (76, 37, 114, 2, [5]) by decide +kernel) (args := [(0, (V (zp T (zp T 78 2) 1) x3))]) (rest := []) rfl (so79 hS) rfl (show 0 ≤ 8 by decide) ⟨by decide, show 2 ≤ 4 by decide⟩
theorem b113_37 {T : zT} {V : zM} {q1 : Int} {x2 : Int} {x3 : Int} {v4 : zV} {v5 : zV} {v6 : zV} {v7 : zV} {n1 : Int} (hS : zStr T) (h1 : zLayer T (zp T 78 2) n1) (h2 : (0 : Int) ≤ x3 ∧ x3 < n1) : ev 113 37 [(2, 78), (2, q1), (0, x2), (0, x3), v4, v5, v6, v7] [] T V = (zcall 114 [(2, 87), (0, (V (zp T (zp T 78 2) 2) x3))] T V).bind fun x => ev 113 53 [(2, 78), (2, q1), (0, x2), (0, x3), v4, v5, v6, v7] (z_push x.1 []) x.2.1 x.2.2 := by
  refine Eq.trans (ev_lda (show zcode 113 37 = some (6, 38, 0, 0, []) by decide +kernel) rfl (by decide)) ?_
  refine Eq.trans (ev_gq (show zcode 113 38 = some (56, 41, 0, 1, []) by decide +kernel) (so78 hS) (sp78_1 hS)) ?_
  refine Eq.trans (ev_lda (show zcode 113 41 = some (6, 42, 0, 0, []) by decide +kernel) rfl (by decide)) ?_
  refine Eq.trans (ev_gr (show zcode 113 42 = some (56, 45, 0, 2, []) by decide +kernel) (so78 hS)) ?_
  refine Eq.trans (ev_gr (show zcode 113 45 = some (56, 48, 1, 2, []) by decide +kernel) h1.o) ?_
  refine Eq.trans (ev_ldi (show zcode 113 48 = some (4, 49, 3, 0, []) by decide +kernel) rfl) ?_
  refine Eq.trans (ev_ia (show zcode 113 49 = some (60, 50, 0, 0, []) by decide +kernel) h1.a2 h2) ?_
  exact ev_cvirt (show zcode 113 50 = some (76, 53, 114, 2, [5]) by decide +kernel) (args := [(0, (V (zp T (zp T 78 2) 2) x3))]) (rest := []) rfl (so87 hS) rfl (show 0 ≤ 8 by decide) ⟨by decide, show 2 ≤ 4 by decide⟩
theorem b113_53 {T : zT} {V : zM} {q1 : Int} {x2 : Int} {x3 : Int} {v4 : zV} {v5 : zV} {v6 : zV} {v7 : zV} : ev 113 53 [(2, 78), (2, q1), (0, x2), (0, x3), v4, v5, v6, v7] [] T V = ev 113 56 [(2, 78), (2, q1), (0, x2), (0, x3), (0, 0), v5, v6, v7] [] T V := by
  refine Eq.trans (ev_ci (show zcode 113 53 = some (0, 54, 0, 0, []) by decide +kernel) (by decide)) ?_
  exact ev_sti (show zcode 113 54 = some (7, 56, 4, 0, []) by decide +kernel) ⟨show 4 < 8 by decide, Or.inr (show ¬ (0 : Nat) = 1 by decide)⟩
theorem b113_56 {T : zT} {V : zM} {q1 : Int} {x2 : Int} {x3 : Int} {x4 : Int} {v5 : zV} {v6 : zV} {v7 : zV} (hS : zStr T)  : ev 113 56 [(2, 78), (2, q1), (0, x2), (0, x3), (0, x4), v5, v6, v7] [] T V = if (V 79 8) ≤ x4 then ev 113 167 [(2, 78), (2, q1), (0, x2), (0, x3), (0, x4), v5, v6, v7] [] T V else ev 113 68 [(2, 78), (2, q1), (0, x2), (0, x3), (0, x4), v5, v6, v7] [] T V := by
  refine Eq.trans (ev_ldi (show zcode 113 56 = some (4, 58, 4, 0, []) by decide +kernel) rfl) ?_
  refine Eq.trans (ev_lda (show zcode 113 58 = some (6, 59, 0, 0, []) by decide +kernel) rfl (by decide)) ?_
  refine Eq.trans (ev_gq (show zcode 113 59 = some (56, 62, 0, 0, []) by decide +kernel) (so78 hS) (sp78_0 hS)) ?_
  refine Eq.trans (ev_gi (show zcode 113 62 = some (55, 65, 5, 8, []) by decide +kernel) (so79 hS)) ?_
  exact ev_cge (show zcode 113 65 = some (49, 68, 167, 0, []) by decide +kernel)
theorem b113_68 {T : zT} {V : zM} {q1 : Int} {x2 : Int} {x3 : Int} {x4 : Int} {v5 : zV} {v6 : zV} {v7 : zV} : ev 113 68 [(2, 78), (2, q1), (0, x2), (0, x3), (0, x4), v5, v6, v7] [] T V = ev 113 71 [(2, 78), (2, q1), (0, x2), (0, x3), (0, x4), (0, 0), v6, v7] [] T V := by
  refine Eq.trans (ev_ci (show zcode 113 68 = some (0, 69, 0, 0, []) by decide +kernel) (by decide)) ?_
  exact ev_sti (show zcode 113 69 = some (7, 71, 5, 0, []) by decide +kernel) ⟨show 5 < 8 by decide, Or.inr (show ¬ (0 : Nat) = 1 by decide)⟩
theorem b113_71 {T : zT} {V : zM} {q1 : Int} {x2 : Int} {x3 : Int} {x4 : Int} {x5 : Int} {v6 : zV} {v7 : zV} (hS : zStr T)  : ev 113 71 [(2, 78), (2, q1), (0, x2), (0, x3), (0, x4), (0, x5), v6, v7] [] T V = if (V 87 8) ≤ x5 then ev 113 161 [(2, 78), (2, q1), (0, x2), (0, x3), (0, x4), (0, x5), v6, v7] [] T V else ev 113 83 [(2, 78), (2, q1), (0, x2), (0, x3), (0, x4), (0, x5), v6, v7] [] T V := by
  refine Eq.trans (ev_ldi (show zcode 113 71 = some (4, 73, 5, 0, []) by decide +kernel) rfl) ?_
  refine Eq.trans (ev_lda (show zcode 113 73 = some (6, 74, 0, 0, []) by decide +kernel) rfl (by decide)) ?_
  refine Eq.trans (ev_gq (show zcode 113 74 = some (56, 77, 0, 1, []) by decide +kernel) (so78 hS) (sp78_1 hS)) ?_
  refine Eq.trans (ev_gi (show zcode 113 77 = some (55, 80, 5, 8, []) by decide +kernel) (so87 hS)) ?_
  exact ev_cge (show zcode 113 80 = some (49, 83, 161, 0, []) by decide +kernel)
theorem b113_83 {T : zT} {V : zM} {q1 : Int} {x2 : Int} {x3 : Int} {x4 : Int} {x5 : Int} {v6 : zV} {v7 : zV} (hS : zStr T) (h1 : (0 : Int) ≤ x4 ∧ x4 < 9) (h2 : (0 : Int) ≤ x5 ∧ x5 < 9) : ev 113 83 [(2, 78), (2, q1), (0, x2), (0, x3), (0, x4), (0, x5), v6, v7] [] T V = (zcall 22 [(0, (V 85 x4)), (0, (V 93 x5))] T V).bind fun x => ev 113 106 [(2, 78), (2, q1), (0, x2), (0, x3), (0, x4), (0, x5), v6, v7] (z_push x.1 []) x.2.1 x.2.2 := by
  refine Eq.trans (ev_lda (show zcode 113 83 = some (6, 84, 0, 0, []) by decide +kernel) rfl (by decide)) ?_
  refine Eq.trans (ev_gq (show zcode 113 84 = some (56, 87, 0, 0, []) by decide +kernel) (so78 hS) (sp78_0 hS)) ?_
  refine Eq.trans (ev_gq (show zcode 113 87 = some (56, 90, 5, 6, []) by decide +kernel) (so79 hS) (sp79_6 hS)) ?_
  refine Eq.trans (ev_ldi (show zcode 113 90 = some (4, 92, 4, 0, []) by decide +kernel) rfl) ?_
  refine Eq.trans (ev_ia (show zcode 113 92 = some (60, 93, 0, 0, []) by decide +kernel) (sa85 hS) h1) ?_
  refine Eq.trans (ev_lda (show zcode 113 93 = some (6, 94, 0, 0, []) by decide +kernel) rfl (by decide)) ?_
  refine Eq.trans (ev_gq (show zcode 113 94 = some (56, 97, 0, 1, []) by decide +kernel) (so78 hS) (sp78_1 hS)) ?_
  refine Eq.trans (ev_gq (show zcode 113 97 = some (56, 100, 5, 6, []) by decide +kernel) (so87 hS) (sp87_6 hS)) ?_
  refine Eq.trans (ev_ldi (show zcode 113 100 = some (4, 102, 5, 0, []) by decide +kernel) rfl) ?_
  refine Eq.trans (ev_ia (show zcode 113 102 = some (60, 103, 0, 0, []) by decide +kernel) (sa93 hS) h2) ?_
  exact ev_cstat (show zcode 113 103 = some (74, 106, 22, 2, []) by decide +kernel) (args := [(0, (V 85 x4)), (0, (V 93 x5))]) (rest := []) rfl rfl (show 0 ≤ 8 by decide) ⟨by decide, show 2 ≤ 2 by decide⟩
theorem b113_106 {T : zT} {V : zM} {q1 : Int} {x2 : Int} {x3 : Int} {x4 : Int} {x5 : Int} {v6 : zV} {v7 : zV} {y0 : Int} (h1 : zPairT T q1) (h2 : (0 : Int) ≤ y0 ∧ y0 < 729) : ev 113 106 [(2, 78), (2, q1), (0, x2), (0, x3), (0, x4), (0, x5), v6, v7] [(0, y0)] T V = if (V (q1 + 1) y0) ≤ 0 then ev 113 155 [(2, 78), (2, q1), (0, x2), (0, x3), (0, x4), (0, x5), (0, y0), v7] [] T V else ev 113 118 [(2, 78), (2, q1), (0, x2), (0, x3), (0, x4), (0, x5), (0, y0), v7] [] T V := by
  refine Eq.trans (ev_sti (show zcode 113 106 = some (7, 108, 6, 0, []) by decide +kernel) ⟨show 6 < 8 by decide, Or.inr (show ¬ (0 : Nat) = 1 by decide)⟩) ?_
  refine Eq.trans (ev_lda (show zcode 113 108 = some (6, 109, 1, 0, []) by decide +kernel) rfl (by decide)) ?_
  refine Eq.trans (ev_gq (show zcode 113 109 = some (56, 112, 3, 0, []) by decide +kernel) h1.o h1.p0) ?_
  refine Eq.trans (ev_ldi (show zcode 113 112 = some (4, 114, 6, 0, []) by decide +kernel) rfl) ?_
  refine Eq.trans (ev_ia (show zcode 113 114 = some (60, 115, 0, 0, []) by decide +kernel) h1.a1 h2) ?_
  exact ev_le (show zcode 113 115 = some (45, 118, 155, 0, []) by decide +kernel)
theorem b113_118 {T : zT} {V : zM} {q1 : Int} {x2 : Int} {x3 : Int} {x4 : Int} {x5 : Int} {x6 : Int} {v7 : zV} (hS : zStr T) (h1 : (0 : Int) ≤ x4 ∧ x4 < 9) (h2 : (0 : Int) ≤ x5 ∧ x5 < 9) : ev 113 118 [(2, 78), (2, q1), (0, x2), (0, x3), (0, x4), (0, x5), (0, x6), v7] [] T V = (zcall 116 [(2, 78), (0, (V 86 x4)), (0, (V 94 x5))] T V).bind fun x => ev 113 142 [(2, 78), (2, q1), (0, x2), (0, x3), (0, x4), (0, x5), (0, x6), v7] (z_push x.1 []) x.2.1 x.2.2 := by
  refine Eq.trans (ev_lda (show zcode 113 118 = some (6, 119, 0, 0, []) by decide +kernel) rfl (by decide)) ?_
  refine Eq.trans (ev_lda (show zcode 113 119 = some (6, 120, 0, 0, []) by decide +kernel) rfl (by decide)) ?_
  refine Eq.trans (ev_gq (show zcode 113 120 = some (56, 123, 0, 0, []) by decide +kernel) (so78 hS) (sp78_0 hS)) ?_
  refine Eq.trans (ev_gq (show zcode 113 123 = some (56, 126, 5, 7, []) by decide +kernel) (so79 hS) (sp79_7 hS)) ?_
  refine Eq.trans (ev_ldi (show zcode 113 126 = some (4, 128, 4, 0, []) by decide +kernel) rfl) ?_
  refine Eq.trans (ev_ia (show zcode 113 128 = some (60, 129, 0, 0, []) by decide +kernel) (sa86 hS) h1) ?_
  refine Eq.trans (ev_lda (show zcode 113 129 = some (6, 130, 0, 0, []) by decide +kernel) rfl (by decide)) ?_
  refine Eq.trans (ev_gq (show zcode 113 130 = some (56, 133, 0, 1, []) by decide +kernel) (so78 hS) (sp78_1 hS)) ?_
  refine Eq.trans (ev_gq (show zcode 113 133 = some (56, 136, 5, 7, []) by decide +kernel) (so87 hS) (sp87_7 hS)) ?_
  refine Eq.trans (ev_ldi (show zcode 113 136 = some (4, 138, 5, 0, []) by decide +kernel) rfl) ?_
  refine Eq.trans (ev_ia (show zcode 113 138 = some (60, 139, 0, 0, []) by decide +kernel) (sa94 hS) h2) ?_
  exact ev_cvirt (show zcode 113 139 = some (76, 142, 116, 3, [0]) by decide +kernel) (args := [(0, (V 86 x4)), (0, (V 94 x5))]) (rest := []) rfl (so78 hS) rfl (show 0 ≤ 8 by decide) ⟨by decide, show 3 ≤ 4 by decide⟩
theorem b113_142 {T : zT} {V : zM} {q1 : Int} {x2 : Int} {x3 : Int} {x4 : Int} {x5 : Int} {x6 : Int} {v7 : zV} {y0 : Int} (hS : zStr T)  : ev 113 142 [(2, 78), (2, q1), (0, x2), (0, x3), (0, x4), (0, x5), (0, x6), v7] [(0, y0)] T V = (zcall 117 [(2, 78), (0, x3), (0, y0), (2, q1), (0, x6), (0, x2)] T V).bind fun x => ev 113 155 [(2, 78), (2, q1), (0, x2), (0, x3), (0, x4), (0, x5), (0, x6), (0, y0)] (z_push x.1 []) x.2.1 x.2.2 := by
  refine Eq.trans (ev_sti (show zcode 113 142 = some (7, 144, 7, 0, []) by decide +kernel) ⟨show 7 < 8 by decide, Or.inr (show ¬ (0 : Nat) = 1 by decide)⟩) ?_
  refine Eq.trans (ev_lda (show zcode 113 144 = some (6, 145, 0, 0, []) by decide +kernel) rfl (by decide)) ?_
  refine Eq.trans (ev_ldi (show zcode 113 145 = some (4, 146, 3, 0, []) by decide +kernel) rfl) ?_
  refine Eq.trans (ev_ldi (show zcode 113 146 = some (4, 148, 7, 0, []) by decide +kernel) rfl) ?_
  refine Eq.trans (ev_lda (show zcode 113 148 = some (6, 149, 1, 0, []) by decide +kernel) rfl (by decide)) ?_
  refine Eq.trans (ev_ldi (show zcode 113 149 = some (4, 151, 6, 0, []) by decide +kernel) rfl) ?_
  refine Eq.trans (ev_ldi (show zcode 113 151 = some (4, 152, 2, 0, []) by decide +kernel) rfl) ?_
  exact ev_cvirt (show zcode 113 152 = some (76, 155, 117, 6, [0]) by decide +kernel) (args := [(0, x3), (0, y0), (2, q1), (0, x6), (0, x2)]) (rest := []) rfl (so78 hS) rfl (show 0 ≤ 8 by decide) ⟨by decide, show 6 ≤ 13 by decide⟩
theorem b113_155 {T : zT} {V : zM} {q1 : Int} {x2 : Int} {x3 : Int} {x4 : Int} {x5 : Int} {x6 : Int} {v7 : zV} (h1 : -2147483648 ≤ (x5 + 1) ∧ (x5 + 1) ≤ 2147483647) : ev 113 155 [(2, 78), (2, q1), (0, x2), (0, x3), (0, x4), (0, x5), (0, x6), v7] [] T V = ev 113 71 [(2, 78), (2, q1), (0, x2), (0, x3), (0, x4), (0, (x5 + 1)), (0, x6), v7] [] T V := by
  refine Eq.trans (ev_inc (show zcode 113 155 = some (10, 158, 5, 1, []) by decide +kernel) rfl h1 (Or.inr (show ¬ (0 : Nat) = 1 by decide))) ?_
  exact ev_goto (show zcode 113 158 = some (53, 161, 71, 0, []) by decide +kernel)
theorem b113_161 {T : zT} {V : zM} {q1 : Int} {x2 : Int} {x3 : Int} {x4 : Int} {x5 : Int} {v6 : zV} {v7 : zV} (h1 : -2147483648 ≤ (x4 + 1) ∧ (x4 + 1) ≤ 2147483647) : ev 113 161 [(2, 78), (2, q1), (0, x2), (0, x3), (0, x4), (0, x5), v6, v7] [] T V = ev 113 56 [(2, 78), (2, q1), (0, x2), (0, x3), (0, (x4 + 1)), (0, x5), v6, v7] [] T V := by
  refine Eq.trans (ev_inc (show zcode 113 161 = some (10, 164, 4, 1, []) by decide +kernel) rfl h1 (Or.inr (show ¬ (0 : Nat) = 1 by decide))) ?_
  exact ev_goto (show zcode 113 164 = some (53, 167, 56, 0, []) by decide +kernel)
theorem b113_167 {T : zT} {V : zM} {q1 : Int} {x2 : Int} {x3 : Int} {x4 : Int} {v5 : zV} {v6 : zV} {v7 : zV} (h1 : -2147483648 ≤ (x3 + 1) ∧ (x3 + 1) ≤ 2147483647) : ev 113 167 [(2, 78), (2, q1), (0, x2), (0, x3), (0, x4), v5, v6, v7] [] T V = ev 113 10 [(2, 78), (2, q1), (0, x2), (0, (x3 + 1)), (0, x4), v5, v6, v7] [] T V := by
  refine Eq.trans (ev_inc (show zcode 113 167 = some (10, 170, 3, 1, []) by decide +kernel) rfl h1 (Or.inr (show ¬ (0 : Nat) = 1 by decide))) ?_
  exact ev_goto (show zcode 113 170 = some (53, 173, 10, 0, []) by decide +kernel)
theorem b113_173 {T : zT} {V : zM} {q1 : Int} {x2 : Int} {x3 : Int} {v4 : zV} {v5 : zV} {v6 : zV} {v7 : zV} : ev 113 173 [(2, 78), (2, q1), (0, x2), (0, x3), v4, v5, v6, v7] [] T V = ev 113 175 [(2, 78), (2, q1), (0, x2), (0, 0), v4, v5, v6, v7] [] T V := by
  refine Eq.trans (ev_ci (show zcode 113 173 = some (0, 174, 0, 0, []) by decide +kernel) (by decide)) ?_
  exact ev_sti (show zcode 113 174 = some (7, 175, 3, 0, []) by decide +kernel) ⟨show 3 < 8 by decide, Or.inr (show ¬ (0 : Nat) = 1 by decide)⟩
theorem b113_175 {T : zT} {V : zM} {q1 : Int} {x2 : Int} {x3 : Int} {v4 : zV} {v5 : zV} {v6 : zV} {v7 : zV} {n1 : Int} (hS : zStr T) (h1 : zLayer T (zp T 78 3) n1) : ev 113 175 [(2, 78), (2, q1), (0, x2), (0, x3), v4, v5, v6, v7] [] T V = if (V (zp T 78 3) 0) ≤ x3 then ev 113 225 [(2, 78), (2, q1), (0, x2), (0, x3), v4, v5, v6, v7] [] T V else ev 113 186 [(2, 78), (2, q1), (0, x2), (0, x3), v4, v5, v6, v7] [] T V := by
  refine Eq.trans (ev_ldi (show zcode 113 175 = some (4, 176, 3, 0, []) by decide +kernel) rfl) ?_
  refine Eq.trans (ev_lda (show zcode 113 176 = some (6, 177, 0, 0, []) by decide +kernel) rfl (by decide)) ?_
  refine Eq.trans (ev_gr (show zcode 113 177 = some (56, 180, 0, 3, []) by decide +kernel) (so78 hS)) ?_
  refine Eq.trans (ev_gi (show zcode 113 180 = some (55, 183, 1, 0, []) by decide +kernel) h1.o) ?_
  exact ev_cge (show zcode 113 183 = some (49, 186, 225, 0, []) by decide +kernel)
theorem b113_186 {T : zT} {V : zM} {q1 : Int} {x2 : Int} {x3 : Int} {v4 : zV} {v5 : zV} {v6 : zV} {v7 : zV} {n1 : Int} {n2 : Int} (hS : zStr T) (h1 : zLayer T (zp T 78 3) n1) (h2 : (0 : Int) ≤ x3 ∧ x3 < n1) (h3 : -2147483648 ≤ ((V (zp T (zp T 78 3) 1) x3) * (V 87 5)) ∧ ((V (zp T (zp T 78 3) 1) x3) * (V 87 5)) ≤ 2147483647) (h4 : -2147483648 ≤ (((V (zp T (zp T 78 3) 1) x3) * (V 87 5)) + (V (zp T (zp T 78 3) 2) x3)) ∧ (((V (zp T (zp T 78 3) 1) x3) * (V 87 5)) + (V (zp T (zp T 78 3) 2) x3)) ≤ 2147483647) (h5 : zAr T (zp T 78 4) 0 n2) (h6 : (0 : Int) ≤ (((V (zp T (zp T 78 3) 1) x3) * (V 87 5)) + (V (zp T (zp T 78 3) 2) x3)) ∧ (((V (zp T (zp T 78 3) 1) x3) * (V 87 5)) + (V (zp T (zp T 78 3) 2) x3)) < n2) (h7 : -2147483648 ≤ (x3 + 1) ∧ (x3 + 1) ≤ 2147483647) : ev 113 186 [(2, 78), (2, q1), (0, x2), (0, x3), v4, v5, v6, v7] [] T V = ev 113 175 [(2, 78), (2, q1), (0, x2), (0, (x3 + 1)), v4, v5, v6, v7] [] T (zwr V (zp T 78 4) (((V (zp T (zp T 78 3) 1) x3) * (V 87 5)) + (V (zp T (zp T 78 3) 2) x3)) (-1)) := by
  refine Eq.trans (ev_lda (show zcode 113 186 = some (6, 187, 0, 0, []) by decide +kernel) rfl (by decide)) ?_
  refine Eq.trans (ev_gr (show zcode 113 187 = some (56, 190, 0, 4, []) by decide +kernel) (so78 hS)) ?_
  refine Eq.trans (ev_lda (show zcode 113 190 = some (6, 191, 0, 0, []) by decide +kernel) rfl (by decide)) ?_
  refine Eq.trans (ev_gr (show zcode 113 191 = some (56, 194, 0, 3, []) by decide +kernel) (so78 hS)) ?_
  refine Eq.trans (ev_gr (show zcode 113 194 = some (56, 197, 1, 1, []) by decide +kernel) h1.o) ?_
  refine Eq.trans (ev_ldi (show zcode 113 197 = some (4, 198, 3, 0, []) by decide +kernel) rfl) ?_
  refine Eq.trans (ev_ia (show zcode 113 198 = some (60, 199, 0, 0, []) by decide +kernel) h1.a1 h2) ?_
  refine Eq.trans (ev_lda (show zcode 113 199 = some (6, 200, 0, 0, []) by decide +kernel) rfl (by decide)) ?_
  refine Eq.trans (ev_gq (show zcode 113 200 = some (56, 203, 0, 1, []) by decide +kernel) (so78 hS) (sp78_1 hS)) ?_
  refine Eq.trans (ev_gi (show zcode 113 203 = some (55, 206, 5, 5, []) by decide +kernel) (so87 hS)) ?_
  refine Eq.trans (ev_mul (show zcode 113 206 = some (13, 207, 0, 0, []) by decide +kernel) h3) ?_
  refine Eq.trans (ev_lda (show zcode 113 207 = some (6, 208, 0, 0, []) by decide +kernel) rfl (by decide)) ?_
  refine Eq.trans (ev_gr (show zcode 113 208 = some (56, 211, 0, 3, []) by decide +kernel) (so78 hS)) ?_
  refine Eq.trans (ev_gr (show zcode 113 211 = some (56, 214, 1, 2, []) by decide +kernel) h1.o) ?_
  refine Eq.trans (ev_ldi (show zcode 113 214 = some (4, 215, 3, 0, []) by decide +kernel) rfl) ?_
  refine Eq.trans (ev_ia (show zcode 113 215 = some (60, 216, 0, 0, []) by decide +kernel) h1.a2 h2) ?_
  refine Eq.trans (ev_add (show zcode 113 216 = some (11, 217, 0, 0, []) by decide +kernel) h4) ?_
  refine Eq.trans (ev_ci (show zcode 113 217 = some (0, 218, 0, (-1), []) by decide +kernel) (by decide)) ?_
  refine Eq.trans (ev_is (show zcode 113 218 = some (64, 219, 0, 0, []) by decide +kernel) h5 h6) ?_
  refine Eq.trans (ev_inc (show zcode 113 219 = some (10, 222, 3, 1, []) by decide +kernel) rfl h7 (Or.inr (show ¬ (0 : Nat) = 1 by decide))) ?_
  exact ev_goto (show zcode 113 222 = some (53, 225, 175, 0, []) by decide +kernel)
theorem b113_225 {T : zT} {V : zM} {q1 : Int} {x2 : Int} {x3 : Int} {v4 : zV} {v5 : zV} {v6 : zV} {v7 : zV} (hS : zStr T)  : ev 113 225 [(2, 78), (2, q1), (0, x2), (0, x3), v4, v5, v6, v7] [] T V = ev 113 238 [(2, 78), (2, q1), (0, x2), (2, (zp T 78 2)), v4, v5, v6, v7] [] (zqw T 78 2 (zp T 78 3)) V := by
  refine Eq.trans (ev_lda (show zcode 113 225 = some (6, 226, 0, 0, []) by decide +kernel) rfl (by decide)) ?_
  refine Eq.trans (ev_gr (show zcode 113 226 = some (56, 229, 0, 2, []) by decide +kernel) (so78 hS)) ?_
  refine Eq.trans (ev_sta (show zcode 113 229 = some (9, 230, 3, 0, []) by decide +kernel) ⟨show 3 < 8 by decide, Or.inr (show ¬ (0 : Nat) = 1 by decide)⟩) ?_
  refine Eq.trans (ev_lda (show zcode 113 230 = some (6, 231, 0, 0, []) by decide +kernel) rfl (by decide)) ?_
  refine Eq.trans (ev_lda (show zcode 113 231 = some (6, 232, 0, 0, []) by decide +kernel) rfl (by decide)) ?_
  refine Eq.trans (ev_gr (show zcode 113 232 = some (56, 235, 0, 3, []) by decide +kernel) (so78 hS)) ?_
  exact ev_pr (show zcode 113 235 = some (59, 238, 0, 2, []) by decide +kernel) (so78 hS)
theorem b113_238 {T : zT} {V : zM} {q1 : Int} {x2 : Int} {q3 : Int} {v4 : zV} {v5 : zV} {v6 : zV} {v7 : zV} (hS : zStr T)  : ev 113 238 [(2, 78), (2, q1), (0, x2), (2, q3), v4, v5, v6, v7] [] T V = ev 113 243 [(2, 78), (2, q1), (0, x2), (2, q3), v4, v5, v6, v7] [] (zqw T 78 3 q3) V := by
  refine Eq.trans (ev_lda (show zcode 113 238 = some (6, 239, 0, 0, []) by decide +kernel) rfl (by decide)) ?_
  refine Eq.trans (ev_lda (show zcode 113 239 = some (6, 240, 3, 0, []) by decide +kernel) rfl (by decide)) ?_
  exact ev_pr (show zcode 113 240 = some (59, 243, 0, 3, []) by decide +kernel) (so78 hS)
theorem b113_243 {T : zT} {V : zM} {q1 : Int} {x2 : Int} {q3 : Int} {v4 : zV} {v5 : zV} {v6 : zV} {v7 : zV} : ev 113 243 [(2, 78), (2, q1), (0, x2), (2, q3), v4, v5, v6, v7] [] T V = some ((9, 0), T, V) := by
  exact ev_rn (show zcode 113 243 = some (73, 244, 0, 0, []) by decide +kernel)
/-! 114: TwoWayWall$Rows.listMoves(I)V -/
theorem e114 {T : zT} {V : zM} {q0 : Int} {x1 : Int} : zcall 114 [(2, q0), (0, x1)] T V = ev 114 0 [(2, q0), (0, x1), (9, 0), (9, 0)] [] T V := rfl
theorem b114_0 {T : zT} {V : zM} {q0 : Int} {x1 : Int} (h1 : zRows T q0) (h2 : (0 : Int) ≤ x1 ∧ x1 < 196) : ev 114 0 [(2, q0), (0, x1), (9, 0), (9, 0)] [] T V = if ((zwr V q0 8 0) (q0 + 4) x1) = (-1) then ev 114 27 [(2, q0), (0, x1), (9, 0), (9, 0)] [] T (zwr V q0 8 0) else ev 114 15 [(2, q0), (0, x1), (9, 0), (9, 0)] [] T (zwr V q0 8 0) := by
  refine Eq.trans (ev_lda (show zcode 114 0 = some (6, 1, 0, 0, []) by decide +kernel) rfl (by decide)) ?_
  refine Eq.trans (ev_ci (show zcode 114 1 = some (0, 2, 0, 0, []) by decide +kernel) (by decide)) ?_
  refine Eq.trans (ev_pi (show zcode 114 2 = some (57, 5, 5, 8, []) by decide +kernel) h1.o) ?_
  refine Eq.trans (ev_lda (show zcode 114 5 = some (6, 6, 0, 0, []) by decide +kernel) rfl (by decide)) ?_
  refine Eq.trans (ev_gq (show zcode 114 6 = some (56, 9, 5, 3, []) by decide +kernel) h1.o h1.p3) ?_
  refine Eq.trans (ev_ldi (show zcode 114 9 = some (4, 10, 1, 0, []) by decide +kernel) rfl) ?_
  refine Eq.trans (ev_ia (show zcode 114 10 = some (60, 11, 0, 0, []) by decide +kernel) h1.a4 h2) ?_
  refine Eq.trans (ev_ci (show zcode 114 11 = some (0, 12, 0, (-1), []) by decide +kernel) (by decide)) ?_
  exact ev_ceq (show zcode 114 12 = some (46, 15, 27, 0, []) by decide +kernel)
theorem b114_15 {T : zT} {V : zM} {q0 : Int} {x1 : Int} (h1 : zRows T q0) (h2 : (0 : Int) ≤ x1 ∧ x1 < 196) : ev 114 15 [(2, q0), (0, x1), (9, 0), (9, 0)] [] T V = (zcall 115 [(2, q0), (0, 26), (0, (V (q0 + 4) x1))] T V).bind fun x => ev 114 27 [(2, q0), (0, x1), (9, 0), (9, 0)] (z_push x.1 []) x.2.1 x.2.2 := by
  refine Eq.trans (ev_lda (show zcode 114 15 = some (6, 16, 0, 0, []) by decide +kernel) rfl (by decide)) ?_
  refine Eq.trans (ev_ci (show zcode 114 16 = some (0, 18, 0, 26, []) by decide +kernel) (by decide)) ?_
  refine Eq.trans (ev_lda (show zcode 114 18 = some (6, 19, 0, 0, []) by decide +kernel) rfl (by decide)) ?_
  refine Eq.trans (ev_gq (show zcode 114 19 = some (56, 22, 5, 3, []) by decide +kernel) h1.o h1.p3) ?_
  refine Eq.trans (ev_ldi (show zcode 114 22 = some (4, 23, 1, 0, []) by decide +kernel) rfl) ?_
  refine Eq.trans (ev_ia (show zcode 114 23 = some (60, 24, 0, 0, []) by decide +kernel) h1.a4 h2) ?_
  exact ev_cvirt (show zcode 114 24 = some (76, 27, 115, 3, [5]) by decide +kernel) (args := [(0, 26), (0, (V (q0 + 4) x1))]) (rest := []) rfl h1.o rfl (show 0 ≤ 8 by decide) ⟨by decide, show 3 ≤ 3 by decide⟩
theorem b114_27 {T : zT} {V : zM} {q0 : Int} {x1 : Int} (h1 : zRows T q0) (h2 : (0 : Int) ≤ x1 ∧ x1 < 196) : ev 114 27 [(2, q0), (0, x1), (9, 0), (9, 0)] [] T V = ev 114 36 [(2, q0), (0, x1), (0, (V (q0 + 2) x1)), (0, 0)] [] T V := by
  refine Eq.trans (ev_lda (show zcode 114 27 = some (6, 28, 0, 0, []) by decide +kernel) rfl (by decide)) ?_
  refine Eq.trans (ev_gq (show zcode 114 28 = some (56, 31, 5, 1, []) by decide +kernel) h1.o h1.p1) ?_
  refine Eq.trans (ev_ldi (show zcode 114 31 = some (4, 32, 1, 0, []) by decide +kernel) rfl) ?_
  refine Eq.trans (ev_ia (show zcode 114 32 = some (60, 33, 0, 0, []) by decide +kernel) h1.a2 h2) ?_
  refine Eq.trans (ev_sti (show zcode 114 33 = some (7, 34, 2, 0, []) by decide +kernel) ⟨show 2 < 4 by decide, Or.inr (show ¬ (0 : Nat) = 1 by decide)⟩) ?_
  refine Eq.trans (ev_ci (show zcode 114 34 = some (0, 35, 0, 0, []) by decide +kernel) (by decide)) ?_
  exact ev_sti (show zcode 114 35 = some (7, 36, 3, 0, []) by decide +kernel) ⟨show 3 < 4 by decide, Or.inr (show ¬ (0 : Nat) = 1 by decide)⟩
theorem b114_36 {T : zT} {V : zM} {q0 : Int} {x1 : Int} {x2 : Int} {x3 : Int} : ev 114 36 [(2, q0), (0, x1), (0, x2), (0, x3)] [] T V = if 8 ≤ x3 then ev 114 71 [(2, q0), (0, x1), (0, x2), (0, x3)] [] T V else ev 114 42 [(2, q0), (0, x1), (0, x2), (0, x3)] [] T V := by
  refine Eq.trans (ev_ldi (show zcode 114 36 = some (4, 37, 3, 0, []) by decide +kernel) rfl) ?_
  refine Eq.trans (ev_ci (show zcode 114 37 = some (0, 39, 0, 8, []) by decide +kernel) (by decide)) ?_
  exact ev_cge (show zcode 114 39 = some (49, 42, 71, 0, []) by decide +kernel)
theorem b114_42 {T : zT} {V : zM} {q0 : Int} {x1 : Int} {x2 : Int} {x3 : Int} : ev 114 42 [(2, q0), (0, x1), (0, x2), (0, x3)] [] T V = if x2 = (-1) then ev 114 71 [(2, q0), (0, x1), (0, x2), (0, x3)] [] T V else ev 114 47 [(2, q0), (0, x1), (0, x2), (0, x3)] [] T V := by
  refine Eq.trans (ev_ldi (show zcode 114 42 = some (4, 43, 2, 0, []) by decide +kernel) rfl) ?_
  refine Eq.trans (ev_ci (show zcode 114 43 = some (0, 44, 0, (-1), []) by decide +kernel) (by decide)) ?_
  exact ev_ceq (show zcode 114 44 = some (46, 47, 71, 0, []) by decide +kernel)
theorem b114_47 {T : zT} {V : zM} {q0 : Int} {x1 : Int} {x2 : Int} {x3 : Int} (h1 : zRows T q0) (h2 : (0 : Int) ≤ x2 ∧ x2 < 196) : ev 114 47 [(2, q0), (0, x1), (0, x2), (0, x3)] [] T V = (zcall 115 [(2, q0), (0, (V (q0 + 1) x2)), (0, x2)] T V).bind fun x => ev 114 58 [(2, q0), (0, x1), (0, x2), (0, x3)] (z_push x.1 []) x.2.1 x.2.2 := by
  refine Eq.trans (ev_lda (show zcode 114 47 = some (6, 48, 0, 0, []) by decide +kernel) rfl (by decide)) ?_
  refine Eq.trans (ev_lda (show zcode 114 48 = some (6, 49, 0, 0, []) by decide +kernel) rfl (by decide)) ?_
  refine Eq.trans (ev_gq (show zcode 114 49 = some (56, 52, 5, 0, []) by decide +kernel) h1.o h1.p0) ?_
  refine Eq.trans (ev_ldi (show zcode 114 52 = some (4, 53, 2, 0, []) by decide +kernel) rfl) ?_
  refine Eq.trans (ev_ia (show zcode 114 53 = some (60, 54, 0, 0, []) by decide +kernel) h1.a1 h2) ?_
  refine Eq.trans (ev_ldi (show zcode 114 54 = some (4, 55, 2, 0, []) by decide +kernel) rfl) ?_
  exact ev_cvirt (show zcode 114 55 = some (76, 58, 115, 3, [5]) by decide +kernel) (args := [(0, (V (q0 + 1) x2)), (0, x2)]) (rest := []) rfl h1.o rfl (show 0 ≤ 8 by decide) ⟨by decide, show 3 ≤ 3 by decide⟩
theorem b114_58 {T : zT} {V : zM} {q0 : Int} {x1 : Int} {x2 : Int} {x3 : Int} (h1 : zRows T q0) (h2 : (0 : Int) ≤ x2 ∧ x2 < 196) (h3 : -2147483648 ≤ (x3 + 1) ∧ (x3 + 1) ≤ 2147483647) : ev 114 58 [(2, q0), (0, x1), (0, x2), (0, x3)] [] T V = ev 114 36 [(2, q0), (0, x1), (0, (V (q0 + 3) x2)), (0, (x3 + 1))] [] T V := by
  refine Eq.trans (ev_lda (show zcode 114 58 = some (6, 59, 0, 0, []) by decide +kernel) rfl (by decide)) ?_
  refine Eq.trans (ev_gq (show zcode 114 59 = some (56, 62, 5, 2, []) by decide +kernel) h1.o h1.p2) ?_
  refine Eq.trans (ev_ldi (show zcode 114 62 = some (4, 63, 2, 0, []) by decide +kernel) rfl) ?_
  refine Eq.trans (ev_ia (show zcode 114 63 = some (60, 64, 0, 0, []) by decide +kernel) h1.a3 h2) ?_
  refine Eq.trans (ev_sti (show zcode 114 64 = some (7, 65, 2, 0, []) by decide +kernel) ⟨show 2 < 4 by decide, Or.inr (show ¬ (0 : Nat) = 1 by decide)⟩) ?_
  refine Eq.trans (ev_inc (show zcode 114 65 = some (10, 68, 3, 1, []) by decide +kernel) rfl h3 (Or.inr (show ¬ (0 : Nat) = 1 by decide))) ?_
  exact ev_goto (show zcode 114 68 = some (53, 71, 36, 0, []) by decide +kernel)
theorem b114_71 {T : zT} {V : zM} {q0 : Int} {x1 : Int} {x2 : Int} {x3 : Int} : ev 114 71 [(2, q0), (0, x1), (0, x2), (0, x3)] [] T V = some ((9, 0), T, V) := by
  exact ev_rn (show zcode 114 71 = some (73, 72, 0, 0, []) by decide +kernel)
/-! 115: TwoWayWall$Rows.addMove(II)V -/
theorem e115 {T : zT} {V : zM} {q0 : Int} {x1 : Int} {x2 : Int} : zcall 115 [(2, q0), (0, x1), (0, x2)] T V = ev 115 0 [(2, q0), (0, x1), (0, x2)] [] T V := rfl
theorem b115_0 {T : zT} {V : zM} {q0 : Int} {x1 : Int} {x2 : Int} (h1 : zRows T q0) : ev 115 0 [(2, q0), (0, x1), (0, x2)] [] T V = if 9 ≤ (V q0 8) then ev 115 39 [(2, q0), (0, x1), (0, x2)] [] T V else ev 115 9 [(2, q0), (0, x1), (0, x2)] [] T V := by
  refine Eq.trans (ev_lda (show zcode 115 0 = some (6, 1, 0, 0, []) by decide +kernel) rfl (by decide)) ?_
  refine Eq.trans (ev_gi (show zcode 115 1 = some (55, 4, 5, 8, []) by decide +kernel) h1.o) ?_
  refine Eq.trans (ev_ci (show zcode 115 4 = some (0, 6, 0, 9, []) by decide +kernel) (by decide)) ?_
  exact ev_cge (show zcode 115 6 = some (49, 9, 39, 0, []) by decide +kernel)
theorem b115_9 {T : zT} {V : zM} {q0 : Int} {x1 : Int} {x2 : Int} (h1 : zRows T q0) (h2 : (0 : Int) ≤ (V q0 8) ∧ (V q0 8) < 9) (h3 : (0 : Int) ≤ ((zwr V (q0 + 6) (V q0 8) x1) q0 8) ∧ ((zwr V (q0 + 6) (V q0 8) x1) q0 8) < 9) (h4 : -2147483648 ≤ (((zwr (zwr V (q0 + 6) (V q0 8) x1) (q0 + 7) ((zwr V (q0 + 6) (V q0 8) x1) q0 8) x2) q0 8) + 1) ∧ (((zwr (zwr V (q0 + 6) (V q0 8) x1) (q0 + 7) ((zwr V (q0 + 6) (V q0 8) x1) q0 8) x2) q0 8) + 1) ≤ 2147483647) : ev 115 9 [(2, q0), (0, x1), (0, x2)] [] T V = ev 115 39 [(2, q0), (0, x1), (0, x2)] [] T (zwr (zwr (zwr V (q0 + 6) (V q0 8) x1) (q0 + 7) ((zwr V (q0 + 6) (V q0 8) x1) q0 8) x2) q0 8 (((zwr (zwr V (q0 + 6) (V q0 8) x1) (q0 + 7) ((zwr V (q0 + 6) (V q0 8) x1) q0 8) x2) q0 8) + 1)) := by
  refine Eq.trans (ev_lda (show zcode 115 9 = some (6, 10, 0, 0, []) by decide +kernel) rfl (by decide)) ?_
  refine Eq.trans (ev_gq (show zcode 115 10 = some (56, 13, 5, 6, []) by decide +kernel) h1.o h1.p6) ?_
  refine Eq.trans (ev_lda (show zcode 115 13 = some (6, 14, 0, 0, []) by decide +kernel) rfl (by decide)) ?_
  refine Eq.trans (ev_gi (show zcode 115 14 = some (55, 17, 5, 8, []) by decide +kernel) h1.o) ?_
  refine Eq.trans (ev_ldi (show zcode 115 17 = some (4, 18, 1, 0, []) by decide +kernel) rfl) ?_
  refine Eq.trans (ev_is (show zcode 115 18 = some (64, 19, 0, 0, []) by decide +kernel) h1.a6 h2) ?_
  refine Eq.trans (ev_lda (show zcode 115 19 = some (6, 20, 0, 0, []) by decide +kernel) rfl (by decide)) ?_
  refine Eq.trans (ev_gq (show zcode 115 20 = some (56, 23, 5, 7, []) by decide +kernel) h1.o h1.p7) ?_
  refine Eq.trans (ev_lda (show zcode 115 23 = some (6, 24, 0, 0, []) by decide +kernel) rfl (by decide)) ?_
  refine Eq.trans (ev_gi (show zcode 115 24 = some (55, 27, 5, 8, []) by decide +kernel) h1.o) ?_
  refine Eq.trans (ev_ldi (show zcode 115 27 = some (4, 28, 2, 0, []) by decide +kernel) rfl) ?_
  refine Eq.trans (ev_is (show zcode 115 28 = some (64, 29, 0, 0, []) by decide +kernel) h1.a7 h3) ?_
  refine Eq.trans (ev_lda (show zcode 115 29 = some (6, 30, 0, 0, []) by decide +kernel) rfl (by decide)) ?_
  refine Eq.trans (ev_dup (show zcode 115 30 = some (36, 31, 0, 0, []) by decide +kernel) (by decide)) ?_
  refine Eq.trans (ev_gi (show zcode 115 31 = some (55, 34, 5, 8, []) by decide +kernel) h1.o) ?_
  refine Eq.trans (ev_ci (show zcode 115 34 = some (0, 35, 0, 1, []) by decide +kernel) (by decide)) ?_
  refine Eq.trans (ev_add (show zcode 115 35 = some (11, 36, 0, 0, []) by decide +kernel) h4) ?_
  exact ev_pi (show zcode 115 36 = some (57, 39, 5, 8, []) by decide +kernel) h1.o
theorem b115_39 {T : zT} {V : zM} {q0 : Int} {x1 : Int} {x2 : Int} : ev 115 39 [(2, q0), (0, x1), (0, x2)] [] T V = some ((9, 0), T, V) := by
  exact ev_rn (show zcode 115 39 = some (73, 40, 0, 0, []) by decide +kernel)
/-! 116: TwoWayWall$Crossing.placeFor(II)I -/
theorem e116 {T : zT} {V : zM} {x1 : Int} {x2 : Int} : zcall 116 [(2, 78), (0, x1), (0, x2)] T V = ev 116 0 [(2, 78), (0, x1), (0, x2), (9, 0)] [] T V := rfl
theorem b116_0 {T : zT} {V : zM} {x1 : Int} {x2 : Int} {n1 : Int} (hS : zStr T) (h1 : -2147483648 ≤ (x1 * (V 87 5)) ∧ (x1 * (V 87 5)) ≤ 2147483647) (h2 : -2147483648 ≤ ((x1 * (V 87 5)) + x2) ∧ ((x1 * (V 87 5)) + x2) ≤ 2147483647) (h3 : zAr T (zp T 78 4) 0 n1) (h4 : (0 : Int) ≤ ((x1 * (V 87 5)) + x2) ∧ ((x1 * (V 87 5)) + x2) < n1) : ev 116 0 [(2, 78), (0, x1), (0, x2), (9, 0)] [] T V = if (V (zp T 78 4) ((x1 * (V 87 5)) + x2)) = (-1) then ev 116 22 [(2, 78), (0, x1), (0, x2), (0, ((x1 * (V 87 5)) + x2))] [] T V else ev 116 37 [(2, 78), (0, x1), (0, x2), (0, ((x1 * (V 87 5)) + x2))] [] T V := by
  refine Eq.trans (ev_ldi (show zcode 116 0 = some (4, 1, 1, 0, []) by decide +kernel) rfl) ?_
  refine Eq.trans (ev_lda (show zcode 116 1 = some (6, 2, 0, 0, []) by decide +kernel) rfl (by decide)) ?_
  refine Eq.trans (ev_gq (show zcode 116 2 = some (56, 5, 0, 1, []) by decide +kernel) (so78 hS) (sp78_1 hS)) ?_
  refine Eq.trans (ev_gi (show zcode 116 5 = some (55, 8, 5, 5, []) by decide +kernel) (so87 hS)) ?_
  refine Eq.trans (ev_mul (show zcode 116 8 = some (13, 9, 0, 0, []) by decide +kernel) h1) ?_
  refine Eq.trans (ev_ldi (show zcode 116 9 = some (4, 10, 2, 0, []) by decide +kernel) rfl) ?_
  refine Eq.trans (ev_add (show zcode 116 10 = some (11, 11, 0, 0, []) by decide +kernel) h2) ?_
  refine Eq.trans (ev_sti (show zcode 116 11 = some (7, 12, 3, 0, []) by decide +kernel) ⟨show 3 < 4 by decide, Or.inr (show ¬ (0 : Nat) = 1 by decide)⟩) ?_
  refine Eq.trans (ev_lda (show zcode 116 12 = some (6, 13, 0, 0, []) by decide +kernel) rfl (by decide)) ?_
  refine Eq.trans (ev_gr (show zcode 116 13 = some (56, 16, 0, 4, []) by decide +kernel) (so78 hS)) ?_
  refine Eq.trans (ev_ldi (show zcode 116 16 = some (4, 17, 3, 0, []) by decide +kernel) rfl) ?_
  refine Eq.trans (ev_ia (show zcode 116 17 = some (60, 18, 0, 0, []) by decide +kernel) h3 h4) ?_
  refine Eq.trans (ev_ci (show zcode 116 18 = some (0, 19, 0, (-1), []) by decide +kernel) (by decide)) ?_
  exact ev_cne (show zcode 116 19 = some (47, 22, 37, 0, []) by decide +kernel)
theorem b116_22 {T : zT} {V : zM} {x1 : Int} {x2 : Int} {x3 : Int} {n1 : Int} (hS : zStr T) (h1 : zLayer T (zp T 78 3) n1) : ev 116 22 [(2, 78), (0, x1), (0, x2), (0, x3)] [] T V = (zcall 107 [(2, (zp T 78 3)), (0, x1), (0, x2)] T V).bind fun x => ev 116 36 [(2, 78), (0, x1), (0, x2), (0, x3)] (z_push x.1 [(0, x3), (2, (zp T 78 4))]) x.2.1 x.2.2 := by
  refine Eq.trans (ev_lda (show zcode 116 22 = some (6, 23, 0, 0, []) by decide +kernel) rfl (by decide)) ?_
  refine Eq.trans (ev_gr (show zcode 116 23 = some (56, 26, 0, 4, []) by decide +kernel) (so78 hS)) ?_
  refine Eq.trans (ev_ldi (show zcode 116 26 = some (4, 27, 3, 0, []) by decide +kernel) rfl) ?_
  refine Eq.trans (ev_lda (show zcode 116 27 = some (6, 28, 0, 0, []) by decide +kernel) rfl (by decide)) ?_
  refine Eq.trans (ev_gr (show zcode 116 28 = some (56, 31, 0, 3, []) by decide +kernel) (so78 hS)) ?_
  refine Eq.trans (ev_ldi (show zcode 116 31 = some (4, 32, 1, 0, []) by decide +kernel) rfl) ?_
  refine Eq.trans (ev_ldi (show zcode 116 32 = some (4, 33, 2, 0, []) by decide +kernel) rfl) ?_
  exact ev_cvirt (show zcode 116 33 = some (76, 36, 107, 3, [1]) by decide +kernel) (args := [(0, x1), (0, x2)]) (rest := [(0, x3), (2, (zp T 78 4))]) rfl h1.o rfl (show 2 ≤ 8 by decide) ⟨by decide, show 3 ≤ 4 by decide⟩
theorem b116_36 {T : zT} {V : zM} {x1 : Int} {x2 : Int} {x3 : Int} {p0 : Int} {y1 : Int} {y2 : Int} {n1 : Int} (h1 : zAr T p0 0 n1) (h2 : (0 : Int) ≤ y1 ∧ y1 < n1) : ev 116 36 [(2, 78), (0, x1), (0, x2), (0, x3)] [(0, y2), (0, y1), (2, p0)] T V = ev 116 37 [(2, 78), (0, x1), (0, x2), (0, x3)] [] T (zwr V p0 y1 y2) := by
  exact ev_is (show zcode 116 36 = some (64, 37, 0, 0, []) by decide +kernel) h1 h2
theorem b116_37 {T : zT} {V : zM} {x1 : Int} {x2 : Int} {x3 : Int} {n1 : Int} (hS : zStr T) (h1 : zAr T (zp T 78 4) 0 n1) (h2 : (0 : Int) ≤ x3 ∧ x3 < n1) : ev 116 37 [(2, 78), (0, x1), (0, x2), (0, x3)] [] T V = some ((0, (V (zp T 78 4) x3)), T, V) := by
  refine Eq.trans (ev_lda (show zcode 116 37 = some (6, 38, 0, 0, []) by decide +kernel) rfl (by decide)) ?_
  refine Eq.trans (ev_gr (show zcode 116 38 = some (56, 41, 0, 4, []) by decide +kernel) (so78 hS)) ?_
  refine Eq.trans (ev_ldi (show zcode 116 41 = some (4, 42, 3, 0, []) by decide +kernel) rfl) ?_
  refine Eq.trans (ev_ia (show zcode 116 42 = some (60, 43, 0, 0, []) by decide +kernel) h1 h2) ?_
  exact ev_ri (show zcode 116 43 = some (72, 44, 0, 0, []) by decide +kernel)
/-! 117: TwoWayWall$Crossing.carry(IILTwoWayWall$PairTable;II)V -/
theorem e117 {T : zT} {V : zM} {x1 : Int} {x2 : Int} {q3 : Int} {x4 : Int} {x5 : Int} : zcall 117 [(2, 78), (0, x1), (0, x2), (2, q3), (0, x4), (0, x5)] T V = ev 117 0 [(2, 78), (0, x1), (0, x2), (2, q3), (0, x4), (0, x5), (9, 0), (9, 0), (9, 0), (9, 0), (9, 0), (9, 0), (9, 0)] [] T V := rfl
theorem b117_0 {T : zT} {V : zM} {x1 : Int} {x2 : Int} {q3 : Int} {x4 : Int} {x5 : Int} {n1 : Int} (hS : zStr T) (h1 : zLayer T (zp T 78 2) n1) (h2 : (0 : Int) ≤ x1 ∧ x1 < n1) (h3 : zPairT T q3) (h4 : (0 : Int) ≤ x4 ∧ x4 < 729) (h5 : -9223372036854775808 ≤ ((V (zp T (zp T 78 2) 3) x1) * (V (q3 + 1) x4)) ∧ ((V (zp T (zp T 78 2) 3) x1) * (V (q3 + 1) x4)) ≤ 9223372036854775807) (h6 : -2147483648 ≤ ((V (zp T (zp T 78 2) 4) x1) + (V (q3 + 3) x4)) ∧ ((V (zp T (zp T 78 2) 4) x1) + (V (q3 + 3) x4)) ≤ 2147483647) : ev 117 0 [(2, 78), (0, x1), (0, x2), (2, q3), (0, x4), (0, x5), (9, 0), (9, 0), (9, 0), (9, 0), (9, 0), (9, 0), (9, 0)] [] T V = if 8 ≤ x5 then ev 117 87 [(2, 78), (0, x1), (0, x2), (2, q3), (0, x4), (0, x5), (1, ((V (zp T (zp T 78 2) 3) x1) * (V (q3 + 1) x4))), (9, 0), (0, ((V (zp T (zp T 78 2) 4) x1) + (V (q3 + 3) x4))), (1, (V (zp T (zp T 78 2) 5) x1)), (9, 0), (1, (V (zp T (zp T 78 2) 6) x1)), (9, 0)] [] T V else ev 117 68 [(2, 78), (0, x1), (0, x2), (2, q3), (0, x4), (0, x5), (1, ((V (zp T (zp T 78 2) 3) x1) * (V (q3 + 1) x4))), (9, 0), (0, ((V (zp T (zp T 78 2) 4) x1) + (V (q3 + 3) x4))), (1, (V (zp T (zp T 78 2) 5) x1)), (9, 0), (1, (V (zp T (zp T 78 2) 6) x1)), (9, 0)] [] T V := by
  refine Eq.trans (ev_lda (show zcode 117 0 = some (6, 1, 0, 0, []) by decide +kernel) rfl (by decide)) ?_
  refine Eq.trans (ev_gr (show zcode 117 1 = some (56, 4, 0, 2, []) by decide +kernel) (so78 hS)) ?_
  refine Eq.trans (ev_gr (show zcode 117 4 = some (56, 7, 1, 3, []) by decide +kernel) h1.o) ?_
  refine Eq.trans (ev_ldi (show zcode 117 7 = some (4, 8, 1, 0, []) by decide +kernel) rfl) ?_
  refine Eq.trans (ev_la (show zcode 117 8 = some (61, 9, 0, 0, []) by decide +kernel) h1.a3 h2) ?_
  refine Eq.trans (ev_lda (show zcode 117 9 = some (6, 10, 3, 0, []) by decide +kernel) rfl (by decide)) ?_
  refine Eq.trans (ev_gq (show zcode 117 10 = some (56, 13, 3, 0, []) by decide +kernel) h3.o h3.p0) ?_
  refine Eq.trans (ev_ldi (show zcode 117 13 = some (4, 15, 4, 0, []) by decide +kernel) rfl) ?_
  refine Eq.trans (ev_ia (show zcode 117 15 = some (60, 16, 0, 0, []) by decide +kernel) h3.a1 h4) ?_
  refine Eq.trans (ev_i2l (show zcode 117 16 = some (32, 17, 0, 0, []) by decide +kernel)) ?_
  refine Eq.trans (ev_lmul (show zcode 117 17 = some (25, 18, 0, 0, []) by decide +kernel) h5) ?_
  refine Eq.trans (ev_stl (show zcode 117 18 = some (8, 20, 6, 0, []) by decide +kernel) ⟨show 7 < 13 by decide, Or.inr (show ¬ (0 : Nat) = 1 by decide)⟩) ?_
  refine Eq.trans (ev_lda (show zcode 117 20 = some (6, 21, 0, 0, []) by decide +kernel) rfl (by decide)) ?_
  refine Eq.trans (ev_gr (show zcode 117 21 = some (56, 24, 0, 2, []) by decide +kernel) (so78 hS)) ?_
  refine Eq.trans (ev_gr (show zcode 117 24 = some (56, 27, 1, 4, []) by decide +kernel) h1.o) ?_
  refine Eq.trans (ev_ldi (show zcode 117 27 = some (4, 28, 1, 0, []) by decide +kernel) rfl) ?_
  refine Eq.trans (ev_ia (show zcode 117 28 = some (60, 29, 0, 0, []) by decide +kernel) h1.a4 h2) ?_
  refine Eq.trans (ev_lda (show zcode 117 29 = some (6, 30, 3, 0, []) by decide +kernel) rfl (by decide)) ?_
  refine Eq.trans (ev_gq (show zcode 117 30 = some (56, 33, 3, 2, []) by decide +kernel) h3.o h3.p2) ?_
  refine Eq.trans (ev_ldi (show zcode 117 33 = some (4, 35, 4, 0, []) by decide +kernel) rfl) ?_
  refine Eq.trans (ev_ia (show zcode 117 35 = some (60, 36, 0, 0, []) by decide +kernel) h3.a3 h4) ?_
  refine Eq.trans (ev_add (show zcode 117 36 = some (11, 37, 0, 0, []) by decide +kernel) h6) ?_
  refine Eq.trans (ev_sti (show zcode 117 37 = some (7, 39, 8, 0, []) by decide +kernel) ⟨show 8 < 13 by decide, Or.inr (show ¬ (9 : Nat) = 1 by decide)⟩) ?_
  refine Eq.trans (ev_lda (show zcode 117 39 = some (6, 40, 0, 0, []) by decide +kernel) rfl (by decide)) ?_
  refine Eq.trans (ev_gr (show zcode 117 40 = some (56, 43, 0, 2, []) by decide +kernel) (so78 hS)) ?_
  refine Eq.trans (ev_gr (show zcode 117 43 = some (56, 46, 1, 5, []) by decide +kernel) h1.o) ?_
  refine Eq.trans (ev_ldi (show zcode 117 46 = some (4, 47, 1, 0, []) by decide +kernel) rfl) ?_
  refine Eq.trans (ev_la (show zcode 117 47 = some (61, 48, 0, 0, []) by decide +kernel) h1.a5 h2) ?_
  refine Eq.trans (ev_stl (show zcode 117 48 = some (8, 50, 9, 0, []) by decide +kernel) ⟨show 10 < 13 by decide, Or.inr (show ¬ (0 : Nat) = 1 by decide)⟩) ?_
  refine Eq.trans (ev_lda (show zcode 117 50 = some (6, 51, 0, 0, []) by decide +kernel) rfl (by decide)) ?_
  refine Eq.trans (ev_gr (show zcode 117 51 = some (56, 54, 0, 2, []) by decide +kernel) (so78 hS)) ?_
  refine Eq.trans (ev_gr (show zcode 117 54 = some (56, 57, 1, 6, []) by decide +kernel) h1.o) ?_
  refine Eq.trans (ev_ldi (show zcode 117 57 = some (4, 58, 1, 0, []) by decide +kernel) rfl) ?_
  refine Eq.trans (ev_la (show zcode 117 58 = some (61, 59, 0, 0, []) by decide +kernel) h1.a6 h2) ?_
  refine Eq.trans (ev_stl (show zcode 117 59 = some (8, 61, 11, 0, []) by decide +kernel) ⟨show 12 < 13 by decide, Or.inr (show ¬ (9 : Nat) = 1 by decide)⟩) ?_
  refine Eq.trans (ev_ldi (show zcode 117 61 = some (4, 63, 5, 0, []) by decide +kernel) rfl) ?_
  refine Eq.trans (ev_ci (show zcode 117 63 = some (0, 65, 0, 8, []) by decide +kernel) (by decide)) ?_
  exact ev_cge (show zcode 117 65 = some (49, 68, 87, 0, []) by decide +kernel)
theorem b117_68 {T : zT} {V : zM} {x1 : Int} {x2 : Int} {q3 : Int} {x4 : Int} {x5 : Int} {x6 : Int} {x8 : Int} {x9 : Int} {x11 : Int} (h1 : -9223372036854775808 ≤ (x9 * 128) ∧ (x9 * 128) ≤ 9223372036854775807) (h2 : zPairT T q3) (h3 : (0 : Int) ≤ x4 ∧ x4 < 729) : ev 117 68 [(2, 78), (0, x1), (0, x2), (2, q3), (0, x4), (0, x5), (1, x6), (9, 0), (0, x8), (1, x9), (9, 0), (1, x11), (9, 0)] [] T V = ev 117 103 [(2, 78), (0, x1), (0, x2), (2, q3), (0, x4), (0, x5), (1, x6), (9, 0), (0, x8), (1, (zlor (x9 * 128) (V (q3 + 2) x4))), (9, 0), (1, x11), (9, 0)] [] T V := by
  refine Eq.trans (ev_ldl (show zcode 117 68 = some (5, 70, 9, 0, []) by decide +kernel) rfl) ?_
  refine Eq.trans (ev_ci (show zcode 117 70 = some (0, 72, 0, 7, []) by decide +kernel) (by decide)) ?_
  refine Eq.trans (ev_lshl2 (show zcode 117 72 = some (29, 73, 0, 0, []) by decide +kernel) (p := 128) (by decide) (by decide) h1) ?_
  refine Eq.trans (ev_lda (show zcode 117 73 = some (6, 74, 3, 0, []) by decide +kernel) rfl (by decide)) ?_
  refine Eq.trans (ev_gq (show zcode 117 74 = some (56, 77, 3, 1, []) by decide +kernel) h2.o h2.p1) ?_
  refine Eq.trans (ev_ldi (show zcode 117 77 = some (4, 79, 4, 0, []) by decide +kernel) rfl) ?_
  refine Eq.trans (ev_ia (show zcode 117 79 = some (60, 80, 0, 0, []) by decide +kernel) h2.a2 h3) ?_
  refine Eq.trans (ev_i2l (show zcode 117 80 = some (32, 81, 0, 0, []) by decide +kernel)) ?_
  refine Eq.trans (ev_lor (show zcode 117 81 = some (27, 82, 0, 0, []) by decide +kernel)) ?_
  refine Eq.trans (ev_stl (show zcode 117 82 = some (8, 84, 9, 0, []) by decide +kernel) ⟨show 10 < 13 by decide, Or.inr (show ¬ (0 : Nat) = 1 by decide)⟩) ?_
  exact ev_goto (show zcode 117 84 = some (53, 87, 103, 0, []) by decide +kernel)
theorem b117_87 {T : zT} {V : zM} {x1 : Int} {x2 : Int} {q3 : Int} {x4 : Int} {x5 : Int} {x6 : Int} {x8 : Int} {x9 : Int} {x11 : Int} (h1 : -9223372036854775808 ≤ (x11 * 128) ∧ (x11 * 128) ≤ 9223372036854775807) (h2 : zPairT T q3) (h3 : (0 : Int) ≤ x4 ∧ x4 < 729) : ev 117 87 [(2, 78), (0, x1), (0, x2), (2, q3), (0, x4), (0, x5), (1, x6), (9, 0), (0, x8), (1, x9), (9, 0), (1, x11), (9, 0)] [] T V = ev 117 103 [(2, 78), (0, x1), (0, x2), (2, q3), (0, x4), (0, x5), (1, x6), (9, 0), (0, x8), (1, x9), (9, 0), (1, (zlor (x11 * 128) (V (q3 + 2) x4))), (9, 0)] [] T V := by
  refine Eq.trans (ev_ldl (show zcode 117 87 = some (5, 89, 11, 0, []) by decide +kernel) rfl) ?_
  refine Eq.trans (ev_ci (show zcode 117 89 = some (0, 91, 0, 7, []) by decide +kernel) (by decide)) ?_
  refine Eq.trans (ev_lshl2 (show zcode 117 91 = some (29, 92, 0, 0, []) by decide +kernel) (p := 128) (by decide) (by decide) h1) ?_
  refine Eq.trans (ev_lda (show zcode 117 92 = some (6, 93, 3, 0, []) by decide +kernel) rfl (by decide)) ?_
  refine Eq.trans (ev_gq (show zcode 117 93 = some (56, 96, 3, 1, []) by decide +kernel) h2.o h2.p1) ?_
  refine Eq.trans (ev_ldi (show zcode 117 96 = some (4, 98, 4, 0, []) by decide +kernel) rfl) ?_
  refine Eq.trans (ev_ia (show zcode 117 98 = some (60, 99, 0, 0, []) by decide +kernel) h2.a2 h3) ?_
  refine Eq.trans (ev_i2l (show zcode 117 99 = some (32, 100, 0, 0, []) by decide +kernel)) ?_
  refine Eq.trans (ev_lor (show zcode 117 100 = some (27, 101, 0, 0, []) by decide +kernel)) ?_
  exact ev_stl (show zcode 117 101 = some (8, 103, 11, 0, []) by decide +kernel) ⟨show 12 < 13 by decide, Or.inr (show ¬ (9 : Nat) = 1 by decide)⟩
theorem b117_103 {T : zT} {V : zM} {x1 : Int} {x2 : Int} {q3 : Int} {x4 : Int} {x5 : Int} {x6 : Int} {x8 : Int} {x9 : Int} {x11 : Int} {n1 : Int} {n2 : Int} (hS : zStr T) (h1 : zLayer T (zp T 78 2) n1) (h2 : (0 : Int) ≤ x1 ∧ x1 < n1) (h3 : zPairT T q3) (h4 : (0 : Int) ≤ x4 ∧ x4 < 729) (h5 : zLayer T (zp T 78 3) n2) : ev 117 103 [(2, 78), (0, x1), (0, x2), (2, q3), (0, x4), (0, x5), (1, x6), (9, 0), (0, x8), (1, x9), (9, 0), (1, x11), (9, 0)] [] T V = (zcall 112 [(2, (zp T 78 3)), (0, x2), (1, x6), (0, x8), (1, x9), (1, x11), (0, (zor (V (zp T (zp T 78 2) 7) x1) (V (q3 + 4) x4)))] T V).bind fun x => ev 117 136 [(2, 78), (0, x1), (0, x2), (2, q3), (0, x4), (0, x5), (1, x6), (9, 0), (0, x8), (1, x9), (9, 0), (1, x11), (9, 0)] (z_push x.1 []) x.2.1 x.2.2 := by
  refine Eq.trans (ev_lda (show zcode 117 103 = some (6, 104, 0, 0, []) by decide +kernel) rfl (by decide)) ?_
  refine Eq.trans (ev_gr (show zcode 117 104 = some (56, 107, 0, 3, []) by decide +kernel) (so78 hS)) ?_
  refine Eq.trans (ev_ldi (show zcode 117 107 = some (4, 108, 2, 0, []) by decide +kernel) rfl) ?_
  refine Eq.trans (ev_ldl (show zcode 117 108 = some (5, 110, 6, 0, []) by decide +kernel) rfl) ?_
  refine Eq.trans (ev_ldi (show zcode 117 110 = some (4, 112, 8, 0, []) by decide +kernel) rfl) ?_
  refine Eq.trans (ev_ldl (show zcode 117 112 = some (5, 114, 9, 0, []) by decide +kernel) rfl) ?_
  refine Eq.trans (ev_ldl (show zcode 117 114 = some (5, 116, 11, 0, []) by decide +kernel) rfl) ?_
  refine Eq.trans (ev_lda (show zcode 117 116 = some (6, 117, 0, 0, []) by decide +kernel) rfl (by decide)) ?_
  refine Eq.trans (ev_gr (show zcode 117 117 = some (56, 120, 0, 2, []) by decide +kernel) (so78 hS)) ?_
  refine Eq.trans (ev_gr (show zcode 117 120 = some (56, 123, 1, 7, []) by decide +kernel) h1.o) ?_
  refine Eq.trans (ev_ldi (show zcode 117 123 = some (4, 124, 1, 0, []) by decide +kernel) rfl) ?_
  refine Eq.trans (ev_ia (show zcode 117 124 = some (60, 125, 0, 0, []) by decide +kernel) h1.a7 h2) ?_
  refine Eq.trans (ev_lda (show zcode 117 125 = some (6, 126, 3, 0, []) by decide +kernel) rfl (by decide)) ?_
  refine Eq.trans (ev_gq (show zcode 117 126 = some (56, 129, 3, 3, []) by decide +kernel) h3.o h3.p3) ?_
  refine Eq.trans (ev_ldi (show zcode 117 129 = some (4, 131, 4, 0, []) by decide +kernel) rfl) ?_
  refine Eq.trans (ev_ia (show zcode 117 131 = some (60, 132, 0, 0, []) by decide +kernel) h3.a4 h4) ?_
  refine Eq.trans (ev_or (show zcode 117 132 = some (15, 133, 0, 0, []) by decide +kernel)) ?_
  exact ev_cvirt (show zcode 117 133 = some (76, 136, 112, 7, [1]) by decide +kernel) (args := [(0, x2), (1, x6), (0, x8), (1, x9), (1, x11), (0, (zor (V (zp T (zp T 78 2) 7) x1) (V (q3 + 4) x4)))]) (rest := []) rfl h5.o rfl (show 0 ≤ 8 by decide) ⟨by decide, show 10 ≤ 11 by decide⟩
theorem b117_136 {T : zT} {V : zM} {x1 : Int} {x2 : Int} {q3 : Int} {x4 : Int} {x5 : Int} {x6 : Int} {x8 : Int} {x9 : Int} {x11 : Int} : ev 117 136 [(2, 78), (0, x1), (0, x2), (2, q3), (0, x4), (0, x5), (1, x6), (9, 0), (0, x8), (1, x9), (9, 0), (1, x11), (9, 0)] [] T V = some ((9, 0), T, V) := by
  exact ev_rn (show zcode 117 136 = some (73, 137, 0, 0, []) by decide +kernel)
/-! 118: TwoWayWall$Crossing.gather(LTwoWayWall$Layer;I)V -/
theorem e118 {T : zT} {V : zM} {q1 : Int} {x2 : Int} : zcall 118 [(2, 78), (2, q1), (0, x2)] T V = ev 118 0 [(2, 78), (2, q1), (0, x2), (9, 0)] [] T V := rfl
theorem b118_0 {T : zT} {V : zM} {q1 : Int} {x2 : Int} {n1 : Int} (h1 : zLayer T q1 n1) : ev 118 0 [(2, 78), (2, q1), (0, x2), (9, 0)] [] T V = (zcall 111 [(2, q1), (0, x2)] T V).bind fun x => ev 118 5 [(2, 78), (2, q1), (0, x2), (9, 0)] (z_push x.1 []) x.2.1 x.2.2 := by
  refine Eq.trans (ev_lda (show zcode 118 0 = some (6, 1, 1, 0, []) by decide +kernel) rfl (by decide)) ?_
  refine Eq.trans (ev_ldi (show zcode 118 1 = some (4, 2, 2, 0, []) by decide +kernel) rfl) ?_
  exact ev_cvirt (show zcode 118 2 = some (76, 5, 111, 2, [1]) by decide +kernel) (args := [(0, x2)]) (rest := []) rfl h1.o rfl (show 0 ≤ 8 by decide) ⟨by decide, show 2 ≤ 2 by decide⟩
theorem b118_5 {T : zT} {V : zM} {q1 : Int} {x2 : Int} : ev 118 5 [(2, 78), (2, q1), (0, x2), (9, 0)] [] T V = ev 118 7 [(2, 78), (2, q1), (0, x2), (0, 0)] [] T V := by
  refine Eq.trans (ev_ci (show zcode 118 5 = some (0, 6, 0, 0, []) by decide +kernel) (by decide)) ?_
  exact ev_sti (show zcode 118 6 = some (7, 7, 3, 0, []) by decide +kernel) ⟨show 3 < 4 by decide, Or.inr (show ¬ (0 : Nat) = 1 by decide)⟩
theorem b118_7 {T : zT} {V : zM} {q1 : Int} {x2 : Int} {x3 : Int} {n1 : Int} (hS : zStr T) (h1 : zLayer T (zp T 78 2) n1) : ev 118 7 [(2, 78), (2, q1), (0, x2), (0, x3)] [] T V = if (V (zp T 78 2) 0) ≤ x3 then ev 118 114 [(2, 78), (2, q1), (0, x2), (0, x3)] [] T V else ev 118 18 [(2, 78), (2, q1), (0, x2), (0, x3)] [] T V := by
  refine Eq.trans (ev_ldi (show zcode 118 7 = some (4, 8, 3, 0, []) by decide +kernel) rfl) ?_
  refine Eq.trans (ev_lda (show zcode 118 8 = some (6, 9, 0, 0, []) by decide +kernel) rfl (by decide)) ?_
  refine Eq.trans (ev_gr (show zcode 118 9 = some (56, 12, 0, 2, []) by decide +kernel) (so78 hS)) ?_
  refine Eq.trans (ev_gi (show zcode 118 12 = some (55, 15, 1, 0, []) by decide +kernel) h1.o) ?_
  exact ev_cge (show zcode 118 15 = some (49, 18, 114, 0, []) by decide +kernel)
theorem b118_18 {T : zT} {V : zM} {q1 : Int} {x2 : Int} {x3 : Int} {n1 : Int} (hS : zStr T) (h1 : zLayer T (zp T 78 2) n1) (h2 : (0 : Int) ≤ x3 ∧ x3 < n1) (h3 : (0 : Int) ≤ (V (zp T (zp T 78 2) 1) x3) ∧ (V (zp T (zp T 78 2) 1) x3) < 196) : ev 118 18 [(2, 78), (2, q1), (0, x2), (0, x3)] [] T V = if (V 84 (V (zp T (zp T 78 2) 1) x3)) = 0 then ev 118 108 [(2, 78), (2, q1), (0, x2), (0, x3)] [] T V else ev 118 38 [(2, 78), (2, q1), (0, x2), (0, x3)] [] T V := by
  refine Eq.trans (ev_lda (show zcode 118 18 = some (6, 19, 0, 0, []) by decide +kernel) rfl (by decide)) ?_
  refine Eq.trans (ev_gq (show zcode 118 19 = some (56, 22, 0, 0, []) by decide +kernel) (so78 hS) (sp78_0 hS)) ?_
  refine Eq.trans (ev_gq (show zcode 118 22 = some (56, 25, 5, 4, []) by decide +kernel) (so79 hS) (sp79_4 hS)) ?_
  refine Eq.trans (ev_lda (show zcode 118 25 = some (6, 26, 0, 0, []) by decide +kernel) rfl (by decide)) ?_
  refine Eq.trans (ev_gr (show zcode 118 26 = some (56, 29, 0, 2, []) by decide +kernel) (so78 hS)) ?_
  refine Eq.trans (ev_gr (show zcode 118 29 = some (56, 32, 1, 1, []) by decide +kernel) h1.o) ?_
  refine Eq.trans (ev_ldi (show zcode 118 32 = some (4, 33, 3, 0, []) by decide +kernel) rfl) ?_
  refine Eq.trans (ev_ia (show zcode 118 33 = some (60, 34, 0, 0, []) by decide +kernel) h1.a1 h2) ?_
  refine Eq.trans (ev_za (show zcode 118 34 = some (62, 35, 0, 0, []) by decide +kernel) (sa84 hS) h3) ?_
  exact ev_eq (show zcode 118 35 = some (40, 38, 108, 0, []) by decide +kernel)
theorem b118_38 {T : zT} {V : zM} {q1 : Int} {x2 : Int} {x3 : Int} {n1 : Int} (hS : zStr T) (h1 : zLayer T (zp T 78 2) n1) (h2 : (0 : Int) ≤ x3 ∧ x3 < n1) (h3 : (0 : Int) ≤ (V (zp T (zp T 78 2) 2) x3) ∧ (V (zp T (zp T 78 2) 2) x3) < 196) : ev 118 38 [(2, 78), (2, q1), (0, x2), (0, x3)] [] T V = if (V 92 (V (zp T (zp T 78 2) 2) x3)) = 0 then ev 118 108 [(2, 78), (2, q1), (0, x2), (0, x3)] [] T V else ev 118 58 [(2, 78), (2, q1), (0, x2), (0, x3)] [] T V := by
  refine Eq.trans (ev_lda (show zcode 118 38 = some (6, 39, 0, 0, []) by decide +kernel) rfl (by decide)) ?_
  refine Eq.trans (ev_gq (show zcode 118 39 = some (56, 42, 0, 1, []) by decide +kernel) (so78 hS) (sp78_1 hS)) ?_
  refine Eq.trans (ev_gq (show zcode 118 42 = some (56, 45, 5, 4, []) by decide +kernel) (so87 hS) (sp87_4 hS)) ?_
  refine Eq.trans (ev_lda (show zcode 118 45 = some (6, 46, 0, 0, []) by decide +kernel) rfl (by decide)) ?_
  refine Eq.trans (ev_gr (show zcode 118 46 = some (56, 49, 0, 2, []) by decide +kernel) (so78 hS)) ?_
  refine Eq.trans (ev_gr (show zcode 118 49 = some (56, 52, 1, 2, []) by decide +kernel) h1.o) ?_
  refine Eq.trans (ev_ldi (show zcode 118 52 = some (4, 53, 3, 0, []) by decide +kernel) rfl) ?_
  refine Eq.trans (ev_ia (show zcode 118 53 = some (60, 54, 0, 0, []) by decide +kernel) h1.a2 h2) ?_
  refine Eq.trans (ev_za (show zcode 118 54 = some (62, 55, 0, 0, []) by decide +kernel) (sa92 hS) h3) ?_
  exact ev_eq (show zcode 118 55 = some (40, 58, 108, 0, []) by decide +kernel)
theorem b118_58 {T : zT} {V : zM} {q1 : Int} {x2 : Int} {x3 : Int} {n1 : Int} {n2 : Int} (hS : zStr T) (h1 : zLayer T (zp T 78 2) n1) (h2 : (0 : Int) ≤ x3 ∧ x3 < n1) (h3 : zLayer T q1 n2) : ev 118 58 [(2, 78), (2, q1), (0, x2), (0, x3)] [] T V = (zcall 112 [(2, q1), (0, x2), (1, (V (zp T (zp T 78 2) 3) x3)), (0, (V (zp T (zp T 78 2) 4) x3)), (1, (V (zp T (zp T 78 2) 5) x3)), (1, (V (zp T (zp T 78 2) 6) x3)), (0, (V (zp T (zp T 78 2) 7) x3))] T V).bind fun x => ev 118 108 [(2, 78), (2, q1), (0, x2), (0, x3)] (z_push x.1 []) x.2.1 x.2.2 := by
  refine Eq.trans (ev_lda (show zcode 118 58 = some (6, 59, 1, 0, []) by decide +kernel) rfl (by decide)) ?_
  refine Eq.trans (ev_ldi (show zcode 118 59 = some (4, 60, 2, 0, []) by decide +kernel) rfl) ?_
  refine Eq.trans (ev_lda (show zcode 118 60 = some (6, 61, 0, 0, []) by decide +kernel) rfl (by decide)) ?_
  refine Eq.trans (ev_gr (show zcode 118 61 = some (56, 64, 0, 2, []) by decide +kernel) (so78 hS)) ?_
  refine Eq.trans (ev_gr (show zcode 118 64 = some (56, 67, 1, 3, []) by decide +kernel) h1.o) ?_
  refine Eq.trans (ev_ldi (show zcode 118 67 = some (4, 68, 3, 0, []) by decide +kernel) rfl) ?_
  refine Eq.trans (ev_la (show zcode 118 68 = some (61, 69, 0, 0, []) by decide +kernel) h1.a3 h2) ?_
  refine Eq.trans (ev_lda (show zcode 118 69 = some (6, 70, 0, 0, []) by decide +kernel) rfl (by decide)) ?_
  refine Eq.trans (ev_gr (show zcode 118 70 = some (56, 73, 0, 2, []) by decide +kernel) (so78 hS)) ?_
  refine Eq.trans (ev_gr (show zcode 118 73 = some (56, 76, 1, 4, []) by decide +kernel) h1.o) ?_
  refine Eq.trans (ev_ldi (show zcode 118 76 = some (4, 77, 3, 0, []) by decide +kernel) rfl) ?_
  refine Eq.trans (ev_ia (show zcode 118 77 = some (60, 78, 0, 0, []) by decide +kernel) h1.a4 h2) ?_
  refine Eq.trans (ev_lda (show zcode 118 78 = some (6, 79, 0, 0, []) by decide +kernel) rfl (by decide)) ?_
  refine Eq.trans (ev_gr (show zcode 118 79 = some (56, 82, 0, 2, []) by decide +kernel) (so78 hS)) ?_
  refine Eq.trans (ev_gr (show zcode 118 82 = some (56, 85, 1, 5, []) by decide +kernel) h1.o) ?_
  refine Eq.trans (ev_ldi (show zcode 118 85 = some (4, 86, 3, 0, []) by decide +kernel) rfl) ?_
  refine Eq.trans (ev_la (show zcode 118 86 = some (61, 87, 0, 0, []) by decide +kernel) h1.a5 h2) ?_
  refine Eq.trans (ev_lda (show zcode 118 87 = some (6, 88, 0, 0, []) by decide +kernel) rfl (by decide)) ?_
  refine Eq.trans (ev_gr (show zcode 118 88 = some (56, 91, 0, 2, []) by decide +kernel) (so78 hS)) ?_
  refine Eq.trans (ev_gr (show zcode 118 91 = some (56, 94, 1, 6, []) by decide +kernel) h1.o) ?_
  refine Eq.trans (ev_ldi (show zcode 118 94 = some (4, 95, 3, 0, []) by decide +kernel) rfl) ?_
  refine Eq.trans (ev_la (show zcode 118 95 = some (61, 96, 0, 0, []) by decide +kernel) h1.a6 h2) ?_
  refine Eq.trans (ev_lda (show zcode 118 96 = some (6, 97, 0, 0, []) by decide +kernel) rfl (by decide)) ?_
  refine Eq.trans (ev_gr (show zcode 118 97 = some (56, 100, 0, 2, []) by decide +kernel) (so78 hS)) ?_
  refine Eq.trans (ev_gr (show zcode 118 100 = some (56, 103, 1, 7, []) by decide +kernel) h1.o) ?_
  refine Eq.trans (ev_ldi (show zcode 118 103 = some (4, 104, 3, 0, []) by decide +kernel) rfl) ?_
  refine Eq.trans (ev_ia (show zcode 118 104 = some (60, 105, 0, 0, []) by decide +kernel) h1.a7 h2) ?_
  exact ev_cvirt (show zcode 118 105 = some (76, 108, 112, 7, [1]) by decide +kernel) (args := [(0, x2), (1, (V (zp T (zp T 78 2) 3) x3)), (0, (V (zp T (zp T 78 2) 4) x3)), (1, (V (zp T (zp T 78 2) 5) x3)), (1, (V (zp T (zp T 78 2) 6) x3)), (0, (V (zp T (zp T 78 2) 7) x3))]) (rest := []) rfl h3.o rfl (show 0 ≤ 8 by decide) ⟨by decide, show 10 ≤ 11 by decide⟩
theorem b118_108 {T : zT} {V : zM} {q1 : Int} {x2 : Int} {x3 : Int} (h1 : -2147483648 ≤ (x3 + 1) ∧ (x3 + 1) ≤ 2147483647) : ev 118 108 [(2, 78), (2, q1), (0, x2), (0, x3)] [] T V = ev 118 7 [(2, 78), (2, q1), (0, x2), (0, (x3 + 1))] [] T V := by
  refine Eq.trans (ev_inc (show zcode 118 108 = some (10, 111, 3, 1, []) by decide +kernel) rfl h1 (Or.inr (show ¬ (0 : Nat) = 1 by decide))) ?_
  exact ev_goto (show zcode 118 111 = some (53, 114, 7, 0, []) by decide +kernel)
theorem b118_114 {T : zT} {V : zM} {q1 : Int} {x2 : Int} {x3 : Int} : ev 118 114 [(2, 78), (2, q1), (0, x2), (0, x3)] [] T V = some ((9, 0), T, V) := by
  exact ev_rn (show zcode 118 114 = some (73, 115, 0, 0, []) by decide +kernel)
/-! 121: TwoWayWall$Layer.cellOf(III)I -/
theorem e121 {T : zT} {V : zM} {q0 : Int} {x1 : Int} {x2 : Int} {x3 : Int} : zcall 121 [(2, q0), (0, x1), (0, x2), (0, x3)] T V = ev 121 0 [(2, q0), (0, x1), (0, x2), (0, x3), (9, 0)] [] T V := rfl
theorem b121_0 {T : zT} {V : zM} {q0 : Int} {x1 : Int} {x2 : Int} {x3 : Int} : ev 121 0 [(2, q0), (0, x1), (0, x2), (0, x3), (9, 0)] [] T V = if 8 ≤ x2 then ev 121 36 [(2, q0), (0, x1), (0, x2), (0, x3), (0, 8)] [] T V else ev 121 10 [(2, q0), (0, x1), (0, x2), (0, x3), (0, 8)] [] T V := by
  refine Eq.trans (ev_ci (show zcode 121 0 = some (0, 2, 0, 8, []) by decide +kernel) (by decide)) ?_
  refine Eq.trans (ev_sti (show zcode 121 2 = some (7, 4, 4, 0, []) by decide +kernel) ⟨show 4 < 5 by decide, Or.inr (show ¬ (0 : Nat) = 1 by decide)⟩) ?_
  refine Eq.trans (ev_ldi (show zcode 121 4 = some (4, 5, 2, 0, []) by decide +kernel) rfl) ?_
  refine Eq.trans (ev_ldi (show zcode 121 5 = some (4, 7, 4, 0, []) by decide +kernel) rfl) ?_
  exact ev_cge (show zcode 121 7 = some (49, 10, 36, 0, []) by decide +kernel)
theorem b121_10 {T : zT} {V : zM} {q0 : Int} {x1 : Int} {x2 : Int} {x3 : Int} {x4 : Int} {n1 : Int} (h1 : zLayer T q0 n1) (h2 : (0 : Int) ≤ x1 ∧ x1 < n1) (h3 : -2147483648 ≤ ((min x3 x4) - 1) ∧ ((min x3 x4) - 1) ≤ 2147483647) (h4 : -2147483648 ≤ (((min x3 x4) - 1) - x2) ∧ (((min x3 x4) - 1) - x2) ≤ 2147483647) (h5 : -2147483648 ≤ (7 * (((min x3 x4) - 1) - x2)) ∧ (7 * (((min x3 x4) - 1) - x2)) ≤ 2147483647) (h6 : (0 : Int) ≤ (7 * (((min x3 x4) - 1) - x2)) ∧ (7 * (((min x3 x4) - 1) - x2)) < 64) (h7 : -2147483648 ≤ (zlnd ((V (zp T q0 5) x1) / 2 ^ ((7 * (((min x3 x4) - 1) - x2))).toNat) 127) ∧ (zlnd ((V (zp T q0 5) x1) / 2 ^ ((7 * (((min x3 x4) - 1) - x2))).toNat) 127) ≤ 2147483647) : ev 121 10 [(2, q0), (0, x1), (0, x2), (0, x3), (0, x4)] [] T V = some ((0, (zlnd ((V (zp T q0 5) x1) / 2 ^ ((7 * (((min x3 x4) - 1) - x2))).toNat) 127)), T, V) := by
  refine Eq.trans (ev_lda (show zcode 121 10 = some (6, 11, 0, 0, []) by decide +kernel) rfl (by decide)) ?_
  refine Eq.trans (ev_gr (show zcode 121 11 = some (56, 14, 1, 5, []) by decide +kernel) h1.o) ?_
  refine Eq.trans (ev_ldi (show zcode 121 14 = some (4, 15, 1, 0, []) by decide +kernel) rfl) ?_
  refine Eq.trans (ev_la (show zcode 121 15 = some (61, 16, 0, 0, []) by decide +kernel) h1.a5 h2) ?_
  refine Eq.trans (ev_ci (show zcode 121 16 = some (0, 18, 0, 7, []) by decide +kernel) (by decide)) ?_
  refine Eq.trans (ev_ldi (show zcode 121 18 = some (4, 19, 3, 0, []) by decide +kernel) rfl) ?_
  refine Eq.trans (ev_ldi (show zcode 121 19 = some (4, 21, 4, 0, []) by decide +kernel) rfl) ?_
  refine Eq.trans (ev_min (show zcode 121 21 = some (85, 24, 0, 0, []) by decide +kernel) (show 3 ≤ 8 by decide)) ?_
  refine Eq.trans (ev_ci (show zcode 121 24 = some (0, 25, 0, 1, []) by decide +kernel) (by decide)) ?_
  refine Eq.trans (ev_sub (show zcode 121 25 = some (12, 26, 0, 0, []) by decide +kernel) h3) ?_
  refine Eq.trans (ev_ldi (show zcode 121 26 = some (4, 27, 2, 0, []) by decide +kernel) rfl) ?_
  refine Eq.trans (ev_sub (show zcode 121 27 = some (12, 28, 0, 0, []) by decide +kernel) h4) ?_
  refine Eq.trans (ev_mul (show zcode 121 28 = some (13, 29, 0, 0, []) by decide +kernel) h5) ?_
  refine Eq.trans (ev_lshr (show zcode 121 29 = some (30, 30, 0, 0, []) by decide +kernel) h6) ?_
  refine Eq.trans (ev_cl (show zcode 121 30 = some (1, 33, 0, 127, []) by decide +kernel) (by decide)) ?_
  refine Eq.trans (ev_land (show zcode 121 33 = some (26, 34, 0, 0, []) by decide +kernel)) ?_
  refine Eq.trans (ev_l2i (show zcode 121 34 = some (33, 35, 0, 0, []) by decide +kernel) h7) ?_
  exact ev_ri (show zcode 121 35 = some (72, 36, 0, 0, []) by decide +kernel)
theorem b121_36 {T : zT} {V : zM} {q0 : Int} {x1 : Int} {x2 : Int} {x3 : Int} {x4 : Int} {n1 : Int} (h1 : zLayer T q0 n1) (h2 : (0 : Int) ≤ x1 ∧ x1 < n1) (h3 : -2147483648 ≤ (x3 - 1) ∧ (x3 - 1) ≤ 2147483647) (h4 : -2147483648 ≤ ((x3 - 1) - x2) ∧ ((x3 - 1) - x2) ≤ 2147483647) (h5 : -2147483648 ≤ (7 * ((x3 - 1) - x2)) ∧ (7 * ((x3 - 1) - x2)) ≤ 2147483647) (h6 : (0 : Int) ≤ (7 * ((x3 - 1) - x2)) ∧ (7 * ((x3 - 1) - x2)) < 64) (h7 : -2147483648 ≤ (zlnd ((V (zp T q0 6) x1) / 2 ^ ((7 * ((x3 - 1) - x2))).toNat) 127) ∧ (zlnd ((V (zp T q0 6) x1) / 2 ^ ((7 * ((x3 - 1) - x2))).toNat) 127) ≤ 2147483647) : ev 121 36 [(2, q0), (0, x1), (0, x2), (0, x3), (0, x4)] [] T V = some ((0, (zlnd ((V (zp T q0 6) x1) / 2 ^ ((7 * ((x3 - 1) - x2))).toNat) 127)), T, V) := by
  refine Eq.trans (ev_lda (show zcode 121 36 = some (6, 37, 0, 0, []) by decide +kernel) rfl (by decide)) ?_
  refine Eq.trans (ev_gr (show zcode 121 37 = some (56, 40, 1, 6, []) by decide +kernel) h1.o) ?_
  refine Eq.trans (ev_ldi (show zcode 121 40 = some (4, 41, 1, 0, []) by decide +kernel) rfl) ?_
  refine Eq.trans (ev_la (show zcode 121 41 = some (61, 42, 0, 0, []) by decide +kernel) h1.a6 h2) ?_
  refine Eq.trans (ev_ci (show zcode 121 42 = some (0, 44, 0, 7, []) by decide +kernel) (by decide)) ?_
  refine Eq.trans (ev_ldi (show zcode 121 44 = some (4, 45, 3, 0, []) by decide +kernel) rfl) ?_
  refine Eq.trans (ev_ci (show zcode 121 45 = some (0, 46, 0, 1, []) by decide +kernel) (by decide)) ?_
  refine Eq.trans (ev_sub (show zcode 121 46 = some (12, 47, 0, 0, []) by decide +kernel) h3) ?_
  refine Eq.trans (ev_ldi (show zcode 121 47 = some (4, 48, 2, 0, []) by decide +kernel) rfl) ?_
  refine Eq.trans (ev_sub (show zcode 121 48 = some (12, 49, 0, 0, []) by decide +kernel) h4) ?_
  refine Eq.trans (ev_mul (show zcode 121 49 = some (13, 50, 0, 0, []) by decide +kernel) h5) ?_
  refine Eq.trans (ev_lshr (show zcode 121 50 = some (30, 51, 0, 0, []) by decide +kernel) h6) ?_
  refine Eq.trans (ev_cl (show zcode 121 51 = some (1, 54, 0, 127, []) by decide +kernel) (by decide)) ?_
  refine Eq.trans (ev_land (show zcode 121 54 = some (26, 55, 0, 0, []) by decide +kernel)) ?_
  refine Eq.trans (ev_l2i (show zcode 121 55 = some (33, 56, 0, 0, []) by decide +kernel) h7) ?_
  exact ev_ri (show zcode 121 56 = some (72, 57, 0, 0, []) by decide +kernel)
/-! 126: TwoWayWall$Rows.makeWords(LTwoWayWall$Tongue;Z)V -/
theorem e126 {T : zT} {V : zM} {q0 : Int} {q1 : Int} {x2 : Int} : zcall 126 [(2, q0), (2, q1), (0, x2)] T V = ev 126 0 [(2, q0), (2, q1), (0, x2), (9, 0), (9, 0), (9, 0)] [] T V := rfl
theorem b126_0 {T : zT} {V : zM} {q0 : Int} {q1 : Int} {x2 : Int} (h1 : zRows T q0) : ev 126 0 [(2, q0), (2, q1), (0, x2), (9, 0), (9, 0), (9, 0)] [] T V = (zcall 103 [(2, q0), (0, 26)] T (zwr V q0 5 0)).bind fun x => ev 126 11 [(2, q0), (2, q1), (0, x2), (9, 0), (9, 0), (9, 0)] (z_push x.1 []) x.2.1 x.2.2 := by
  refine Eq.trans (ev_lda (show zcode 126 0 = some (6, 1, 0, 0, []) by decide +kernel) rfl (by decide)) ?_
  refine Eq.trans (ev_ci (show zcode 126 1 = some (0, 2, 0, 0, []) by decide +kernel) (by decide)) ?_
  refine Eq.trans (ev_pi (show zcode 126 2 = some (57, 5, 5, 5, []) by decide +kernel) h1.o) ?_
  refine Eq.trans (ev_lda (show zcode 126 5 = some (6, 6, 0, 0, []) by decide +kernel) rfl (by decide)) ?_
  refine Eq.trans (ev_ci (show zcode 126 6 = some (0, 8, 0, 26, []) by decide +kernel) (by decide)) ?_
  exact ev_cvirt (show zcode 126 8 = some (76, 11, 103, 2, [5]) by decide +kernel) (args := [(0, 26)]) (rest := []) rfl h1.o rfl (show 0 ≤ 8 by decide) ⟨by decide, show 2 ≤ 3 by decide⟩
theorem b126_11 {T : zT} {V : zM} {q0 : Int} {q1 : Int} {x2 : Int} {y0 : Int} : ev 126 11 [(2, q0), (2, q1), (0, x2), (9, 0), (9, 0), (9, 0)] [(0, y0)] T V = ev 126 15 [(2, q0), (2, q1), (0, x2), (0, y0), (0, 0), (9, 0)] [] T V := by
  refine Eq.trans (ev_sti (show zcode 126 11 = some (7, 12, 3, 0, []) by decide +kernel) ⟨show 3 < 6 by decide, Or.inr (show ¬ (0 : Nat) = 1 by decide)⟩) ?_
  refine Eq.trans (ev_ci (show zcode 126 12 = some (0, 13, 0, 0, []) by decide +kernel) (by decide)) ?_
  exact ev_sti (show zcode 126 13 = some (7, 15, 4, 0, []) by decide +kernel) ⟨show 4 < 6 by decide, Or.inr (show ¬ (0 : Nat) = 1 by decide)⟩
theorem b126_15 {T : zT} {V : zM} {q0 : Int} {q1 : Int} {x2 : Int} {x3 : Int} {x4 : Int} {v5 : zV} (h1 : zTongue T q1) : ev 126 15 [(2, q0), (2, q1), (0, x2), (0, x3), (0, x4), v5] [] T V = if (V q1 5) ≤ x4 then ev 126 57 [(2, q0), (2, q1), (0, x2), (0, x3), (0, x4), v5] [] T V else ev 126 24 [(2, q0), (2, q1), (0, x2), (0, x3), (0, x4), v5] [] T V := by
  refine Eq.trans (ev_ldi (show zcode 126 15 = some (4, 17, 4, 0, []) by decide +kernel) rfl) ?_
  refine Eq.trans (ev_lda (show zcode 126 17 = some (6, 18, 1, 0, []) by decide +kernel) rfl (by decide)) ?_
  refine Eq.trans (ev_gi (show zcode 126 18 = some (55, 21, 9, 5, []) by decide +kernel) h1.o) ?_
  exact ev_cge (show zcode 126 21 = some (49, 24, 57, 0, []) by decide +kernel)
theorem b126_24 {T : zT} {V : zM} {q0 : Int} {q1 : Int} {x2 : Int} {x3 : Int} {x4 : Int} {v5 : zV} (h1 : zRows T q0) : ev 126 24 [(2, q0), (2, q1), (0, x2), (0, x3), (0, x4), v5] [] T V = (zcall 104 [(2, q0), (0, x3), (2, q1), (0, x4), (0, x2)] T V).bind fun x => ev 126 33 [(2, q0), (2, q1), (0, x2), (0, x3), (0, x4), v5] (z_push x.1 []) x.2.1 x.2.2 := by
  refine Eq.trans (ev_lda (show zcode 126 24 = some (6, 25, 0, 0, []) by decide +kernel) rfl (by decide)) ?_
  refine Eq.trans (ev_ldi (show zcode 126 25 = some (4, 26, 3, 0, []) by decide +kernel) rfl) ?_
  refine Eq.trans (ev_lda (show zcode 126 26 = some (6, 27, 1, 0, []) by decide +kernel) rfl (by decide)) ?_
  refine Eq.trans (ev_ldi (show zcode 126 27 = some (4, 29, 4, 0, []) by decide +kernel) rfl) ?_
  refine Eq.trans (ev_ldi (show zcode 126 29 = some (4, 30, 2, 0, []) by decide +kernel) rfl) ?_
  exact ev_cvirt (show zcode 126 30 = some (76, 33, 104, 5, [5]) by decide +kernel) (args := [(0, x3), (2, q1), (0, x4), (0, x2)]) (rest := []) rfl h1.o rfl (show 0 ≤ 8 by decide) ⟨by decide, show 5 ≤ 8 by decide⟩
theorem b126_33 {T : zT} {V : zM} {q0 : Int} {q1 : Int} {x2 : Int} {x3 : Int} {x4 : Int} {v5 : zV} {y0 : Int} (h1 : zRows T q0) (h2 : (0 : Int) ≤ y0 ∧ y0 < 196) (h3 : -2147483648 ≤ (x4 + 1) ∧ (x4 + 1) ≤ 2147483647) : ev 126 33 [(2, q0), (2, q1), (0, x2), (0, x3), (0, x4), v5] [(0, y0)] T V = ev 126 15 [(2, q0), (2, q1), (0, x2), (0, x3), (0, (x4 + 1)), (0, y0)] [] T (zwr (zwr V (q0 + 5) y0 1) (q0 + 4) y0 x3) := by
  refine Eq.trans (ev_sti (show zcode 126 33 = some (7, 35, 5, 0, []) by decide +kernel) ⟨show 5 < 6 by decide, Or.inr (show ¬ (0 : Nat) = 1 by decide)⟩) ?_
  refine Eq.trans (ev_lda (show zcode 126 35 = some (6, 36, 0, 0, []) by decide +kernel) rfl (by decide)) ?_
  refine Eq.trans (ev_gq (show zcode 126 36 = some (56, 39, 5, 4, []) by decide +kernel) h1.o h1.p4) ?_
  refine Eq.trans (ev_ldi (show zcode 126 39 = some (4, 41, 5, 0, []) by decide +kernel) rfl) ?_
  refine Eq.trans (ev_ci (show zcode 126 41 = some (0, 42, 0, 1, []) by decide +kernel) (by decide)) ?_
  refine Eq.trans (ev_zs (show zcode 126 42 = some (66, 43, 0, 0, []) by decide +kernel) h1.a5 h2 (by decide)) ?_
  refine Eq.trans (ev_lda (show zcode 126 43 = some (6, 44, 0, 0, []) by decide +kernel) rfl (by decide)) ?_
  refine Eq.trans (ev_gq (show zcode 126 44 = some (56, 47, 5, 3, []) by decide +kernel) h1.o h1.p3) ?_
  refine Eq.trans (ev_ldi (show zcode 126 47 = some (4, 49, 5, 0, []) by decide +kernel) rfl) ?_
  refine Eq.trans (ev_ldi (show zcode 126 49 = some (4, 50, 3, 0, []) by decide +kernel) rfl) ?_
  refine Eq.trans (ev_is (show zcode 126 50 = some (64, 51, 0, 0, []) by decide +kernel) h1.a4 h2) ?_
  refine Eq.trans (ev_inc (show zcode 126 51 = some (10, 54, 4, 1, []) by decide +kernel) rfl h3 (Or.inr (show ¬ (0 : Nat) = 1 by decide))) ?_
  exact ev_goto (show zcode 126 54 = some (53, 57, 15, 0, []) by decide +kernel)
theorem b126_57 {T : zT} {V : zM} {q0 : Int} {q1 : Int} {x2 : Int} {x3 : Int} {x4 : Int} {v5 : zV} : ev 126 57 [(2, q0), (2, q1), (0, x2), (0, x3), (0, x4), v5] [] T V = some ((9, 0), T, V) := by
  exact ev_rn (show zcode 126 57 = some (73, 58, 0, 0, []) by decide +kernel)
