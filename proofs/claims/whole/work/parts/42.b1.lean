/-! printed by blocks.py: the blocks of methods [3, 4, 5, 6, 8, 9, 10, 16, 17, 19, 20, 21, 25, 28, 32, 38, 39, 40, 41, 74, 76, 78, 94, 95, 132, 134, 136, 137, 138, 140, 142, 146] -/
/-! 3: TwoWayWall$State.<init>()V -/
theorem e3 {T : zT} {V : zM} {q0 : Int} : zcall 3 [(2, q0)] T V = ev 3 0 [(2, q0), (9, 0)] [] T V := rfl
theorem b3_0 {T : zT} {V : zM} {q0 : Int} (h1 : (0 : Int) ≤ q0) (h2 : zState T q0) : ev 3 0 [(2, q0), (9, 0)] [] T V = ev 3 15 [(2, q0), (9, 0)] [(2, (zsz T)), (2, q0)] (zn T 0 16) (zs (zwr V q0 0 8) (zsz T) (fun _ => 0)) := by
  refine Eq.trans (ev_lda (show zcode 3 0 = some (6, 1, 0, 0, []) by decide +kernel) rfl (by decide)) ?_
  refine Eq.trans (ev_obj (show zcode 3 1 = some (78, 4, 0, 0, []) by decide +kernel) ⟨h1, show 0 ≤ 8 by decide⟩) ?_
  refine Eq.trans (ev_lda (show zcode 3 4 = some (6, 5, 0, 0, []) by decide +kernel) rfl (by decide)) ?_
  refine Eq.trans (ev_ci (show zcode 3 5 = some (0, 7, 0, 8, []) by decide +kernel) (by decide)) ?_
  refine Eq.trans (ev_pi (show zcode 3 7 = some (57, 10, 6, 0, []) by decide +kernel) h2.o) ?_
  refine Eq.trans (ev_lda (show zcode 3 10 = some (6, 11, 0, 0, []) by decide +kernel) rfl (by decide)) ?_
  refine Eq.trans (ev_ci (show zcode 3 11 = some (0, 13, 0, 16, []) by decide +kernel) (by decide)) ?_
  exact ev_narr (show zcode 3 13 = some (70, 15, 0, 0, []) by decide +kernel) (by decide)
theorem b3_15 {T : zT} {V : zM} {q0 : Int} {p0 : Int} {p1 : Int} (h1 : zState T p0) : ev 3 15 [(2, q0), (9, 0)] [(2, p1), (2, p0)] T V = ev 3 18 [(2, q0), (9, 0)] [] (zqw T p0 1 p1) V := by
  exact ev_pr (show zcode 3 15 = some (59, 18, 6, 1, []) by decide +kernel) h1.o
theorem b3_18 {T : zT} {V : zM} {q0 : Int} : ev 3 18 [(2, q0), (9, 0)] [] T V = ev 3 23 [(2, q0), (9, 0)] [(2, (zsz T)), (2, q0)] (zn T 0 16) (zs V (zsz T) (fun _ => 0)) := by
  refine Eq.trans (ev_lda (show zcode 3 18 = some (6, 19, 0, 0, []) by decide +kernel) rfl (by decide)) ?_
  refine Eq.trans (ev_ci (show zcode 3 19 = some (0, 21, 0, 16, []) by decide +kernel) (by decide)) ?_
  exact ev_narr (show zcode 3 21 = some (70, 23, 0, 0, []) by decide +kernel) (by decide)
theorem b3_23 {T : zT} {V : zM} {q0 : Int} {p0 : Int} {p1 : Int} (h1 : zState T p0) : ev 3 23 [(2, q0), (9, 0)] [(2, p1), (2, p0)] T V = ev 3 26 [(2, q0), (9, 0)] [] (zqw T p0 2 p1) V := by
  exact ev_pr (show zcode 3 23 = some (59, 26, 6, 2, []) by decide +kernel) h1.o
theorem b3_26 {T : zT} {V : zM} {q0 : Int} : ev 3 26 [(2, q0), (9, 0)] [] T V = ev 3 31 [(2, q0), (9, 0)] [(2, (zsz T)), (2, q0)] (zn T 0 7) (zs V (zsz T) (fun _ => 0)) := by
  refine Eq.trans (ev_lda (show zcode 3 26 = some (6, 27, 0, 0, []) by decide +kernel) rfl (by decide)) ?_
  refine Eq.trans (ev_ci (show zcode 3 27 = some (0, 29, 0, 7, []) by decide +kernel) (by decide)) ?_
  exact ev_narr (show zcode 3 29 = some (70, 31, 0, 0, []) by decide +kernel) (by decide)
theorem b3_31 {T : zT} {V : zM} {q0 : Int} {p0 : Int} {p1 : Int} (h1 : zState T p0) : ev 3 31 [(2, q0), (9, 0)] [(2, p1), (2, p0)] T V = ev 3 34 [(2, q0), (9, 0)] [] (zqw T p0 3 p1) V := by
  exact ev_pr (show zcode 3 31 = some (59, 34, 6, 3, []) by decide +kernel) h1.o
theorem b3_34 {T : zT} {V : zM} {q0 : Int} : ev 3 34 [(2, q0), (9, 0)] [] T V = ev 3 39 [(2, q0), (9, 0)] [(2, (zsz T)), (2, q0)] (zn T 0 7) (zs V (zsz T) (fun _ => 0)) := by
  refine Eq.trans (ev_lda (show zcode 3 34 = some (6, 35, 0, 0, []) by decide +kernel) rfl (by decide)) ?_
  refine Eq.trans (ev_ci (show zcode 3 35 = some (0, 37, 0, 7, []) by decide +kernel) (by decide)) ?_
  exact ev_narr (show zcode 3 37 = some (70, 39, 0, 0, []) by decide +kernel) (by decide)
theorem b3_39 {T : zT} {V : zM} {q0 : Int} {p0 : Int} {p1 : Int} (h1 : zState T p0) : ev 3 39 [(2, q0), (9, 0)] [(2, p1), (2, p0)] T V = ev 3 42 [(2, q0), (9, 0)] [] (zqw T p0 4 p1) V := by
  exact ev_pr (show zcode 3 39 = some (59, 42, 6, 4, []) by decide +kernel) h1.o
theorem b3_42 {T : zT} {V : zM} {q0 : Int} : ev 3 42 [(2, q0), (9, 0)] [] T V = ev 3 46 [(2, q0), (9, 0)] [(2, (zsz T)), (2, q0)] (zn T 19 10) (zs V (zsz T) (fun _ => 0)) := by
  refine Eq.trans (ev_lda (show zcode 3 42 = some (6, 43, 0, 0, []) by decide +kernel) rfl (by decide)) ?_
  exact ev_new (show zcode 3 43 = some (69, 46, 9, 0, []) by decide +kernel) (by decide)
theorem b3_46 {T : zT} {V : zM} {q0 : Int} {p0 : Int} {p1 : Int} (h1 : (0 : Int) ≤ p1) : ev 3 46 [(2, q0), (9, 0)] [(2, p1), (2, p0)] T V = (zcall 4 [(2, p1)] T V).bind fun x => ev 3 50 [(2, q0), (9, 0)] (z_push x.1 [(2, p1), (2, p0)]) x.2.1 x.2.2 := by
  refine Eq.trans (ev_dup (show zcode 3 46 = some (36, 47, 0, 0, []) by decide +kernel) (by decide)) ?_
  exact ev_cspec (show zcode 3 47 = some (75, 50, 4, 1, []) by decide +kernel) (args := []) (rest := [(2, p1), (2, p0)]) rfl h1 rfl (show 2 ≤ 8 by decide) ⟨by decide, show 1 ≤ 1 by decide⟩
theorem b3_50 {T : zT} {V : zM} {q0 : Int} {p0 : Int} {p1 : Int} (h1 : zState T p0) : ev 3 50 [(2, q0), (9, 0)] [(2, p1), (2, p0)] T V = ev 3 53 [(2, q0), (9, 0)] [] (zqw T p0 5 p1) V := by
  exact ev_pr (show zcode 3 50 = some (59, 53, 6, 5, []) by decide +kernel) h1.o
theorem b3_53 {T : zT} {V : zM} {q0 : Int} : ev 3 53 [(2, q0), (9, 0)] [] T V = ev 3 57 [(2, q0), (9, 0)] [(2, (zsz T)), (2, q0)] (zn T 19 10) (zs V (zsz T) (fun _ => 0)) := by
  refine Eq.trans (ev_lda (show zcode 3 53 = some (6, 54, 0, 0, []) by decide +kernel) rfl (by decide)) ?_
  exact ev_new (show zcode 3 54 = some (69, 57, 9, 0, []) by decide +kernel) (by decide)
theorem b3_57 {T : zT} {V : zM} {q0 : Int} {p0 : Int} {p1 : Int} (h1 : (0 : Int) ≤ p1) : ev 3 57 [(2, q0), (9, 0)] [(2, p1), (2, p0)] T V = (zcall 4 [(2, p1)] T V).bind fun x => ev 3 61 [(2, q0), (9, 0)] (z_push x.1 [(2, p1), (2, p0)]) x.2.1 x.2.2 := by
  refine Eq.trans (ev_dup (show zcode 3 57 = some (36, 58, 0, 0, []) by decide +kernel) (by decide)) ?_
  exact ev_cspec (show zcode 3 58 = some (75, 61, 4, 1, []) by decide +kernel) (args := []) (rest := [(2, p1), (2, p0)]) rfl h1 rfl (show 2 ≤ 8 by decide) ⟨by decide, show 1 ≤ 1 by decide⟩
theorem b3_61 {T : zT} {V : zM} {q0 : Int} {p0 : Int} {p1 : Int} (h1 : zState T p0) : ev 3 61 [(2, q0), (9, 0)] [(2, p1), (2, p0)] T V = ev 3 64 [(2, q0), (9, 0)] [] (zqw T p0 6 p1) V := by
  exact ev_pr (show zcode 3 61 = some (59, 64, 6, 6, []) by decide +kernel) h1.o
theorem b3_64 {T : zT} {V : zM} {q0 : Int} : ev 3 64 [(2, q0), (9, 0)] [] T V = ev 3 68 [(2, q0), (9, 0)] [(2, (zsz T)), (2, q0)] (zn T 20 6) (zs V (zsz T) (fun _ => 0)) := by
  refine Eq.trans (ev_lda (show zcode 3 64 = some (6, 65, 0, 0, []) by decide +kernel) rfl (by decide)) ?_
  exact ev_new (show zcode 3 65 = some (69, 68, 10, 0, []) by decide +kernel) (by decide)
theorem b3_68 {T : zT} {V : zM} {q0 : Int} {p0 : Int} {p1 : Int} (h1 : (0 : Int) ≤ p1) : ev 3 68 [(2, q0), (9, 0)] [(2, p1), (2, p0)] T V = (zcall 5 [(2, p1)] T V).bind fun x => ev 3 72 [(2, q0), (9, 0)] (z_push x.1 [(2, p1), (2, p0)]) x.2.1 x.2.2 := by
  refine Eq.trans (ev_dup (show zcode 3 68 = some (36, 69, 0, 0, []) by decide +kernel) (by decide)) ?_
  exact ev_cspec (show zcode 3 69 = some (75, 72, 5, 1, []) by decide +kernel) (args := []) (rest := [(2, p1), (2, p0)]) rfl h1 rfl (show 2 ≤ 8 by decide) ⟨by decide, show 1 ≤ 1 by decide⟩
theorem b3_72 {T : zT} {V : zM} {q0 : Int} {p0 : Int} {p1 : Int} (h1 : zState T p0) : ev 3 72 [(2, q0), (9, 0)] [(2, p1), (2, p0)] T V = ev 3 75 [(2, q0), (9, 0)] [] (zqw T p0 7 p1) V := by
  exact ev_pr (show zcode 3 72 = some (59, 75, 6, 7, []) by decide +kernel) h1.o
theorem b3_75 {T : zT} {V : zM} {q0 : Int} : ev 3 75 [(2, q0), (9, 0)] [] T V = ev 3 77 [(2, q0), (0, 0)] [] T V := by
  refine Eq.trans (ev_ci (show zcode 3 75 = some (0, 76, 0, 0, []) by decide +kernel) (by decide)) ?_
  exact ev_sti (show zcode 3 76 = some (7, 77, 1, 0, []) by decide +kernel) ⟨show 1 < 2 by decide, Or.inr (show ¬ (2 : Nat) = 1 by decide)⟩
theorem b3_77 {T : zT} {V : zM} {q0 : Int} {x1 : Int} : ev 3 77 [(2, q0), (0, x1)] [] T V = if 7 ≤ x1 then ev 3 105 [(2, q0), (0, x1)] [] T V else ev 3 83 [(2, q0), (0, x1)] [] T V := by
  refine Eq.trans (ev_ldi (show zcode 3 77 = some (4, 78, 1, 0, []) by decide +kernel) rfl) ?_
  refine Eq.trans (ev_ci (show zcode 3 78 = some (0, 80, 0, 7, []) by decide +kernel) (by decide)) ?_
  exact ev_cge (show zcode 3 80 = some (49, 83, 105, 0, []) by decide +kernel)
theorem b3_83 {T : zT} {V : zM} {q0 : Int} {x1 : Int} (h1 : zState T q0) (h2 : -2147483648 ≤ (x1 + 1) ∧ (x1 + 1) ≤ 2147483647) (h3 : (0 : Int) ≤ x1 ∧ x1 < 7) : ev 3 83 [(2, q0), (0, x1)] [] T V = ev 3 77 [(2, q0), (0, (x1 + 1))] [] T (zwr (zwr V (q0 + 3) x1 (x1 + 1)) (q0 + 4) x1 1) := by
  refine Eq.trans (ev_lda (show zcode 3 83 = some (6, 84, 0, 0, []) by decide +kernel) rfl (by decide)) ?_
  refine Eq.trans (ev_gq (show zcode 3 84 = some (56, 87, 6, 3, []) by decide +kernel) h1.o h1.p3) ?_
  refine Eq.trans (ev_ldi (show zcode 3 87 = some (4, 88, 1, 0, []) by decide +kernel) rfl) ?_
  refine Eq.trans (ev_ldi (show zcode 3 88 = some (4, 89, 1, 0, []) by decide +kernel) rfl) ?_
  refine Eq.trans (ev_ci (show zcode 3 89 = some (0, 90, 0, 1, []) by decide +kernel) (by decide)) ?_
  refine Eq.trans (ev_add (show zcode 3 90 = some (11, 91, 0, 0, []) by decide +kernel) h2) ?_
  refine Eq.trans (ev_is (show zcode 3 91 = some (64, 92, 0, 0, []) by decide +kernel) h1.a3 h3) ?_
  refine Eq.trans (ev_lda (show zcode 3 92 = some (6, 93, 0, 0, []) by decide +kernel) rfl (by decide)) ?_
  refine Eq.trans (ev_gq (show zcode 3 93 = some (56, 96, 6, 4, []) by decide +kernel) h1.o h1.p4) ?_
  refine Eq.trans (ev_ldi (show zcode 3 96 = some (4, 97, 1, 0, []) by decide +kernel) rfl) ?_
  refine Eq.trans (ev_ci (show zcode 3 97 = some (0, 98, 0, 1, []) by decide +kernel) (by decide)) ?_
  refine Eq.trans (ev_is (show zcode 3 98 = some (64, 99, 0, 0, []) by decide +kernel) h1.a4 h3) ?_
  refine Eq.trans (ev_inc (show zcode 3 99 = some (10, 102, 1, 1, []) by decide +kernel) rfl h2 (Or.inr (show ¬ (2 : Nat) = 1 by decide))) ?_
  exact ev_goto (show zcode 3 102 = some (53, 105, 77, 0, []) by decide +kernel)
theorem b3_105 {T : zT} {V : zM} {q0 : Int} {x1 : Int} : ev 3 105 [(2, q0), (0, x1)] [] T V = some ((9, 0), T, V) := by
  exact ev_rn (show zcode 3 105 = some (73, 106, 0, 0, []) by decide +kernel)
/-! 4: TwoWayWall$Tongue.<init>()V -/
theorem e4 {T : zT} {V : zM} {q0 : Int} : zcall 4 [(2, q0)] T V = ev 4 0 [(2, q0)] [] T V := rfl
theorem b4_0 {T : zT} {V : zM} {q0 : Int} (h1 : (0 : Int) ≤ q0) : ev 4 0 [(2, q0)] [] T V = ev 4 9 [(2, q0)] [(2, (zsz T)), (2, q0)] (zn T 0 26) (zs V (zsz T) (fun _ => 0)) := by
  refine Eq.trans (ev_lda (show zcode 4 0 = some (6, 1, 0, 0, []) by decide +kernel) rfl (by decide)) ?_
  refine Eq.trans (ev_obj (show zcode 4 1 = some (78, 4, 0, 0, []) by decide +kernel) ⟨h1, show 0 ≤ 8 by decide⟩) ?_
  refine Eq.trans (ev_lda (show zcode 4 4 = some (6, 5, 0, 0, []) by decide +kernel) rfl (by decide)) ?_
  refine Eq.trans (ev_ci (show zcode 4 5 = some (0, 7, 0, 26, []) by decide +kernel) (by decide)) ?_
  exact ev_narr (show zcode 4 7 = some (70, 9, 0, 0, []) by decide +kernel) (by decide)
theorem b4_9 {T : zT} {V : zM} {q0 : Int} {p0 : Int} {p1 : Int} (h1 : zTongue T p0) : ev 4 9 [(2, q0)] [(2, p1), (2, p0)] T V = ev 4 12 [(2, q0)] [] (zqw T p0 0 p1) V := by
  exact ev_pr (show zcode 4 9 = some (59, 12, 9, 0, []) by decide +kernel) h1.o
theorem b4_12 {T : zT} {V : zM} {q0 : Int} : ev 4 12 [(2, q0)] [] T V = ev 4 17 [(2, q0)] [(2, (zsz T)), (2, q0)] (zn T 0 26) (zs V (zsz T) (fun _ => 0)) := by
  refine Eq.trans (ev_lda (show zcode 4 12 = some (6, 13, 0, 0, []) by decide +kernel) rfl (by decide)) ?_
  refine Eq.trans (ev_ci (show zcode 4 13 = some (0, 15, 0, 26, []) by decide +kernel) (by decide)) ?_
  exact ev_narr (show zcode 4 15 = some (70, 17, 0, 0, []) by decide +kernel) (by decide)
theorem b4_17 {T : zT} {V : zM} {q0 : Int} {p0 : Int} {p1 : Int} (h1 : zTongue T p0) : ev 4 17 [(2, q0)] [(2, p1), (2, p0)] T V = ev 4 20 [(2, q0)] [] (zqw T p0 1 p1) V := by
  exact ev_pr (show zcode 4 17 = some (59, 20, 9, 1, []) by decide +kernel) h1.o
theorem b4_20 {T : zT} {V : zM} {q0 : Int} : ev 4 20 [(2, q0)] [] T V = ev 4 25 [(2, q0)] [(2, (zsz T)), (2, q0)] (zn T 0 8) (zs V (zsz T) (fun _ => 0)) := by
  refine Eq.trans (ev_lda (show zcode 4 20 = some (6, 21, 0, 0, []) by decide +kernel) rfl (by decide)) ?_
  refine Eq.trans (ev_ci (show zcode 4 21 = some (0, 23, 0, 8, []) by decide +kernel) (by decide)) ?_
  exact ev_narr (show zcode 4 23 = some (70, 25, 0, 0, []) by decide +kernel) (by decide)
theorem b4_25 {T : zT} {V : zM} {q0 : Int} {p0 : Int} {p1 : Int} (h1 : zTongue T p0) : ev 4 25 [(2, q0)] [(2, p1), (2, p0)] T V = ev 4 28 [(2, q0)] [] (zqw T p0 2 p1) V := by
  exact ev_pr (show zcode 4 25 = some (59, 28, 9, 2, []) by decide +kernel) h1.o
theorem b4_28 {T : zT} {V : zM} {q0 : Int} : ev 4 28 [(2, q0)] [] T V = ev 4 33 [(2, q0)] [(2, (zsz T)), (2, q0)] (zn T 0 8) (zs V (zsz T) (fun _ => 0)) := by
  refine Eq.trans (ev_lda (show zcode 4 28 = some (6, 29, 0, 0, []) by decide +kernel) rfl (by decide)) ?_
  refine Eq.trans (ev_ci (show zcode 4 29 = some (0, 31, 0, 8, []) by decide +kernel) (by decide)) ?_
  exact ev_narr (show zcode 4 31 = some (70, 33, 0, 0, []) by decide +kernel) (by decide)
theorem b4_33 {T : zT} {V : zM} {q0 : Int} {p0 : Int} {p1 : Int} (h1 : zTongue T p0) : ev 4 33 [(2, q0)] [(2, p1), (2, p0)] T V = ev 4 36 [(2, q0)] [] (zqw T p0 3 p1) V := by
  exact ev_pr (show zcode 4 33 = some (59, 36, 9, 3, []) by decide +kernel) h1.o
theorem b4_36 {T : zT} {V : zM} {q0 : Int} : ev 4 36 [(2, q0)] [] T V = ev 4 41 [(2, q0)] [(2, (zsz T)), (2, q0)] (zn T 0 48) (zs V (zsz T) (fun _ => 0)) := by
  refine Eq.trans (ev_lda (show zcode 4 36 = some (6, 37, 0, 0, []) by decide +kernel) rfl (by decide)) ?_
  refine Eq.trans (ev_ci (show zcode 4 37 = some (0, 39, 0, 48, []) by decide +kernel) (by decide)) ?_
  exact ev_narr (show zcode 4 39 = some (70, 41, 0, 0, []) by decide +kernel) (by decide)
theorem b4_41 {T : zT} {V : zM} {q0 : Int} {p0 : Int} {p1 : Int} (h1 : zTongue T p0) : ev 4 41 [(2, q0)] [(2, p1), (2, p0)] T V = ev 4 44 [(2, q0)] [] (zqw T p0 4 p1) V := by
  exact ev_pr (show zcode 4 41 = some (59, 44, 9, 4, []) by decide +kernel) h1.o
theorem b4_44 {T : zT} {V : zM} {q0 : Int} : ev 4 44 [(2, q0)] [] T V = ev 4 49 [(2, q0)] [(2, (zsz T)), (2, q0)] (zn T 0 16) (zs V (zsz T) (fun _ => 0)) := by
  refine Eq.trans (ev_lda (show zcode 4 44 = some (6, 45, 0, 0, []) by decide +kernel) rfl (by decide)) ?_
  refine Eq.trans (ev_ci (show zcode 4 45 = some (0, 47, 0, 16, []) by decide +kernel) (by decide)) ?_
  exact ev_narr (show zcode 4 47 = some (70, 49, 0, 0, []) by decide +kernel) (by decide)
theorem b4_49 {T : zT} {V : zM} {q0 : Int} {p0 : Int} {p1 : Int} (h1 : zTongue T p0) : ev 4 49 [(2, q0)] [(2, p1), (2, p0)] T V = ev 4 52 [(2, q0)] [] (zqw T p0 6 p1) V := by
  exact ev_pr (show zcode 4 49 = some (59, 52, 9, 6, []) by decide +kernel) h1.o
theorem b4_52 {T : zT} {V : zM} {q0 : Int} : ev 4 52 [(2, q0)] [] T V = ev 4 56 [(2, q0)] [(2, (zsz T)), (2, q0)] (zn T 0 4) (zs V (zsz T) (fun _ => 0)) := by
  refine Eq.trans (ev_lda (show zcode 4 52 = some (6, 53, 0, 0, []) by decide +kernel) rfl (by decide)) ?_
  refine Eq.trans (ev_ci (show zcode 4 53 = some (0, 54, 0, 4, []) by decide +kernel) (by decide)) ?_
  exact ev_narr (show zcode 4 54 = some (70, 56, 0, 0, []) by decide +kernel) (by decide)
theorem b4_56 {T : zT} {V : zM} {q0 : Int} {p0 : Int} {p1 : Int} (h1 : zTongue T p0) : ev 4 56 [(2, q0)] [(2, p1), (2, p0)] T V = ev 4 59 [(2, q0)] [] (zqw T p0 8 p1) V := by
  exact ev_pr (show zcode 4 56 = some (59, 59, 9, 8, []) by decide +kernel) h1.o
theorem b4_59 {T : zT} {V : zM} {q0 : Int} : ev 4 59 [(2, q0)] [] T V = some ((9, 0), T, V) := by
  exact ev_rn (show zcode 4 59 = some (73, 60, 0, 0, []) by decide +kernel)
/-! 5: TwoWayWall$Yards.<init>()V -/
theorem e5 {T : zT} {V : zM} {q0 : Int} : zcall 5 [(2, q0)] T V = ev 5 0 [(2, q0)] [] T V := rfl
theorem b5_0 {T : zT} {V : zM} {q0 : Int} (h1 : (0 : Int) ≤ q0) : ev 5 0 [(2, q0)] [] T V = ev 5 9 [(2, q0)] [(2, (zsz T)), (2, q0)] (zn T 0 10) (zs V (zsz T) (fun _ => 0)) := by
  refine Eq.trans (ev_lda (show zcode 5 0 = some (6, 1, 0, 0, []) by decide +kernel) rfl (by decide)) ?_
  refine Eq.trans (ev_obj (show zcode 5 1 = some (78, 4, 0, 0, []) by decide +kernel) ⟨h1, show 0 ≤ 8 by decide⟩) ?_
  refine Eq.trans (ev_lda (show zcode 5 4 = some (6, 5, 0, 0, []) by decide +kernel) rfl (by decide)) ?_
  refine Eq.trans (ev_ci (show zcode 5 5 = some (0, 7, 0, 10, []) by decide +kernel) (by decide)) ?_
  exact ev_narr (show zcode 5 7 = some (70, 9, 0, 0, []) by decide +kernel) (by decide)
theorem b5_9 {T : zT} {V : zM} {q0 : Int} {p0 : Int} {p1 : Int} (h1 : zYards T p0) : ev 5 9 [(2, q0)] [(2, p1), (2, p0)] T V = ev 5 12 [(2, q0)] [] (zqw T p0 0 p1) V := by
  exact ev_pr (show zcode 5 9 = some (59, 12, 10, 0, []) by decide +kernel) h1.o
theorem b5_12 {T : zT} {V : zM} {q0 : Int} : ev 5 12 [(2, q0)] [] T V = ev 5 17 [(2, q0)] [(2, (zsz T)), (2, q0)] (zn T 0 10) (zs V (zsz T) (fun _ => 0)) := by
  refine Eq.trans (ev_lda (show zcode 5 12 = some (6, 13, 0, 0, []) by decide +kernel) rfl (by decide)) ?_
  refine Eq.trans (ev_ci (show zcode 5 13 = some (0, 15, 0, 10, []) by decide +kernel) (by decide)) ?_
  exact ev_narr (show zcode 5 15 = some (70, 17, 0, 0, []) by decide +kernel) (by decide)
theorem b5_17 {T : zT} {V : zM} {q0 : Int} {p0 : Int} {p1 : Int} (h1 : zYards T p0) : ev 5 17 [(2, q0)] [(2, p1), (2, p0)] T V = ev 5 20 [(2, q0)] [] (zqw T p0 1 p1) V := by
  exact ev_pr (show zcode 5 17 = some (59, 20, 10, 1, []) by decide +kernel) h1.o
theorem b5_20 {T : zT} {V : zM} {q0 : Int} : ev 5 20 [(2, q0)] [] T V = ev 5 25 [(2, q0)] [(2, (zsz T)), (2, q0)] (zn T 0 10) (zs V (zsz T) (fun _ => 0)) := by
  refine Eq.trans (ev_lda (show zcode 5 20 = some (6, 21, 0, 0, []) by decide +kernel) rfl (by decide)) ?_
  refine Eq.trans (ev_ci (show zcode 5 21 = some (0, 23, 0, 10, []) by decide +kernel) (by decide)) ?_
  exact ev_narr (show zcode 5 23 = some (70, 25, 0, 0, []) by decide +kernel) (by decide)
theorem b5_25 {T : zT} {V : zM} {q0 : Int} {p0 : Int} {p1 : Int} (h1 : zYards T p0) : ev 5 25 [(2, q0)] [(2, p1), (2, p0)] T V = ev 5 28 [(2, q0)] [] (zqw T p0 2 p1) V := by
  exact ev_pr (show zcode 5 25 = some (59, 28, 10, 2, []) by decide +kernel) h1.o
theorem b5_28 {T : zT} {V : zM} {q0 : Int} : ev 5 28 [(2, q0)] [] T V = ev 5 33 [(2, q0)] [(2, (zsz T)), (2, q0)] (zn T 0 10) (zs V (zsz T) (fun _ => 0)) := by
  refine Eq.trans (ev_lda (show zcode 5 28 = some (6, 29, 0, 0, []) by decide +kernel) rfl (by decide)) ?_
  refine Eq.trans (ev_ci (show zcode 5 29 = some (0, 31, 0, 10, []) by decide +kernel) (by decide)) ?_
  exact ev_narr (show zcode 5 31 = some (70, 33, 0, 0, []) by decide +kernel) (by decide)
theorem b5_33 {T : zT} {V : zM} {q0 : Int} {p0 : Int} {p1 : Int} (h1 : zYards T p0) : ev 5 33 [(2, q0)] [(2, p1), (2, p0)] T V = ev 5 36 [(2, q0)] [] (zqw T p0 3 p1) V := by
  exact ev_pr (show zcode 5 33 = some (59, 36, 10, 3, []) by decide +kernel) h1.o
theorem b5_36 {T : zT} {V : zM} {q0 : Int} : ev 5 36 [(2, q0)] [] T V = ev 5 41 [(2, q0)] [(2, (zsz T)), (2, q0)] (zn T 0 10) (zs V (zsz T) (fun _ => 0)) := by
  refine Eq.trans (ev_lda (show zcode 5 36 = some (6, 37, 0, 0, []) by decide +kernel) rfl (by decide)) ?_
  refine Eq.trans (ev_ci (show zcode 5 37 = some (0, 39, 0, 10, []) by decide +kernel) (by decide)) ?_
  exact ev_narr (show zcode 5 39 = some (70, 41, 0, 0, []) by decide +kernel) (by decide)
theorem b5_41 {T : zT} {V : zM} {q0 : Int} {p0 : Int} {p1 : Int} (h1 : zYards T p0) : ev 5 41 [(2, q0)] [(2, p1), (2, p0)] T V = ev 5 44 [(2, q0)] [] (zqw T p0 4 p1) V := by
  exact ev_pr (show zcode 5 41 = some (59, 44, 10, 4, []) by decide +kernel) h1.o
theorem b5_44 {T : zT} {V : zM} {q0 : Int} : ev 5 44 [(2, q0)] [] T V = some ((9, 0), T, V) := by
  exact ev_rn (show zcode 5 44 = some (73, 45, 0, 0, []) by decide +kernel)
/-! 6: TwoWayWall$Tape.<init>()V -/
theorem e6 {T : zT} {V : zM} {q0 : Int} : zcall 6 [(2, q0)] T V = ev 6 0 [(2, q0)] [] T V := rfl
theorem b6_0 {T : zT} {V : zM} {q0 : Int} (h1 : (0 : Int) ≤ q0) : ev 6 0 [(2, q0)] [] T V = ev 6 10 [(2, q0)] [(2, (zsz T)), (2, q0)] (zn T 0 400) (zs V (zsz T) (fun _ => 0)) := by
  refine Eq.trans (ev_lda (show zcode 6 0 = some (6, 1, 0, 0, []) by decide +kernel) rfl (by decide)) ?_
  refine Eq.trans (ev_obj (show zcode 6 1 = some (78, 4, 0, 0, []) by decide +kernel) ⟨h1, show 0 ≤ 8 by decide⟩) ?_
  refine Eq.trans (ev_lda (show zcode 6 4 = some (6, 5, 0, 0, []) by decide +kernel) rfl (by decide)) ?_
  refine Eq.trans (ev_ci (show zcode 6 5 = some (0, 8, 0, 400, []) by decide +kernel) (by decide)) ?_
  exact ev_narr (show zcode 6 8 = some (70, 10, 0, 0, []) by decide +kernel) (by decide)
theorem b6_10 {T : zT} {V : zM} {q0 : Int} {p0 : Int} {p1 : Int} (h1 : zO T p0 8) : ev 6 10 [(2, q0)] [(2, p1), (2, p0)] T V = ev 6 13 [(2, q0)] [] (zqw T p0 0 p1) V := by
  exact ev_pr (show zcode 6 10 = some (59, 13, 8, 0, []) by decide +kernel) h1
theorem b6_13 {T : zT} {V : zM} {q0 : Int} : ev 6 13 [(2, q0)] [] T V = some ((9, 0), T, V) := by
  exact ev_rn (show zcode 6 13 = some (73, 14, 0, 0, []) by decide +kernel)
/-! 8: TwoWayWall$Readings.<init>()V -/
theorem e8 {T : zT} {V : zM} {q0 : Int} : zcall 8 [(2, q0)] T V = ev 8 0 [(2, q0)] [] T V := rfl
theorem b8_0 {T : zT} {V : zM} {q0 : Int} (h1 : (0 : Int) ≤ q0) : ev 8 0 [(2, q0)] [] T V = ev 8 10 [(2, q0)] [(2, (zsz T)), (2, q0)] (zn T 0 128) (zs V (zsz T) (fun _ => 0)) := by
  refine Eq.trans (ev_lda (show zcode 8 0 = some (6, 1, 0, 0, []) by decide +kernel) rfl (by decide)) ?_
  refine Eq.trans (ev_obj (show zcode 8 1 = some (78, 4, 0, 0, []) by decide +kernel) ⟨h1, show 0 ≤ 8 by decide⟩) ?_
  refine Eq.trans (ev_lda (show zcode 8 4 = some (6, 5, 0, 0, []) by decide +kernel) rfl (by decide)) ?_
  refine Eq.trans (ev_ci (show zcode 8 5 = some (0, 8, 0, 128, []) by decide +kernel) (by decide)) ?_
  exact ev_narr (show zcode 8 8 = some (70, 10, 0, 0, []) by decide +kernel) (by decide)
theorem b8_10 {T : zT} {V : zM} {q0 : Int} {p0 : Int} {p1 : Int} (h1 : zO T p0 4) : ev 8 10 [(2, q0)] [(2, p1), (2, p0)] T V = ev 8 13 [(2, q0)] [] (zqw T p0 0 p1) V := by
  exact ev_pr (show zcode 8 10 = some (59, 13, 4, 0, []) by decide +kernel) h1
theorem b8_13 {T : zT} {V : zM} {q0 : Int} : ev 8 13 [(2, q0)] [] T V = ev 8 19 [(2, q0)] [(2, (zsz T)), (2, q0)] (zn T 0 128) (zs V (zsz T) (fun _ => 0)) := by
  refine Eq.trans (ev_lda (show zcode 8 13 = some (6, 14, 0, 0, []) by decide +kernel) rfl (by decide)) ?_
  refine Eq.trans (ev_ci (show zcode 8 14 = some (0, 17, 0, 128, []) by decide +kernel) (by decide)) ?_
  exact ev_narr (show zcode 8 17 = some (70, 19, 0, 0, []) by decide +kernel) (by decide)
theorem b8_19 {T : zT} {V : zM} {q0 : Int} {p0 : Int} {p1 : Int} (h1 : zO T p0 4) : ev 8 19 [(2, q0)] [(2, p1), (2, p0)] T V = ev 8 22 [(2, q0)] [] (zqw T p0 1 p1) V := by
  exact ev_pr (show zcode 8 19 = some (59, 22, 4, 1, []) by decide +kernel) h1
theorem b8_22 {T : zT} {V : zM} {q0 : Int} : ev 8 22 [(2, q0)] [] T V = ev 8 28 [(2, q0)] [(2, (zsz T)), (2, q0)] (zn T 0 128) (zs V (zsz T) (fun _ => 0)) := by
  refine Eq.trans (ev_lda (show zcode 8 22 = some (6, 23, 0, 0, []) by decide +kernel) rfl (by decide)) ?_
  refine Eq.trans (ev_ci (show zcode 8 23 = some (0, 26, 0, 128, []) by decide +kernel) (by decide)) ?_
  exact ev_narr (show zcode 8 26 = some (70, 28, 0, 0, []) by decide +kernel) (by decide)
theorem b8_28 {T : zT} {V : zM} {q0 : Int} {p0 : Int} {p1 : Int} (h1 : zO T p0 4) : ev 8 28 [(2, q0)] [(2, p1), (2, p0)] T V = ev 8 31 [(2, q0)] [] (zqw T p0 2 p1) V := by
  exact ev_pr (show zcode 8 28 = some (59, 31, 4, 2, []) by decide +kernel) h1
theorem b8_31 {T : zT} {V : zM} {q0 : Int} : ev 8 31 [(2, q0)] [] T V = ev 8 37 [(2, q0)] [(2, (zsz T)), (2, q0)] (zn T 0 128) (zs V (zsz T) (fun _ => 0)) := by
  refine Eq.trans (ev_lda (show zcode 8 31 = some (6, 32, 0, 0, []) by decide +kernel) rfl (by decide)) ?_
  refine Eq.trans (ev_ci (show zcode 8 32 = some (0, 35, 0, 128, []) by decide +kernel) (by decide)) ?_
  exact ev_narr (show zcode 8 35 = some (70, 37, 0, 0, []) by decide +kernel) (by decide)
theorem b8_37 {T : zT} {V : zM} {q0 : Int} {p0 : Int} {p1 : Int} (h1 : zO T p0 4) : ev 8 37 [(2, q0)] [(2, p1), (2, p0)] T V = ev 8 40 [(2, q0)] [] (zqw T p0 3 p1) V := by
  exact ev_pr (show zcode 8 37 = some (59, 40, 4, 3, []) by decide +kernel) h1
theorem b8_40 {T : zT} {V : zM} {q0 : Int} : ev 8 40 [(2, q0)] [] T V = ev 8 46 [(2, q0)] [(2, (zsz T)), (2, q0)] (zn T 0 128) (zs V (zsz T) (fun _ => 0)) := by
  refine Eq.trans (ev_lda (show zcode 8 40 = some (6, 41, 0, 0, []) by decide +kernel) rfl (by decide)) ?_
  refine Eq.trans (ev_ci (show zcode 8 41 = some (0, 44, 0, 128, []) by decide +kernel) (by decide)) ?_
  exact ev_narr (show zcode 8 44 = some (70, 46, 0, 0, []) by decide +kernel) (by decide)
theorem b8_46 {T : zT} {V : zM} {q0 : Int} {p0 : Int} {p1 : Int} (h1 : zO T p0 4) : ev 8 46 [(2, q0)] [(2, p1), (2, p0)] T V = ev 8 49 [(2, q0)] [] (zqw T p0 4 p1) V := by
  exact ev_pr (show zcode 8 46 = some (59, 49, 4, 4, []) by decide +kernel) h1
theorem b8_49 {T : zT} {V : zM} {q0 : Int} : ev 8 49 [(2, q0)] [] T V = some ((9, 0), T, V) := by
  exact ev_rn (show zcode 8 49 = some (73, 50, 0, 0, []) by decide +kernel)
/-! 9: TwoWayWall$PairTable.<init>()V -/
theorem e9 {T : zT} {V : zM} {q0 : Int} : zcall 9 [(2, q0)] T V = ev 9 0 [(2, q0)] [] T V := rfl
theorem b9_0 {T : zT} {V : zM} {q0 : Int} (h1 : (0 : Int) ≤ q0) : ev 9 0 [(2, q0)] [] T V = ev 9 10 [(2, q0)] [(2, (zsz T)), (2, q0)] (zn T 0 729) (zs V (zsz T) (fun _ => 0)) := by
  refine Eq.trans (ev_lda (show zcode 9 0 = some (6, 1, 0, 0, []) by decide +kernel) rfl (by decide)) ?_
  refine Eq.trans (ev_obj (show zcode 9 1 = some (78, 4, 0, 0, []) by decide +kernel) ⟨h1, show 0 ≤ 8 by decide⟩) ?_
  refine Eq.trans (ev_lda (show zcode 9 4 = some (6, 5, 0, 0, []) by decide +kernel) rfl (by decide)) ?_
  refine Eq.trans (ev_ci (show zcode 9 5 = some (0, 8, 0, 729, []) by decide +kernel) (by decide)) ?_
  exact ev_narr (show zcode 9 8 = some (70, 10, 0, 0, []) by decide +kernel) (by decide)
theorem b9_10 {T : zT} {V : zM} {q0 : Int} {p0 : Int} {p1 : Int} (h1 : zPairT T p0) : ev 9 10 [(2, q0)] [(2, p1), (2, p0)] T V = ev 9 13 [(2, q0)] [] (zqw T p0 0 p1) V := by
  exact ev_pr (show zcode 9 10 = some (59, 13, 3, 0, []) by decide +kernel) h1.o
theorem b9_13 {T : zT} {V : zM} {q0 : Int} : ev 9 13 [(2, q0)] [] T V = ev 9 19 [(2, q0)] [(2, (zsz T)), (2, q0)] (zn T 0 729) (zs V (zsz T) (fun _ => 0)) := by
  refine Eq.trans (ev_lda (show zcode 9 13 = some (6, 14, 0, 0, []) by decide +kernel) rfl (by decide)) ?_
  refine Eq.trans (ev_ci (show zcode 9 14 = some (0, 17, 0, 729, []) by decide +kernel) (by decide)) ?_
  exact ev_narr (show zcode 9 17 = some (70, 19, 0, 0, []) by decide +kernel) (by decide)
theorem b9_19 {T : zT} {V : zM} {q0 : Int} {p0 : Int} {p1 : Int} (h1 : zPairT T p0) : ev 9 19 [(2, q0)] [(2, p1), (2, p0)] T V = ev 9 22 [(2, q0)] [] (zqw T p0 1 p1) V := by
  exact ev_pr (show zcode 9 19 = some (59, 22, 3, 1, []) by decide +kernel) h1.o
theorem b9_22 {T : zT} {V : zM} {q0 : Int} : ev 9 22 [(2, q0)] [] T V = ev 9 28 [(2, q0)] [(2, (zsz T)), (2, q0)] (zn T 0 729) (zs V (zsz T) (fun _ => 0)) := by
  refine Eq.trans (ev_lda (show zcode 9 22 = some (6, 23, 0, 0, []) by decide +kernel) rfl (by decide)) ?_
  refine Eq.trans (ev_ci (show zcode 9 23 = some (0, 26, 0, 729, []) by decide +kernel) (by decide)) ?_
  exact ev_narr (show zcode 9 26 = some (70, 28, 0, 0, []) by decide +kernel) (by decide)
theorem b9_28 {T : zT} {V : zM} {q0 : Int} {p0 : Int} {p1 : Int} (h1 : zPairT T p0) : ev 9 28 [(2, q0)] [(2, p1), (2, p0)] T V = ev 9 31 [(2, q0)] [] (zqw T p0 2 p1) V := by
  exact ev_pr (show zcode 9 28 = some (59, 31, 3, 2, []) by decide +kernel) h1.o
theorem b9_31 {T : zT} {V : zM} {q0 : Int} : ev 9 31 [(2, q0)] [] T V = ev 9 37 [(2, q0)] [(2, (zsz T)), (2, q0)] (zn T 0 729) (zs V (zsz T) (fun _ => 0)) := by
  refine Eq.trans (ev_lda (show zcode 9 31 = some (6, 32, 0, 0, []) by decide +kernel) rfl (by decide)) ?_
  refine Eq.trans (ev_ci (show zcode 9 32 = some (0, 35, 0, 729, []) by decide +kernel) (by decide)) ?_
  exact ev_narr (show zcode 9 35 = some (70, 37, 0, 0, []) by decide +kernel) (by decide)
theorem b9_37 {T : zT} {V : zM} {q0 : Int} {p0 : Int} {p1 : Int} (h1 : zPairT T p0) : ev 9 37 [(2, q0)] [(2, p1), (2, p0)] T V = ev 9 40 [(2, q0)] [] (zqw T p0 3 p1) V := by
  exact ev_pr (show zcode 9 37 = some (59, 40, 3, 3, []) by decide +kernel) h1.o
theorem b9_40 {T : zT} {V : zM} {q0 : Int} : ev 9 40 [(2, q0)] [] T V = ev 9 46 [(2, q0)] [(2, (zsz T)), (2, q0)] (zn T 0 128) (zs V (zsz T) (fun _ => 0)) := by
  refine Eq.trans (ev_lda (show zcode 9 40 = some (6, 41, 0, 0, []) by decide +kernel) rfl (by decide)) ?_
  refine Eq.trans (ev_ci (show zcode 9 41 = some (0, 44, 0, 128, []) by decide +kernel) (by decide)) ?_
  exact ev_narr (show zcode 9 44 = some (70, 46, 0, 0, []) by decide +kernel) (by decide)
theorem b9_46 {T : zT} {V : zM} {q0 : Int} {p0 : Int} {p1 : Int} (h1 : zPairT T p0) : ev 9 46 [(2, q0)] [(2, p1), (2, p0)] T V = ev 9 49 [(2, q0)] [] (zqw T p0 4 p1) V := by
  exact ev_pr (show zcode 9 46 = some (59, 49, 3, 4, []) by decide +kernel) h1.o
theorem b9_49 {T : zT} {V : zM} {q0 : Int} : ev 9 49 [(2, q0)] [] T V = some ((9, 0), T, V) := by
  exact ev_rn (show zcode 9 49 = some (73, 50, 0, 0, []) by decide +kernel)
/-! 10: TwoWayWall$Nearest.<init>()V -/
theorem e10 {T : zT} {V : zM} {q0 : Int} : zcall 10 [(2, q0)] T V = ev 10 0 [(2, q0)] [] T V := rfl
theorem b10_0 {T : zT} {V : zM} {q0 : Int} (h1 : (0 : Int) ≤ q0) : ev 10 0 [(2, q0)] [] T V = some ((9, 0), T, V) := by
  refine Eq.trans (ev_lda (show zcode 10 0 = some (6, 1, 0, 0, []) by decide +kernel) rfl (by decide)) ?_
  refine Eq.trans (ev_obj (show zcode 10 1 = some (78, 4, 0, 0, []) by decide +kernel) ⟨h1, show 0 ≤ 8 by decide⟩) ?_
  exact ev_rn (show zcode 10 4 = some (73, 5, 0, 0, []) by decide +kernel)
/-! 16: TwoWayWall$Readings.make(LTwoWayWall$State;)V -/
theorem e16 {T : zT} {V : zM} {q1 : Int} : zcall 16 [(2, 59), (2, q1)] T V = ev 16 0 [(2, 59), (2, q1), (9, 0), (9, 0), (9, 0)] [] T V := rfl
theorem b16_0 {T : zT} {V : zM} {q1 : Int} : ev 16 0 [(2, 59), (2, q1), (9, 0), (9, 0), (9, 0)] [] T V = ev 16 2 [(2, 59), (2, q1), (0, 0), (9, 0), (9, 0)] [] T V := by
  refine Eq.trans (ev_ci (show zcode 16 0 = some (0, 1, 0, 0, []) by decide +kernel) (by decide)) ?_
  exact ev_sti (show zcode 16 1 = some (7, 2, 2, 0, []) by decide +kernel) ⟨show 2 < 5 by decide, Or.inr (show ¬ (2 : Nat) = 1 by decide)⟩
theorem b16_2 {T : zT} {V : zM} {q1 : Int} {x2 : Int} {v3 : zV} {v4 : zV} : ev 16 2 [(2, 59), (2, q1), (0, x2), v3, v4] [] T V = if 7 ≤ x2 then ev 16 96 [(2, 59), (2, q1), (0, x2), v3, v4] [] T V else ev 16 8 [(2, 59), (2, q1), (0, x2), v3, v4] [] T V := by
  refine Eq.trans (ev_ldi (show zcode 16 2 = some (4, 3, 2, 0, []) by decide +kernel) rfl) ?_
  refine Eq.trans (ev_ci (show zcode 16 3 = some (0, 5, 0, 7, []) by decide +kernel) (by decide)) ?_
  exact ev_cge (show zcode 16 5 = some (49, 8, 96, 0, []) by decide +kernel)
theorem b16_8 {T : zT} {V : zM} {q1 : Int} {x2 : Int} {v3 : zV} {v4 : zV} (h1 : (0 : Int) ≤ x2 ∧ x2 ≤ 30) : ev 16 8 [(2, 59), (2, q1), (0, x2), v3, v4] [] T V = ev 16 15 [(2, 59), (2, q1), (0, x2), (0, ((2 : Int) ^ (x2).toNat)), (0, 0)] [] T V := by
  refine Eq.trans (ev_ci (show zcode 16 8 = some (0, 9, 0, 1, []) by decide +kernel) (by decide)) ?_
  refine Eq.trans (ev_ldi (show zcode 16 9 = some (4, 10, 2, 0, []) by decide +kernel) rfl) ?_
  refine Eq.trans (ev_shl1 (show zcode 16 10 = some (20, 11, 0, 0, []) by decide +kernel) h1) ?_
  refine Eq.trans (ev_sti (show zcode 16 11 = some (7, 12, 3, 0, []) by decide +kernel) ⟨show 3 < 5 by decide, Or.inr (show ¬ (0 : Nat) = 1 by decide)⟩) ?_
  refine Eq.trans (ev_ci (show zcode 16 12 = some (0, 13, 0, 0, []) by decide +kernel) (by decide)) ?_
  exact ev_sti (show zcode 16 13 = some (7, 15, 4, 0, []) by decide +kernel) ⟨show 4 < 5 by decide, Or.inr (show ¬ (0 : Nat) = 1 by decide)⟩
theorem b16_15 {T : zT} {V : zM} {q1 : Int} {x2 : Int} {x3 : Int} {x4 : Int} : ev 16 15 [(2, 59), (2, q1), (0, x2), (0, x3), (0, x4)] [] T V = if x3 ≤ x4 then ev 16 90 [(2, 59), (2, q1), (0, x2), (0, x3), (0, x4)] [] T V else ev 16 21 [(2, 59), (2, q1), (0, x2), (0, x3), (0, x4)] [] T V := by
  refine Eq.trans (ev_ldi (show zcode 16 15 = some (4, 17, 4, 0, []) by decide +kernel) rfl) ?_
  refine Eq.trans (ev_ldi (show zcode 16 17 = some (4, 18, 3, 0, []) by decide +kernel) rfl) ?_
  exact ev_cge (show zcode 16 18 = some (49, 21, 90, 0, []) by decide +kernel)
theorem b16_21 {T : zT} {V : zM} {q1 : Int} {x2 : Int} {x3 : Int} {x4 : Int} (hS : zStr T) (h1 : -2147483648 ≤ (x3 + x4) ∧ (x3 + x4) ≤ 2147483647) (h2 : (0 : Int) ≤ x4 ∧ x4 < 128) (h3 : zState T q1) (h4 : (0 : Int) ≤ x2 ∧ x2 < 7) (h5 : -2147483648 ≤ ((V 62 x4) + (V (q1 + 4) x2)) ∧ ((V 62 x4) + (V (q1 + 4) x2)) ≤ 2147483647) (h6 : (0 : Int) ≤ (x3 + x4) ∧ (x3 + x4) < 128) (h7 : -2147483648 ≤ (((zwr (zwr V 62 (x3 + x4) ((V 62 x4) + (V (q1 + 4) x2))) 63 (x3 + x4) (x3 + x4)) (q1 + 3) x2) - 1) ∧ (((zwr (zwr V 62 (x3 + x4) ((V 62 x4) + (V (q1 + 4) x2))) 63 (x3 + x4) (x3 + x4)) (q1 + 3) x2) - 1) ≤ 2147483647) (h8 : (0 : Int) ≤ (((zwr (zwr V 62 (x3 + x4) ((V 62 x4) + (V (q1 + 4) x2))) 63 (x3 + x4) (x3 + x4)) (q1 + 3) x2) - 1) ∧ (((zwr (zwr V 62 (x3 + x4) ((V 62 x4) + (V (q1 + 4) x2))) 63 (x3 + x4) (x3 + x4)) (q1 + 3) x2) - 1) ≤ 30) (h9 : -2147483648 ≤ (x4 + 1) ∧ (x4 + 1) ≤ 2147483647) : ev 16 21 [(2, 59), (2, q1), (0, x2), (0, x3), (0, x4)] [] T V = ev 16 15 [(2, 59), (2, q1), (0, x2), (0, x3), (0, (x4 + 1))] [] T (zwr (zwr (zwr V 62 (x3 + x4) ((V 62 x4) + (V (q1 + 4) x2))) 63 (x3 + x4) (x3 + x4)) 64 (x3 + x4) (zor ((zwr (zwr V 62 (x3 + x4) ((V 62 x4) + (V (q1 + 4) x2))) 63 (x3 + x4) (x3 + x4)) 64 x4) ((2 : Int) ^ ((((zwr (zwr V 62 (x3 + x4) ((V 62 x4) + (V (q1 + 4) x2))) 63 (x3 + x4) (x3 + x4)) (q1 + 3) x2) - 1)).toNat))) := by
  refine Eq.trans (ev_lda (show zcode 16 21 = some (6, 22, 0, 0, []) by decide +kernel) rfl (by decide)) ?_
  refine Eq.trans (ev_gq (show zcode 16 22 = some (56, 25, 4, 2, []) by decide +kernel) (so59 hS) (sp59_2 hS)) ?_
  refine Eq.trans (ev_ldi (show zcode 16 25 = some (4, 26, 3, 0, []) by decide +kernel) rfl) ?_
  refine Eq.trans (ev_ldi (show zcode 16 26 = some (4, 28, 4, 0, []) by decide +kernel) rfl) ?_
  refine Eq.trans (ev_add (show zcode 16 28 = some (11, 29, 0, 0, []) by decide +kernel) h1) ?_
  refine Eq.trans (ev_lda (show zcode 16 29 = some (6, 30, 0, 0, []) by decide +kernel) rfl (by decide)) ?_
  refine Eq.trans (ev_gq (show zcode 16 30 = some (56, 33, 4, 2, []) by decide +kernel) (so59 hS) (sp59_2 hS)) ?_
  refine Eq.trans (ev_ldi (show zcode 16 33 = some (4, 35, 4, 0, []) by decide +kernel) rfl) ?_
  refine Eq.trans (ev_ia (show zcode 16 35 = some (60, 36, 0, 0, []) by decide +kernel) (sa62 hS) h2) ?_
  refine Eq.trans (ev_lda (show zcode 16 36 = some (6, 37, 1, 0, []) by decide +kernel) rfl (by decide)) ?_
  refine Eq.trans (ev_gq (show zcode 16 37 = some (56, 40, 6, 4, []) by decide +kernel) h3.o h3.p4) ?_
  refine Eq.trans (ev_ldi (show zcode 16 40 = some (4, 41, 2, 0, []) by decide +kernel) rfl) ?_
  refine Eq.trans (ev_ia (show zcode 16 41 = some (60, 42, 0, 0, []) by decide +kernel) h3.a4 h4) ?_
  refine Eq.trans (ev_add (show zcode 16 42 = some (11, 43, 0, 0, []) by decide +kernel) h5) ?_
  refine Eq.trans (ev_is (show zcode 16 43 = some (64, 44, 0, 0, []) by decide +kernel) (sa62 hS) h6) ?_
  refine Eq.trans (ev_lda (show zcode 16 44 = some (6, 45, 0, 0, []) by decide +kernel) rfl (by decide)) ?_
  refine Eq.trans (ev_gq (show zcode 16 45 = some (56, 48, 4, 3, []) by decide +kernel) (so59 hS) (sp59_3 hS)) ?_
  refine Eq.trans (ev_ldi (show zcode 16 48 = some (4, 49, 3, 0, []) by decide +kernel) rfl) ?_
  refine Eq.trans (ev_ldi (show zcode 16 49 = some (4, 51, 4, 0, []) by decide +kernel) rfl) ?_
  refine Eq.trans (ev_add (show zcode 16 51 = some (11, 52, 0, 0, []) by decide +kernel) h1) ?_
  refine Eq.trans (ev_ldi (show zcode 16 52 = some (4, 53, 3, 0, []) by decide +kernel) rfl) ?_
  refine Eq.trans (ev_ldi (show zcode 16 53 = some (4, 55, 4, 0, []) by decide +kernel) rfl) ?_
  refine Eq.trans (ev_add (show zcode 16 55 = some (11, 56, 0, 0, []) by decide +kernel) h1) ?_
  refine Eq.trans (ev_is (show zcode 16 56 = some (64, 57, 0, 0, []) by decide +kernel) (sa63 hS) h6) ?_
  refine Eq.trans (ev_lda (show zcode 16 57 = some (6, 58, 0, 0, []) by decide +kernel) rfl (by decide)) ?_
  refine Eq.trans (ev_gq (show zcode 16 58 = some (56, 61, 4, 4, []) by decide +kernel) (so59 hS) (sp59_4 hS)) ?_
  refine Eq.trans (ev_ldi (show zcode 16 61 = some (4, 62, 3, 0, []) by decide +kernel) rfl) ?_
  refine Eq.trans (ev_ldi (show zcode 16 62 = some (4, 64, 4, 0, []) by decide +kernel) rfl) ?_
  refine Eq.trans (ev_add (show zcode 16 64 = some (11, 65, 0, 0, []) by decide +kernel) h1) ?_
  refine Eq.trans (ev_lda (show zcode 16 65 = some (6, 66, 0, 0, []) by decide +kernel) rfl (by decide)) ?_
  refine Eq.trans (ev_gq (show zcode 16 66 = some (56, 69, 4, 4, []) by decide +kernel) (so59 hS) (sp59_4 hS)) ?_
  refine Eq.trans (ev_ldi (show zcode 16 69 = some (4, 71, 4, 0, []) by decide +kernel) rfl) ?_
  refine Eq.trans (ev_ia (show zcode 16 71 = some (60, 72, 0, 0, []) by decide +kernel) (sa64 hS) h2) ?_
  refine Eq.trans (ev_ci (show zcode 16 72 = some (0, 73, 0, 1, []) by decide +kernel) (by decide)) ?_
  refine Eq.trans (ev_lda (show zcode 16 73 = some (6, 74, 1, 0, []) by decide +kernel) rfl (by decide)) ?_
  refine Eq.trans (ev_gq (show zcode 16 74 = some (56, 77, 6, 3, []) by decide +kernel) h3.o h3.p3) ?_
  refine Eq.trans (ev_ldi (show zcode 16 77 = some (4, 78, 2, 0, []) by decide +kernel) rfl) ?_
  refine Eq.trans (ev_ia (show zcode 16 78 = some (60, 79, 0, 0, []) by decide +kernel) h3.a3 h4) ?_
  refine Eq.trans (ev_ci (show zcode 16 79 = some (0, 80, 0, 1, []) by decide +kernel) (by decide)) ?_
  refine Eq.trans (ev_sub (show zcode 16 80 = some (12, 81, 0, 0, []) by decide +kernel) h7) ?_
  refine Eq.trans (ev_shl1 (show zcode 16 81 = some (20, 82, 0, 0, []) by decide +kernel) h8) ?_
  refine Eq.trans (ev_or (show zcode 16 82 = some (15, 83, 0, 0, []) by decide +kernel)) ?_
  refine Eq.trans (ev_is (show zcode 16 83 = some (64, 84, 0, 0, []) by decide +kernel) (sa64 hS) h6) ?_
  refine Eq.trans (ev_inc (show zcode 16 84 = some (10, 87, 4, 1, []) by decide +kernel) rfl h9 (Or.inr (show ¬ (0 : Nat) = 1 by decide))) ?_
  exact ev_goto (show zcode 16 87 = some (53, 90, 15, 0, []) by decide +kernel)
theorem b16_90 {T : zT} {V : zM} {q1 : Int} {x2 : Int} {x3 : Int} {x4 : Int} (h1 : -2147483648 ≤ (x2 + 1) ∧ (x2 + 1) ≤ 2147483647) : ev 16 90 [(2, 59), (2, q1), (0, x2), (0, x3), (0, x4)] [] T V = ev 16 2 [(2, 59), (2, q1), (0, (x2 + 1)), (0, x3), (0, x4)] [] T V := by
  refine Eq.trans (ev_inc (show zcode 16 90 = some (10, 93, 2, 1, []) by decide +kernel) rfl h1 (Or.inr (show ¬ (2 : Nat) = 1 by decide))) ?_
  exact ev_goto (show zcode 16 93 = some (53, 96, 2, 0, []) by decide +kernel)
theorem b16_96 {T : zT} {V : zM} {q1 : Int} {x2 : Int} {v3 : zV} {v4 : zV} (hS : zStr T) (h1 : zState T q1) : ev 16 96 [(2, 59), (2, q1), (0, x2), v3, v4] [] T V = (zcall 17 [(2, (q1 + 5)), (2, 63), (2, 60)] T V).bind fun x => ev 16 111 [(2, 59), (2, q1), (0, x2), v3, v4] (z_push x.1 []) x.2.1 x.2.2 := by
  refine Eq.trans (ev_lda (show zcode 16 96 = some (6, 97, 1, 0, []) by decide +kernel) rfl (by decide)) ?_
  refine Eq.trans (ev_gq (show zcode 16 97 = some (56, 100, 6, 5, []) by decide +kernel) h1.o h1.p5) ?_
  refine Eq.trans (ev_lda (show zcode 16 100 = some (6, 101, 0, 0, []) by decide +kernel) rfl (by decide)) ?_
  refine Eq.trans (ev_gq (show zcode 16 101 = some (56, 104, 4, 3, []) by decide +kernel) (so59 hS) (sp59_3 hS)) ?_
  refine Eq.trans (ev_lda (show zcode 16 104 = some (6, 105, 0, 0, []) by decide +kernel) rfl (by decide)) ?_
  refine Eq.trans (ev_gq (show zcode 16 105 = some (56, 108, 4, 0, []) by decide +kernel) (so59 hS) (sp59_0 hS)) ?_
  exact ev_cstat (show zcode 16 108 = some (74, 111, 17, 3, []) by decide +kernel) (args := [(2, (q1 + 5)), (2, 63), (2, 60)]) (rest := []) rfl rfl (show 0 ≤ 8 by decide) ⟨by decide, show 3 ≤ 7 by decide⟩
theorem b16_111 {T : zT} {V : zM} {q1 : Int} {x2 : Int} {v3 : zV} {v4 : zV} (hS : zStr T) (h1 : zState T q1) : ev 16 111 [(2, 59), (2, q1), (0, x2), v3, v4] [] T V = (zcall 17 [(2, (q1 + 13)), (2, 64), (2, 61)] T V).bind fun x => ev 16 126 [(2, 59), (2, q1), (0, x2), v3, v4] (z_push x.1 []) x.2.1 x.2.2 := by
  refine Eq.trans (ev_lda (show zcode 16 111 = some (6, 112, 1, 0, []) by decide +kernel) rfl (by decide)) ?_
  refine Eq.trans (ev_gq (show zcode 16 112 = some (56, 115, 6, 6, []) by decide +kernel) h1.o h1.p6) ?_
  refine Eq.trans (ev_lda (show zcode 16 115 = some (6, 116, 0, 0, []) by decide +kernel) rfl (by decide)) ?_
  refine Eq.trans (ev_gq (show zcode 16 116 = some (56, 119, 4, 4, []) by decide +kernel) (so59 hS) (sp59_4 hS)) ?_
  refine Eq.trans (ev_lda (show zcode 16 119 = some (6, 120, 0, 0, []) by decide +kernel) rfl (by decide)) ?_
  refine Eq.trans (ev_gq (show zcode 16 120 = some (56, 123, 4, 1, []) by decide +kernel) (so59 hS) (sp59_1 hS)) ?_
  exact ev_cstat (show zcode 16 123 = some (74, 126, 17, 3, []) by decide +kernel) (args := [(2, (q1 + 13)), (2, 64), (2, 61)]) (rest := []) rfl rfl (show 0 ≤ 8 by decide) ⟨by decide, show 3 ≤ 7 by decide⟩
theorem b16_126 {T : zT} {V : zM} {q1 : Int} {x2 : Int} {v3 : zV} {v4 : zV} : ev 16 126 [(2, 59), (2, q1), (0, x2), v3, v4] [] T V = some ((9, 0), T, V) := by
  exact ev_rn (show zcode 16 126 = some (73, 127, 0, 0, []) by decide +kernel)
/-! 17: TwoWayWall$Readings.listKinds(LTwoWayWall$Tongue;[I[I)V -/
theorem e17 {T : zT} {V : zM} {q0 : Int} {q1 : Int} {q2 : Int} : zcall 17 [(2, q0), (2, q1), (2, q2)] T V = ev 17 0 [(2, q0), (2, q1), (2, q2), (9, 0), (9, 0), (9, 0), (9, 0)] [] T V := rfl
theorem b17_0 {T : zT} {V : zM} {q0 : Int} {q1 : Int} {q2 : Int} : ev 17 0 [(2, q0), (2, q1), (2, q2), (9, 0), (9, 0), (9, 0), (9, 0)] [] T V = (zcall 18 [(2, q2), (0, 26)] T V).bind fun x => ev 17 6 [(2, q0), (2, q1), (2, q2), (9, 0), (9, 0), (9, 0), (9, 0)] (z_push x.1 []) x.2.1 x.2.2 := by
  refine Eq.trans (ev_lda (show zcode 17 0 = some (6, 1, 2, 0, []) by decide +kernel) rfl (by decide)) ?_
  refine Eq.trans (ev_ci (show zcode 17 1 = some (0, 3, 0, 26, []) by decide +kernel) (by decide)) ?_
  exact ev_cstat (show zcode 17 3 = some (74, 6, 18, 2, []) by decide +kernel) (args := [(2, q2), (0, 26)]) (rest := []) rfl rfl (show 0 ≤ 8 by decide) ⟨by decide, show 2 ≤ 4 by decide⟩
theorem b17_6 {T : zT} {V : zM} {q0 : Int} {q1 : Int} {q2 : Int} : ev 17 6 [(2, q0), (2, q1), (2, q2), (9, 0), (9, 0), (9, 0), (9, 0)] [] T V = ev 17 9 [(2, q0), (2, q1), (2, q2), (0, 25), (9, 0), (9, 0), (9, 0)] [] T V := by
  refine Eq.trans (ev_ci (show zcode 17 6 = some (0, 8, 0, 25, []) by decide +kernel) (by decide)) ?_
  exact ev_sti (show zcode 17 8 = some (7, 9, 3, 0, []) by decide +kernel) ⟨show 3 < 7 by decide, Or.inr (show ¬ (2 : Nat) = 1 by decide)⟩
theorem b17_9 {T : zT} {V : zM} {q0 : Int} {q1 : Int} {q2 : Int} {x3 : Int} {v4 : zV} {v5 : zV} {v6 : zV} : ev 17 9 [(2, q0), (2, q1), (2, q2), (0, x3), v4, v5, v6] [] T V = if x3 < 0 then ev 17 80 [(2, q0), (2, q1), (2, q2), (0, x3), v4, v5, v6] [] T V else ev 17 13 [(2, q0), (2, q1), (2, q2), (0, x3), v4, v5, v6] [] T V := by
  refine Eq.trans (ev_ldi (show zcode 17 9 = some (4, 10, 3, 0, []) by decide +kernel) rfl) ?_
  exact ev_lt (show zcode 17 10 = some (42, 13, 80, 0, []) by decide +kernel)
theorem b17_13 {T : zT} {V : zM} {q0 : Int} {q1 : Int} {q2 : Int} {x3 : Int} {v4 : zV} {v5 : zV} {v6 : zV} (h1 : zTongue T q0) : ev 17 13 [(2, q0), (2, q1), (2, q2), (0, x3), v4, v5, v6] [] T V = (zcall 19 [(2, q0), (0, x3)] T V).bind fun x => ev 17 18 [(2, q0), (2, q1), (2, q2), (0, x3), v4, v5, v6] (z_push x.1 []) x.2.1 x.2.2 := by
  refine Eq.trans (ev_lda (show zcode 17 13 = some (6, 14, 0, 0, []) by decide +kernel) rfl (by decide)) ?_
  refine Eq.trans (ev_ldi (show zcode 17 14 = some (4, 15, 3, 0, []) by decide +kernel) rfl) ?_
  exact ev_cvirt (show zcode 17 15 = some (76, 18, 19, 2, [9]) by decide +kernel) (args := [(0, x3)]) (rest := []) rfl h1.o rfl (show 0 ≤ 8 by decide) ⟨by decide, show 2 ≤ 2 by decide⟩
theorem b17_18 {T : zT} {V : zM} {q0 : Int} {q1 : Int} {q2 : Int} {x3 : Int} {v4 : zV} {v5 : zV} {v6 : zV} {y0 : Int} : ev 17 18 [(2, q0), (2, q1), (2, q2), (0, x3), v4, v5, v6] [(0, y0)] T V = if y0 = 0 then ev 17 74 [(2, q0), (2, q1), (2, q2), (0, x3), v4, v5, v6] [] T V else ev 17 21 [(2, q0), (2, q1), (2, q2), (0, x3), v4, v5, v6] [] T V := by
  exact ev_eq (show zcode 17 18 = some (40, 21, 74, 0, []) by decide +kernel)
theorem b17_21 {T : zT} {V : zM} {q0 : Int} {q1 : Int} {q2 : Int} {x3 : Int} {v4 : zV} {v5 : zV} {v6 : zV} (h1 : zTongue T q0) (h2 : (0 : Int) ≤ x3 ∧ x3 < 26) : ev 17 21 [(2, q0), (2, q1), (2, q2), (0, x3), v4, v5, v6] [] T V = ev 17 43 [(2, q0), (2, q1), (2, q2), (0, x3), (0, (V (q0 + 1) x3)), (0, (zor (V (q0 + 1) x3) (V (q0 + 2) x3))), (0, 0)] [] T V := by
  refine Eq.trans (ev_lda (show zcode 17 21 = some (6, 22, 0, 0, []) by decide +kernel) rfl (by decide)) ?_
  refine Eq.trans (ev_gq (show zcode 17 22 = some (56, 25, 9, 0, []) by decide +kernel) h1.o h1.p0) ?_
  refine Eq.trans (ev_ldi (show zcode 17 25 = some (4, 26, 3, 0, []) by decide +kernel) rfl) ?_
  refine Eq.trans (ev_ia (show zcode 17 26 = some (60, 27, 0, 0, []) by decide +kernel) h1.a1 h2) ?_
  refine Eq.trans (ev_sti (show zcode 17 27 = some (7, 29, 4, 0, []) by decide +kernel) ⟨show 4 < 7 by decide, Or.inr (show ¬ (0 : Nat) = 1 by decide)⟩) ?_
  refine Eq.trans (ev_ldi (show zcode 17 29 = some (4, 31, 4, 0, []) by decide +kernel) rfl) ?_
  refine Eq.trans (ev_lda (show zcode 17 31 = some (6, 32, 0, 0, []) by decide +kernel) rfl (by decide)) ?_
  refine Eq.trans (ev_gq (show zcode 17 32 = some (56, 35, 9, 1, []) by decide +kernel) h1.o h1.p1) ?_
  refine Eq.trans (ev_ldi (show zcode 17 35 = some (4, 36, 3, 0, []) by decide +kernel) rfl) ?_
  refine Eq.trans (ev_ia (show zcode 17 36 = some (60, 37, 0, 0, []) by decide +kernel) h1.a2 h2) ?_
  refine Eq.trans (ev_or (show zcode 17 37 = some (15, 38, 0, 0, []) by decide +kernel)) ?_
  refine Eq.trans (ev_sti (show zcode 17 38 = some (7, 40, 5, 0, []) by decide +kernel) ⟨show 5 < 7 by decide, Or.inr (show ¬ (0 : Nat) = 1 by decide)⟩) ?_
  refine Eq.trans (ev_ci (show zcode 17 40 = some (0, 41, 0, 0, []) by decide +kernel) (by decide)) ?_
  exact ev_sti (show zcode 17 41 = some (7, 43, 6, 0, []) by decide +kernel) ⟨show 6 < 7 by decide, Or.inr (show ¬ (0 : Nat) = 1 by decide)⟩
theorem b17_43 {T : zT} {V : zM} {q0 : Int} {q1 : Int} {q2 : Int} {x3 : Int} {x4 : Int} {x5 : Int} {x6 : Int} : ev 17 43 [(2, q0), (2, q1), (2, q2), (0, x3), (0, x4), (0, x5), (0, x6)] [] T V = if 128 ≤ x6 then ev 17 74 [(2, q0), (2, q1), (2, q2), (0, x3), (0, x4), (0, x5), (0, x6)] [] T V else ev 17 51 [(2, q0), (2, q1), (2, q2), (0, x3), (0, x4), (0, x5), (0, x6)] [] T V := by
  refine Eq.trans (ev_ldi (show zcode 17 43 = some (4, 45, 6, 0, []) by decide +kernel) rfl) ?_
  refine Eq.trans (ev_ci (show zcode 17 45 = some (0, 48, 0, 128, []) by decide +kernel) (by decide)) ?_
  exact ev_cge (show zcode 17 48 = some (49, 51, 74, 0, []) by decide +kernel)
theorem b17_51 {T : zT} {V : zM} {q0 : Int} {q1 : Int} {q2 : Int} {x3 : Int} {x4 : Int} {x5 : Int} {x6 : Int} {n1 : Int} (h1 : zAr T q1 0 n1) (h2 : (0 : Int) ≤ x6 ∧ x6 < n1) : ev 17 51 [(2, q0), (2, q1), (2, q2), (0, x3), (0, x4), (0, x5), (0, x6)] [] T V = if (zand (V q1 x6) x5) = x4 then ev 17 63 [(2, q0), (2, q1), (2, q2), (0, x3), (0, x4), (0, x5), (0, x6)] [] T V else ev 17 68 [(2, q0), (2, q1), (2, q2), (0, x3), (0, x4), (0, x5), (0, x6)] [] T V := by
  refine Eq.trans (ev_lda (show zcode 17 51 = some (6, 52, 1, 0, []) by decide +kernel) rfl (by decide)) ?_
  refine Eq.trans (ev_ldi (show zcode 17 52 = some (4, 54, 6, 0, []) by decide +kernel) rfl) ?_
  refine Eq.trans (ev_ia (show zcode 17 54 = some (60, 55, 0, 0, []) by decide +kernel) h1 h2) ?_
  refine Eq.trans (ev_ldi (show zcode 17 55 = some (4, 57, 5, 0, []) by decide +kernel) rfl) ?_
  refine Eq.trans (ev_and (show zcode 17 57 = some (14, 58, 0, 0, []) by decide +kernel)) ?_
  refine Eq.trans (ev_ldi (show zcode 17 58 = some (4, 60, 4, 0, []) by decide +kernel) rfl) ?_
  exact ev_cne (show zcode 17 60 = some (47, 63, 68, 0, []) by decide +kernel)
theorem b17_63 {T : zT} {V : zM} {q0 : Int} {q1 : Int} {q2 : Int} {x3 : Int} {x4 : Int} {x5 : Int} {x6 : Int} {n1 : Int} (h1 : zAr T q2 0 n1) (h2 : (0 : Int) ≤ x6 ∧ x6 < n1) : ev 17 63 [(2, q0), (2, q1), (2, q2), (0, x3), (0, x4), (0, x5), (0, x6)] [] T V = ev 17 68 [(2, q0), (2, q1), (2, q2), (0, x3), (0, x4), (0, x5), (0, x6)] [] T (zwr V q2 x6 x3) := by
  refine Eq.trans (ev_lda (show zcode 17 63 = some (6, 64, 2, 0, []) by decide +kernel) rfl (by decide)) ?_
  refine Eq.trans (ev_ldi (show zcode 17 64 = some (4, 66, 6, 0, []) by decide +kernel) rfl) ?_
  refine Eq.trans (ev_ldi (show zcode 17 66 = some (4, 67, 3, 0, []) by decide +kernel) rfl) ?_
  exact ev_is (show zcode 17 67 = some (64, 68, 0, 0, []) by decide +kernel) h1 h2
theorem b17_68 {T : zT} {V : zM} {q0 : Int} {q1 : Int} {q2 : Int} {x3 : Int} {x4 : Int} {x5 : Int} {x6 : Int} (h1 : -2147483648 ≤ (x6 + 1) ∧ (x6 + 1) ≤ 2147483647) : ev 17 68 [(2, q0), (2, q1), (2, q2), (0, x3), (0, x4), (0, x5), (0, x6)] [] T V = ev 17 43 [(2, q0), (2, q1), (2, q2), (0, x3), (0, x4), (0, x5), (0, (x6 + 1))] [] T V := by
  refine Eq.trans (ev_inc (show zcode 17 68 = some (10, 71, 6, 1, []) by decide +kernel) rfl h1 (Or.inr (show ¬ (0 : Nat) = 1 by decide))) ?_
  exact ev_goto (show zcode 17 71 = some (53, 74, 43, 0, []) by decide +kernel)
theorem b17_74 {T : zT} {V : zM} {q0 : Int} {q1 : Int} {q2 : Int} {x3 : Int} {v4 : zV} {v5 : zV} {v6 : zV} (h1 : -2147483648 ≤ (x3 + (-1)) ∧ (x3 + (-1)) ≤ 2147483647) : ev 17 74 [(2, q0), (2, q1), (2, q2), (0, x3), v4, v5, v6] [] T V = ev 17 9 [(2, q0), (2, q1), (2, q2), (0, (x3 + (-1))), v4, v5, v6] [] T V := by
  refine Eq.trans (ev_inc (show zcode 17 74 = some (10, 77, 3, (-1), []) by decide +kernel) rfl h1 (Or.inr (show ¬ (2 : Nat) = 1 by decide))) ?_
  exact ev_goto (show zcode 17 77 = some (53, 80, 9, 0, []) by decide +kernel)
theorem b17_80 {T : zT} {V : zM} {q0 : Int} {q1 : Int} {q2 : Int} {x3 : Int} {v4 : zV} {v5 : zV} {v6 : zV} : ev 17 80 [(2, q0), (2, q1), (2, q2), (0, x3), v4, v5, v6] [] T V = some ((9, 0), T, V) := by
  exact ev_rn (show zcode 17 80 = some (73, 81, 0, 0, []) by decide +kernel)
/-! 19: TwoWayWall$Tongue.isTold(I)Z -/
theorem e19 {T : zT} {V : zM} {q0 : Int} {x1 : Int} : zcall 19 [(2, q0), (0, x1)] T V = ev 19 0 [(2, q0), (0, x1)] [] T V := rfl
theorem b19_0 {T : zT} {V : zM} {q0 : Int} {x1 : Int} (h1 : zTongue T q0) (h2 : (0 : Int) ≤ x1 ∧ x1 < 26) : ev 19 0 [(2, q0), (0, x1)] [] T V = if (V (q0 + 1) x1) = 0 then ev 19 13 [(2, q0), (0, x1)] [] T V else ev 19 9 [(2, q0), (0, x1)] [] T V := by
  refine Eq.trans (ev_lda (show zcode 19 0 = some (6, 1, 0, 0, []) by decide +kernel) rfl (by decide)) ?_
  refine Eq.trans (ev_gq (show zcode 19 1 = some (56, 4, 9, 0, []) by decide +kernel) h1.o h1.p0) ?_
  refine Eq.trans (ev_ldi (show zcode 19 4 = some (4, 5, 1, 0, []) by decide +kernel) rfl) ?_
  refine Eq.trans (ev_ia (show zcode 19 5 = some (60, 6, 0, 0, []) by decide +kernel) h1.a1 h2) ?_
  exact ev_eq (show zcode 19 6 = some (40, 9, 13, 0, []) by decide +kernel)
theorem b19_9 {T : zT} {V : zM} {q0 : Int} {x1 : Int} : ev 19 9 [(2, q0), (0, x1)] [] T V = ev 19 14 [(2, q0), (0, x1)] [(0, 1)] T V := by
  refine Eq.trans (ev_ci (show zcode 19 9 = some (0, 10, 0, 1, []) by decide +kernel) (by decide)) ?_
  exact ev_goto (show zcode 19 10 = some (53, 13, 14, 0, []) by decide +kernel)
theorem b19_13 {T : zT} {V : zM} {q0 : Int} {x1 : Int} : ev 19 13 [(2, q0), (0, x1)] [] T V = ev 19 14 [(2, q0), (0, x1)] [(0, 0)] T V := by
  exact ev_ci (show zcode 19 13 = some (0, 14, 0, 0, []) by decide +kernel) (by decide)
theorem b19_14 {T : zT} {V : zM} {q0 : Int} {x1 : Int} {y0 : Int} (h1 : (0 : Int) ≤ y0 ∧ y0 ≤ 1) : ev 19 14 [(2, q0), (0, x1)] [(0, y0)] T V = some ((0, y0), T, V) := by
  exact ev_rz (show zcode 19 14 = some (72, 15, 3, 0, []) by decide +kernel) h1
/-! 20: TwoWayWall$PairTable.clear()V -/
theorem e20 {T : zT} {V : zM} {q0 : Int} : zcall 20 [(2, q0)] T V = ev 20 0 [(2, q0), (9, 0)] [] T V := rfl
theorem b20_0 {T : zT} {V : zM} {q0 : Int} : ev 20 0 [(2, q0), (9, 0)] [] T V = ev 20 2 [(2, q0), (0, 0)] [] T V := by
  refine Eq.trans (ev_ci (show zcode 20 0 = some (0, 1, 0, 0, []) by decide +kernel) (by decide)) ?_
  exact ev_sti (show zcode 20 1 = some (7, 2, 1, 0, []) by decide +kernel) ⟨show 1 < 2 by decide, Or.inr (show ¬ (2 : Nat) = 1 by decide)⟩
theorem b20_2 {T : zT} {V : zM} {q0 : Int} {x1 : Int} (h1 : zPairT T q0) : ev 20 2 [(2, q0), (0, x1)] [] T V = if (V q0 5) ≤ x1 then ev 20 28 [(2, q0), (0, x1)] [] T V else ev 20 10 [(2, q0), (0, x1)] [] T V := by
  refine Eq.trans (ev_ldi (show zcode 20 2 = some (4, 3, 1, 0, []) by decide +kernel) rfl) ?_
  refine Eq.trans (ev_lda (show zcode 20 3 = some (6, 4, 0, 0, []) by decide +kernel) rfl (by decide)) ?_
  refine Eq.trans (ev_gi (show zcode 20 4 = some (55, 7, 3, 5, []) by decide +kernel) h1.o) ?_
  exact ev_cge (show zcode 20 7 = some (49, 10, 28, 0, []) by decide +kernel)
theorem b20_10 {T : zT} {V : zM} {q0 : Int} {x1 : Int} (h1 : zPairT T q0) (h2 : (0 : Int) ≤ x1 ∧ x1 < 128) (h3 : (0 : Int) ≤ (V (q0 + 5) x1) ∧ (V (q0 + 5) x1) < 729) (h4 : -2147483648 ≤ (x1 + 1) ∧ (x1 + 1) ≤ 2147483647) : ev 20 10 [(2, q0), (0, x1)] [] T V = ev 20 2 [(2, q0), (0, (x1 + 1))] [] T (zwr V (q0 + 1) (V (q0 + 5) x1) 0) := by
  refine Eq.trans (ev_lda (show zcode 20 10 = some (6, 11, 0, 0, []) by decide +kernel) rfl (by decide)) ?_
  refine Eq.trans (ev_gq (show zcode 20 11 = some (56, 14, 3, 0, []) by decide +kernel) h1.o h1.p0) ?_
  refine Eq.trans (ev_lda (show zcode 20 14 = some (6, 15, 0, 0, []) by decide +kernel) rfl (by decide)) ?_
  refine Eq.trans (ev_gq (show zcode 20 15 = some (56, 18, 3, 4, []) by decide +kernel) h1.o h1.p4) ?_
  refine Eq.trans (ev_ldi (show zcode 20 18 = some (4, 19, 1, 0, []) by decide +kernel) rfl) ?_
  refine Eq.trans (ev_ia (show zcode 20 19 = some (60, 20, 0, 0, []) by decide +kernel) h1.a5 h2) ?_
  refine Eq.trans (ev_ci (show zcode 20 20 = some (0, 21, 0, 0, []) by decide +kernel) (by decide)) ?_
  refine Eq.trans (ev_is (show zcode 20 21 = some (64, 22, 0, 0, []) by decide +kernel) h1.a1 h3) ?_
  refine Eq.trans (ev_inc (show zcode 20 22 = some (10, 25, 1, 1, []) by decide +kernel) rfl h4 (Or.inr (show ¬ (2 : Nat) = 1 by decide))) ?_
  exact ev_goto (show zcode 20 25 = some (53, 28, 2, 0, []) by decide +kernel)
theorem b20_28 {T : zT} {V : zM} {q0 : Int} {x1 : Int} (h1 : zPairT T q0) : ev 20 28 [(2, q0), (0, x1)] [] T V = some ((9, 0), T, (zwr V q0 5 0)) := by
  refine Eq.trans (ev_lda (show zcode 20 28 = some (6, 29, 0, 0, []) by decide +kernel) rfl (by decide)) ?_
  refine Eq.trans (ev_ci (show zcode 20 29 = some (0, 30, 0, 0, []) by decide +kernel) (by decide)) ?_
  refine Eq.trans (ev_pi (show zcode 20 30 = some (57, 33, 3, 5, []) by decide +kernel) h1.o) ?_
  exact ev_rn (show zcode 20 33 = some (73, 34, 0, 0, []) by decide +kernel)
/-! 21: TwoWayWall$PairTable.add(LTwoWayWall$Readings;II)V -/
theorem e21 {T : zT} {V : zM} {q0 : Int} {x2 : Int} {x3 : Int} : zcall 21 [(2, q0), (2, 59), (0, x2), (0, x3)] T V = ev 21 0 [(2, q0), (2, 59), (0, x2), (0, x3), (9, 0)] [] T V := rfl
theorem b21_0 {T : zT} {V : zM} {q0 : Int} {x2 : Int} {x3 : Int} (hS : zStr T) (h1 : (0 : Int) ≤ x2 ∧ x2 < 128) : ev 21 0 [(2, q0), (2, 59), (0, x2), (0, x3), (9, 0)] [] T V = (zcall 22 [(0, (V 60 x2)), (0, (V 61 x2))] T V).bind fun x => ev 21 15 [(2, q0), (2, 59), (0, x2), (0, x3), (9, 0)] (z_push x.1 []) x.2.1 x.2.2 := by
  refine Eq.trans (ev_lda (show zcode 21 0 = some (6, 1, 1, 0, []) by decide +kernel) rfl (by decide)) ?_
  refine Eq.trans (ev_gq (show zcode 21 1 = some (56, 4, 4, 0, []) by decide +kernel) (so59 hS) (sp59_0 hS)) ?_
  refine Eq.trans (ev_ldi (show zcode 21 4 = some (4, 5, 2, 0, []) by decide +kernel) rfl) ?_
  refine Eq.trans (ev_ia (show zcode 21 5 = some (60, 6, 0, 0, []) by decide +kernel) (sa60 hS) h1) ?_
  refine Eq.trans (ev_lda (show zcode 21 6 = some (6, 7, 1, 0, []) by decide +kernel) rfl (by decide)) ?_
  refine Eq.trans (ev_gq (show zcode 21 7 = some (56, 10, 4, 1, []) by decide +kernel) (so59 hS) (sp59_1 hS)) ?_
  refine Eq.trans (ev_ldi (show zcode 21 10 = some (4, 11, 2, 0, []) by decide +kernel) rfl) ?_
  refine Eq.trans (ev_ia (show zcode 21 11 = some (60, 12, 0, 0, []) by decide +kernel) (sa61 hS) h1) ?_
  exact ev_cstat (show zcode 21 12 = some (74, 15, 22, 2, []) by decide +kernel) (args := [(0, (V 60 x2)), (0, (V 61 x2))]) (rest := []) rfl rfl (show 0 ≤ 8 by decide) ⟨by decide, show 2 ≤ 2 by decide⟩
theorem b21_15 {T : zT} {V : zM} {q0 : Int} {x2 : Int} {x3 : Int} {y0 : Int} (h1 : zPairT T q0) (h2 : (0 : Int) ≤ y0 ∧ y0 < 729) : ev 21 15 [(2, q0), (2, 59), (0, x2), (0, x3), (9, 0)] [(0, y0)] T V = if (V (q0 + 1) y0) = 0 then ev 21 27 [(2, q0), (2, 59), (0, x2), (0, x3), (0, y0)] [] T V else ev 21 76 [(2, q0), (2, 59), (0, x2), (0, x3), (0, y0)] [] T V := by
  refine Eq.trans (ev_sti (show zcode 21 15 = some (7, 17, 4, 0, []) by decide +kernel) ⟨show 4 < 5 by decide, Or.inr (show ¬ (0 : Nat) = 1 by decide)⟩) ?_
  refine Eq.trans (ev_lda (show zcode 21 17 = some (6, 18, 0, 0, []) by decide +kernel) rfl (by decide)) ?_
  refine Eq.trans (ev_gq (show zcode 21 18 = some (56, 21, 3, 0, []) by decide +kernel) h1.o h1.p0) ?_
  refine Eq.trans (ev_ldi (show zcode 21 21 = some (4, 23, 4, 0, []) by decide +kernel) rfl) ?_
  refine Eq.trans (ev_ia (show zcode 21 23 = some (60, 24, 0, 0, []) by decide +kernel) h1.a1 h2) ?_
  exact ev_ne (show zcode 21 24 = some (41, 27, 76, 0, []) by decide +kernel)
theorem b21_27 {T : zT} {V : zM} {q0 : Int} {x2 : Int} {x3 : Int} {x4 : Int} (h1 : zPairT T q0) : ev 21 27 [(2, q0), (2, 59), (0, x2), (0, x3), (0, x4)] [] T V = if (V q0 5) < 128 then ev 21 38 [(2, q0), (2, 59), (0, x2), (0, x3), (0, x4)] [] T V else ev 21 37 [(2, q0), (2, 59), (0, x2), (0, x3), (0, x4)] [] T V := by
  refine Eq.trans (ev_lda (show zcode 21 27 = some (6, 28, 0, 0, []) by decide +kernel) rfl (by decide)) ?_
  refine Eq.trans (ev_gi (show zcode 21 28 = some (55, 31, 3, 5, []) by decide +kernel) h1.o) ?_
  refine Eq.trans (ev_ci (show zcode 21 31 = some (0, 34, 0, 128, []) by decide +kernel) (by decide)) ?_
  exact ev_clt (show zcode 21 34 = some (48, 37, 38, 0, []) by decide +kernel)
theorem b21_37 {T : zT} {V : zM} {q0 : Int} {x2 : Int} {x3 : Int} {x4 : Int} : ev 21 37 [(2, q0), (2, 59), (0, x2), (0, x3), (0, x4)] [] T V = some ((9, 0), T, V) := by
  exact ev_rn (show zcode 21 37 = some (73, 38, 0, 0, []) by decide +kernel)
theorem b21_38 {T : zT} {V : zM} {q0 : Int} {x2 : Int} {x3 : Int} {x4 : Int} (h1 : zPairT T q0) (h2 : (0 : Int) ≤ (V q0 5) ∧ (V q0 5) < 128) (h3 : -2147483648 ≤ (((zwr V (q0 + 5) (V q0 5) x4) q0 5) + 1) ∧ (((zwr V (q0 + 5) (V q0 5) x4) q0 5) + 1) ≤ 2147483647) (h4 : (0 : Int) ≤ x4 ∧ x4 < 729) : ev 21 38 [(2, q0), (2, 59), (0, x2), (0, x3), (0, x4)] [] T V = ev 21 76 [(2, q0), (2, 59), (0, x2), (0, x3), (0, x4)] [] T (zwr (zwr (zwr (zwr V (q0 + 5) (V q0 5) x4) q0 5 (((zwr V (q0 + 5) (V q0 5) x4) q0 5) + 1)) (q0 + 3) x4 1000000) (q0 + 4) x4 0) := by
  refine Eq.trans (ev_lda (show zcode 21 38 = some (6, 39, 0, 0, []) by decide +kernel) rfl (by decide)) ?_
  refine Eq.trans (ev_gq (show zcode 21 39 = some (56, 42, 3, 4, []) by decide +kernel) h1.o h1.p4) ?_
  refine Eq.trans (ev_lda (show zcode 21 42 = some (6, 43, 0, 0, []) by decide +kernel) rfl (by decide)) ?_
  refine Eq.trans (ev_gi (show zcode 21 43 = some (55, 46, 3, 5, []) by decide +kernel) h1.o) ?_
  refine Eq.trans (ev_ldi (show zcode 21 46 = some (4, 48, 4, 0, []) by decide +kernel) rfl) ?_
  refine Eq.trans (ev_is (show zcode 21 48 = some (64, 49, 0, 0, []) by decide +kernel) h1.a5 h2) ?_
  refine Eq.trans (ev_lda (show zcode 21 49 = some (6, 50, 0, 0, []) by decide +kernel) rfl (by decide)) ?_
  refine Eq.trans (ev_dup (show zcode 21 50 = some (36, 51, 0, 0, []) by decide +kernel) (by decide)) ?_
  refine Eq.trans (ev_gi (show zcode 21 51 = some (55, 54, 3, 5, []) by decide +kernel) h1.o) ?_
  refine Eq.trans (ev_ci (show zcode 21 54 = some (0, 55, 0, 1, []) by decide +kernel) (by decide)) ?_
  refine Eq.trans (ev_add (show zcode 21 55 = some (11, 56, 0, 0, []) by decide +kernel) h3) ?_
  refine Eq.trans (ev_pi (show zcode 21 56 = some (57, 59, 3, 5, []) by decide +kernel) h1.o) ?_
  refine Eq.trans (ev_lda (show zcode 21 59 = some (6, 60, 0, 0, []) by decide +kernel) rfl (by decide)) ?_
  refine Eq.trans (ev_gq (show zcode 21 60 = some (56, 63, 3, 2, []) by decide +kernel) h1.o h1.p2) ?_
  refine Eq.trans (ev_ldi (show zcode 21 63 = some (4, 65, 4, 0, []) by decide +kernel) rfl) ?_
  refine Eq.trans (ev_ci (show zcode 21 65 = some (0, 67, 0, 1000000, []) by decide +kernel) (by decide)) ?_
  refine Eq.trans (ev_is (show zcode 21 67 = some (64, 68, 0, 0, []) by decide +kernel) h1.a3 h4) ?_
  refine Eq.trans (ev_lda (show zcode 21 68 = some (6, 69, 0, 0, []) by decide +kernel) rfl (by decide)) ?_
  refine Eq.trans (ev_gq (show zcode 21 69 = some (56, 72, 3, 3, []) by decide +kernel) h1.o h1.p3) ?_
  refine Eq.trans (ev_ldi (show zcode 21 72 = some (4, 74, 4, 0, []) by decide +kernel) rfl) ?_
  refine Eq.trans (ev_ci (show zcode 21 74 = some (0, 75, 0, 0, []) by decide +kernel) (by decide)) ?_
  exact ev_is (show zcode 21 75 = some (64, 76, 0, 0, []) by decide +kernel) h1.a4 h4
theorem b21_76 {T : zT} {V : zM} {q0 : Int} {x2 : Int} {x3 : Int} {x4 : Int} (hS : zStr T) (h1 : zPairT T q0) (h2 : (0 : Int) ≤ x4 ∧ x4 < 729) (h3 : -2147483648 ≤ ((V (q0 + 1) x4) + 1) ∧ ((V (q0 + 1) x4) + 1) ≤ 2147483647) (h4 : (0 : Int) ≤ x2 ∧ x2 < 128) : ev 21 76 [(2, q0), (2, 59), (0, x2), (0, x3), (0, x4)] [] T V = if ((zwr (zwr V (q0 + 1) x4 ((V (q0 + 1) x4) + 1)) (q0 + 4) x4 (zor ((zwr V (q0 + 1) x4 ((V (q0 + 1) x4) + 1)) (q0 + 4) x4) x3)) (q0 + 3) x4) ≤ ((zwr (zwr V (q0 + 1) x4 ((V (q0 + 1) x4) + 1)) (q0 + 4) x4 (zor ((zwr V (q0 + 1) x4 ((V (q0 + 1) x4) + 1)) (q0 + 4) x4) x3)) 62 x2) then ev 21 135 [(2, q0), (2, 59), (0, x2), (0, x3), (0, x4)] [] T (zwr (zwr V (q0 + 1) x4 ((V (q0 + 1) x4) + 1)) (q0 + 4) x4 (zor ((zwr V (q0 + 1) x4 ((V (q0 + 1) x4) + 1)) (q0 + 4) x4) x3)) else ev 21 114 [(2, q0), (2, 59), (0, x2), (0, x3), (0, x4)] [] T (zwr (zwr V (q0 + 1) x4 ((V (q0 + 1) x4) + 1)) (q0 + 4) x4 (zor ((zwr V (q0 + 1) x4 ((V (q0 + 1) x4) + 1)) (q0 + 4) x4) x3)) := by
  refine Eq.trans (ev_lda (show zcode 21 76 = some (6, 77, 0, 0, []) by decide +kernel) rfl (by decide)) ?_
  refine Eq.trans (ev_gq (show zcode 21 77 = some (56, 80, 3, 0, []) by decide +kernel) h1.o h1.p0) ?_
  refine Eq.trans (ev_ldi (show zcode 21 80 = some (4, 82, 4, 0, []) by decide +kernel) rfl) ?_
  refine Eq.trans (ev_dup2 (show zcode 21 82 = some (38, 83, 0, 0, []) by decide +kernel) (by decide)) ?_
  refine Eq.trans (ev_ia (show zcode 21 83 = some (60, 84, 0, 0, []) by decide +kernel) h1.a1 h2) ?_
  refine Eq.trans (ev_ci (show zcode 21 84 = some (0, 85, 0, 1, []) by decide +kernel) (by decide)) ?_
  refine Eq.trans (ev_add (show zcode 21 85 = some (11, 86, 0, 0, []) by decide +kernel) h3) ?_
  refine Eq.trans (ev_is (show zcode 21 86 = some (64, 87, 0, 0, []) by decide +kernel) h1.a1 h2) ?_
  refine Eq.trans (ev_lda (show zcode 21 87 = some (6, 88, 0, 0, []) by decide +kernel) rfl (by decide)) ?_
  refine Eq.trans (ev_gq (show zcode 21 88 = some (56, 91, 3, 3, []) by decide +kernel) h1.o h1.p3) ?_
  refine Eq.trans (ev_ldi (show zcode 21 91 = some (4, 93, 4, 0, []) by decide +kernel) rfl) ?_
  refine Eq.trans (ev_dup2 (show zcode 21 93 = some (38, 94, 0, 0, []) by decide +kernel) (by decide)) ?_
  refine Eq.trans (ev_ia (show zcode 21 94 = some (60, 95, 0, 0, []) by decide +kernel) h1.a4 h2) ?_
  refine Eq.trans (ev_ldi (show zcode 21 95 = some (4, 96, 3, 0, []) by decide +kernel) rfl) ?_
  refine Eq.trans (ev_or (show zcode 21 96 = some (15, 97, 0, 0, []) by decide +kernel)) ?_
  refine Eq.trans (ev_is (show zcode 21 97 = some (64, 98, 0, 0, []) by decide +kernel) h1.a4 h2) ?_
  refine Eq.trans (ev_lda (show zcode 21 98 = some (6, 99, 1, 0, []) by decide +kernel) rfl (by decide)) ?_
  refine Eq.trans (ev_gq (show zcode 21 99 = some (56, 102, 4, 2, []) by decide +kernel) (so59 hS) (sp59_2 hS)) ?_
  refine Eq.trans (ev_ldi (show zcode 21 102 = some (4, 103, 2, 0, []) by decide +kernel) rfl) ?_
  refine Eq.trans (ev_ia (show zcode 21 103 = some (60, 104, 0, 0, []) by decide +kernel) (sa62 hS) h4) ?_
  refine Eq.trans (ev_lda (show zcode 21 104 = some (6, 105, 0, 0, []) by decide +kernel) rfl (by decide)) ?_
  refine Eq.trans (ev_gq (show zcode 21 105 = some (56, 108, 3, 2, []) by decide +kernel) h1.o h1.p2) ?_
  refine Eq.trans (ev_ldi (show zcode 21 108 = some (4, 110, 4, 0, []) by decide +kernel) rfl) ?_
  refine Eq.trans (ev_ia (show zcode 21 110 = some (60, 111, 0, 0, []) by decide +kernel) h1.a3 h2) ?_
  exact ev_cge (show zcode 21 111 = some (49, 114, 135, 0, []) by decide +kernel)
theorem b21_114 {T : zT} {V : zM} {q0 : Int} {x2 : Int} {x3 : Int} {x4 : Int} (hS : zStr T) (h1 : zPairT T q0) (h2 : (0 : Int) ≤ x2 ∧ x2 < 128) (h3 : (0 : Int) ≤ x4 ∧ x4 < 729) : ev 21 114 [(2, q0), (2, 59), (0, x2), (0, x3), (0, x4)] [] T V = ev 21 135 [(2, q0), (2, 59), (0, x2), (0, x3), (0, x4)] [] T (zwr (zwr V (q0 + 3) x4 (V 62 x2)) (q0 + 2) x4 x2) := by
  refine Eq.trans (ev_lda (show zcode 21 114 = some (6, 115, 0, 0, []) by decide +kernel) rfl (by decide)) ?_
  refine Eq.trans (ev_gq (show zcode 21 115 = some (56, 118, 3, 2, []) by decide +kernel) h1.o h1.p2) ?_
  refine Eq.trans (ev_ldi (show zcode 21 118 = some (4, 120, 4, 0, []) by decide +kernel) rfl) ?_
  refine Eq.trans (ev_lda (show zcode 21 120 = some (6, 121, 1, 0, []) by decide +kernel) rfl (by decide)) ?_
  refine Eq.trans (ev_gq (show zcode 21 121 = some (56, 124, 4, 2, []) by decide +kernel) (so59 hS) (sp59_2 hS)) ?_
  refine Eq.trans (ev_ldi (show zcode 21 124 = some (4, 125, 2, 0, []) by decide +kernel) rfl) ?_
  refine Eq.trans (ev_ia (show zcode 21 125 = some (60, 126, 0, 0, []) by decide +kernel) (sa62 hS) h2) ?_
  refine Eq.trans (ev_is (show zcode 21 126 = some (64, 127, 0, 0, []) by decide +kernel) h1.a3 h3) ?_
  refine Eq.trans (ev_lda (show zcode 21 127 = some (6, 128, 0, 0, []) by decide +kernel) rfl (by decide)) ?_
  refine Eq.trans (ev_gq (show zcode 21 128 = some (56, 131, 3, 1, []) by decide +kernel) h1.o h1.p1) ?_
  refine Eq.trans (ev_ldi (show zcode 21 131 = some (4, 133, 4, 0, []) by decide +kernel) rfl) ?_
  refine Eq.trans (ev_ldi (show zcode 21 133 = some (4, 134, 2, 0, []) by decide +kernel) rfl) ?_
  exact ev_is (show zcode 21 134 = some (64, 135, 0, 0, []) by decide +kernel) h1.a2 h3
theorem b21_135 {T : zT} {V : zM} {q0 : Int} {x2 : Int} {x3 : Int} {x4 : Int} : ev 21 135 [(2, q0), (2, 59), (0, x2), (0, x3), (0, x4)] [] T V = some ((9, 0), T, V) := by
  exact ev_rn (show zcode 21 135 = some (73, 136, 0, 0, []) by decide +kernel)
/-! 25: TwoWayWall$State.resize(I)V -/
theorem e25 {T : zT} {V : zM} {q0 : Int} {x1 : Int} : zcall 25 [(2, q0), (0, x1)] T V = ev 25 0 [(2, q0), (0, x1), (9, 0)] [] T V := rfl
theorem b25_0 {T : zT} {V : zM} {q0 : Int} {x1 : Int} : ev 25 0 [(2, q0), (0, x1), (9, 0)] [] T V = ev 25 2 [(2, q0), (0, x1), (0, x1)] [] T V := by
  refine Eq.trans (ev_ldi (show zcode 25 0 = some (4, 1, 1, 0, []) by decide +kernel) rfl) ?_
  exact ev_sti (show zcode 25 1 = some (7, 2, 2, 0, []) by decide +kernel) ⟨show 2 < 3 by decide, Or.inr (show ¬ (0 : Nat) = 1 by decide)⟩
theorem b25_2 {T : zT} {V : zM} {q0 : Int} {x1 : Int} {x2 : Int} : ev 25 2 [(2, q0), (0, x1), (0, x2)] [] T V = if 16 ≤ x2 then ev 25 28 [(2, q0), (0, x1), (0, x2)] [] T V else ev 25 8 [(2, q0), (0, x1), (0, x2)] [] T V := by
  refine Eq.trans (ev_ldi (show zcode 25 2 = some (4, 3, 2, 0, []) by decide +kernel) rfl) ?_
  refine Eq.trans (ev_ci (show zcode 25 3 = some (0, 5, 0, 16, []) by decide +kernel) (by decide)) ?_
  exact ev_cge (show zcode 25 5 = some (49, 8, 28, 0, []) by decide +kernel)
theorem b25_8 {T : zT} {V : zM} {q0 : Int} {x1 : Int} {x2 : Int} (h1 : zState T q0) (h2 : (0 : Int) ≤ x2 ∧ x2 < 16) (h3 : -2147483648 ≤ (x2 + 1) ∧ (x2 + 1) ≤ 2147483647) : ev 25 8 [(2, q0), (0, x1), (0, x2)] [] T V = ev 25 2 [(2, q0), (0, x1), (0, (x2 + 1))] [] T (zwr (zwr V (q0 + 1) x2 0) (q0 + 2) x2 0) := by
  refine Eq.trans (ev_lda (show zcode 25 8 = some (6, 9, 0, 0, []) by decide +kernel) rfl (by decide)) ?_
  refine Eq.trans (ev_gq (show zcode 25 9 = some (56, 12, 6, 1, []) by decide +kernel) h1.o h1.p1) ?_
  refine Eq.trans (ev_ldi (show zcode 25 12 = some (4, 13, 2, 0, []) by decide +kernel) rfl) ?_
  refine Eq.trans (ev_ci (show zcode 25 13 = some (0, 14, 0, 0, []) by decide +kernel) (by decide)) ?_
  refine Eq.trans (ev_is (show zcode 25 14 = some (64, 15, 0, 0, []) by decide +kernel) h1.a1 h2) ?_
  refine Eq.trans (ev_lda (show zcode 25 15 = some (6, 16, 0, 0, []) by decide +kernel) rfl (by decide)) ?_
  refine Eq.trans (ev_gq (show zcode 25 16 = some (56, 19, 6, 2, []) by decide +kernel) h1.o h1.p2) ?_
  refine Eq.trans (ev_ldi (show zcode 25 19 = some (4, 20, 2, 0, []) by decide +kernel) rfl) ?_
  refine Eq.trans (ev_ci (show zcode 25 20 = some (0, 21, 0, 0, []) by decide +kernel) (by decide)) ?_
  refine Eq.trans (ev_is (show zcode 25 21 = some (64, 22, 0, 0, []) by decide +kernel) h1.a2 h2) ?_
  refine Eq.trans (ev_inc (show zcode 25 22 = some (10, 25, 2, 1, []) by decide +kernel) rfl h3 (Or.inr (show ¬ (0 : Nat) = 1 by decide))) ?_
  exact ev_goto (show zcode 25 25 = some (53, 28, 2, 0, []) by decide +kernel)
theorem b25_28 {T : zT} {V : zM} {q0 : Int} {x1 : Int} {x2 : Int} (h1 : zState T q0) : ev 25 28 [(2, q0), (0, x1), (0, x2)] [] T V = some ((9, 0), T, (zwr V q0 0 x1)) := by
  refine Eq.trans (ev_lda (show zcode 25 28 = some (6, 29, 0, 0, []) by decide +kernel) rfl (by decide)) ?_
  refine Eq.trans (ev_ldi (show zcode 25 29 = some (4, 30, 1, 0, []) by decide +kernel) rfl) ?_
  refine Eq.trans (ev_pi (show zcode 25 30 = some (57, 33, 6, 0, []) by decide +kernel) h1.o) ?_
  exact ev_rn (show zcode 25 33 = some (73, 34, 0, 0, []) by decide +kernel)
/-! 28: TwoWayWall$State.hasCell(I)Z -/
theorem e28 {T : zT} {V : zM} {q0 : Int} {x1 : Int} : zcall 28 [(2, q0), (0, x1)] T V = ev 28 0 [(2, q0), (0, x1)] [] T V := rfl
theorem b28_0 {T : zT} {V : zM} {q0 : Int} {x1 : Int} : ev 28 0 [(2, q0), (0, x1)] [] T V = if x1 < 0 then ev 28 16 [(2, q0), (0, x1)] [] T V else ev 28 4 [(2, q0), (0, x1)] [] T V := by
  refine Eq.trans (ev_ldi (show zcode 28 0 = some (4, 1, 1, 0, []) by decide +kernel) rfl) ?_
  exact ev_lt (show zcode 28 1 = some (42, 4, 16, 0, []) by decide +kernel)
theorem b28_4 {T : zT} {V : zM} {q0 : Int} {x1 : Int} (h1 : zState T q0) : ev 28 4 [(2, q0), (0, x1)] [] T V = if (V q0 0) ≤ x1 then ev 28 16 [(2, q0), (0, x1)] [] T V else ev 28 12 [(2, q0), (0, x1)] [] T V := by
  refine Eq.trans (ev_ldi (show zcode 28 4 = some (4, 5, 1, 0, []) by decide +kernel) rfl) ?_
  refine Eq.trans (ev_lda (show zcode 28 5 = some (6, 6, 0, 0, []) by decide +kernel) rfl (by decide)) ?_
  refine Eq.trans (ev_gi (show zcode 28 6 = some (55, 9, 6, 0, []) by decide +kernel) h1.o) ?_
  exact ev_cge (show zcode 28 9 = some (49, 12, 16, 0, []) by decide +kernel)
theorem b28_12 {T : zT} {V : zM} {q0 : Int} {x1 : Int} : ev 28 12 [(2, q0), (0, x1)] [] T V = ev 28 17 [(2, q0), (0, x1)] [(0, 1)] T V := by
  refine Eq.trans (ev_ci (show zcode 28 12 = some (0, 13, 0, 1, []) by decide +kernel) (by decide)) ?_
  exact ev_goto (show zcode 28 13 = some (53, 16, 17, 0, []) by decide +kernel)
theorem b28_16 {T : zT} {V : zM} {q0 : Int} {x1 : Int} : ev 28 16 [(2, q0), (0, x1)] [] T V = ev 28 17 [(2, q0), (0, x1)] [(0, 0)] T V := by
  exact ev_ci (show zcode 28 16 = some (0, 17, 0, 0, []) by decide +kernel) (by decide)
theorem b28_17 {T : zT} {V : zM} {q0 : Int} {x1 : Int} {y0 : Int} (h1 : (0 : Int) ≤ y0 ∧ y0 ≤ 1) : ev 28 17 [(2, q0), (0, x1)] [(0, y0)] T V = some ((0, y0), T, V) := by
  exact ev_rz (show zcode 28 17 = some (72, 18, 3, 0, []) by decide +kernel) h1
/-! 32: TwoWayWall$Tape.append(I)V -/
theorem e32 {T : zT} {V : zM} {x1 : Int} : zcall 32 [(2, 56), (0, x1)] T V = ev 32 0 [(2, 56), (0, x1), (9, 0)] [] T V := rfl
theorem b32_0 {T : zT} {V : zM} {x1 : Int} : ev 32 0 [(2, 56), (0, x1), (9, 0)] [] T V = ev 32 3 [(2, 56), (0, x1), (0, 24)] [] T V := by
  refine Eq.trans (ev_ci (show zcode 32 0 = some (0, 2, 0, 24, []) by decide +kernel) (by decide)) ?_
  exact ev_sti (show zcode 32 2 = some (7, 3, 2, 0, []) by decide +kernel) ⟨show 2 < 3 by decide, Or.inr (show ¬ (0 : Nat) = 1 by decide)⟩
theorem b32_3 {T : zT} {V : zM} {x1 : Int} {x2 : Int} : ev 32 3 [(2, 56), (0, x1), (0, x2)] [] T V = if x2 < 0 then ev 32 49 [(2, 56), (0, x1), (0, x2)] [] T V else ev 32 7 [(2, 56), (0, x1), (0, x2)] [] T V := by
  refine Eq.trans (ev_ldi (show zcode 32 3 = some (4, 4, 2, 0, []) by decide +kernel) rfl) ?_
  exact ev_lt (show zcode 32 4 = some (42, 7, 49, 0, []) by decide +kernel)
theorem b32_7 {T : zT} {V : zM} {x1 : Int} {x2 : Int} (hS : zStr T)  : ev 32 7 [(2, 56), (0, x1), (0, x2)] [] T V = if 400 ≤ (V 56 1) then ev 32 49 [(2, 56), (0, x1), (0, x2)] [] T V else ev 32 17 [(2, 56), (0, x1), (0, x2)] [] T V := by
  refine Eq.trans (ev_lda (show zcode 32 7 = some (6, 8, 0, 0, []) by decide +kernel) rfl (by decide)) ?_
  refine Eq.trans (ev_gi (show zcode 32 8 = some (55, 11, 8, 1, []) by decide +kernel) (so56 hS)) ?_
  refine Eq.trans (ev_ci (show zcode 32 11 = some (0, 14, 0, 400, []) by decide +kernel) (by decide)) ?_
  exact ev_cge (show zcode 32 14 = some (49, 17, 49, 0, []) by decide +kernel)
theorem b32_17 {T : zT} {V : zM} {x1 : Int} {x2 : Int} (hS : zStr T) (h1 : (0 : Int) ≤ x2 ∧ x2 < 32) (h2 : (0 : Int) ≤ (V 56 1) ∧ (V 56 1) < 400) (h3 : -2147483648 ≤ (((zwr V 57 (V 56 1) (zand (if x2 = 0 then x1 else (x1 % 4294967296) / 2 ^ (x2).toNat) 255)) 56 1) + 1) ∧ (((zwr V 57 (V 56 1) (zand (if x2 = 0 then x1 else (x1 % 4294967296) / 2 ^ (x2).toNat) 255)) 56 1) + 1) ≤ 2147483647) (h4 : -2147483648 ≤ (x2 + (-8)) ∧ (x2 + (-8)) ≤ 2147483647) : ev 32 17 [(2, 56), (0, x1), (0, x2)] [] T V = ev 32 3 [(2, 56), (0, x1), (0, (x2 + (-8)))] [] T (zwr (zwr V 57 (V 56 1) (zand (if x2 = 0 then x1 else (x1 % 4294967296) / 2 ^ (x2).toNat) 255)) 56 1 (((zwr V 57 (V 56 1) (zand (if x2 = 0 then x1 else (x1 % 4294967296) / 2 ^ (x2).toNat) 255)) 56 1) + 1)) := by
  refine Eq.trans (ev_lda (show zcode 32 17 = some (6, 18, 0, 0, []) by decide +kernel) rfl (by decide)) ?_
  refine Eq.trans (ev_gq (show zcode 32 18 = some (56, 21, 8, 0, []) by decide +kernel) (so56 hS) (sp56_0 hS)) ?_
  refine Eq.trans (ev_lda (show zcode 32 21 = some (6, 22, 0, 0, []) by decide +kernel) rfl (by decide)) ?_
  refine Eq.trans (ev_gi (show zcode 32 22 = some (55, 25, 8, 1, []) by decide +kernel) (so56 hS)) ?_
  refine Eq.trans (ev_ldi (show zcode 32 25 = some (4, 26, 1, 0, []) by decide +kernel) rfl) ?_
  refine Eq.trans (ev_ldi (show zcode 32 26 = some (4, 27, 2, 0, []) by decide +kernel) rfl) ?_
  refine Eq.trans (ev_ushr (show zcode 32 27 = some (22, 28, 0, 0, []) by decide +kernel) h1) ?_
  refine Eq.trans (ev_ci (show zcode 32 28 = some (0, 31, 0, 255, []) by decide +kernel) (by decide)) ?_
  refine Eq.trans (ev_and (show zcode 32 31 = some (14, 32, 0, 0, []) by decide +kernel)) ?_
  refine Eq.trans (ev_is (show zcode 32 32 = some (64, 33, 0, 0, []) by decide +kernel) (sa57 hS) h2) ?_
  refine Eq.trans (ev_lda (show zcode 32 33 = some (6, 34, 0, 0, []) by decide +kernel) rfl (by decide)) ?_
  refine Eq.trans (ev_dup (show zcode 32 34 = some (36, 35, 0, 0, []) by decide +kernel) (by decide)) ?_
  refine Eq.trans (ev_gi (show zcode 32 35 = some (55, 38, 8, 1, []) by decide +kernel) (so56 hS)) ?_
  refine Eq.trans (ev_ci (show zcode 32 38 = some (0, 39, 0, 1, []) by decide +kernel) (by decide)) ?_
  refine Eq.trans (ev_add (show zcode 32 39 = some (11, 40, 0, 0, []) by decide +kernel) h3) ?_
  refine Eq.trans (ev_pi (show zcode 32 40 = some (57, 43, 8, 1, []) by decide +kernel) (so56 hS)) ?_
  refine Eq.trans (ev_inc (show zcode 32 43 = some (10, 46, 2, (-8), []) by decide +kernel) rfl h4 (Or.inr (show ¬ (0 : Nat) = 1 by decide))) ?_
  exact ev_goto (show zcode 32 46 = some (53, 49, 3, 0, []) by decide +kernel)
theorem b32_49 {T : zT} {V : zM} {x1 : Int} {x2 : Int} : ev 32 49 [(2, 56), (0, x1), (0, x2)] [] T V = some ((9, 0), T, V) := by
  exact ev_rn (show zcode 32 49 = some (73, 50, 0, 0, []) by decide +kernel)
/-! 38: TwoWayWall$State.copyFrom(LTwoWayWall$State;)V -/
theorem e38 {T : zT} {V : zM} {q0 : Int} {q1 : Int} : zcall 38 [(2, q0), (2, q1)] T V = ev 38 0 [(2, q0), (2, q1)] [] T V := rfl
theorem b38_0 {T : zT} {V : zM} {q0 : Int} {q1 : Int} (h1 : zState T q1) (h2 : zState T q0) (h3 : (q1 + 1) ≠ (q0 + 1)) (h4 : (q1 + 2) ≠ (q0 + 2)) (h5 : (q1 + 3) ≠ (q0 + 3)) (h6 : (q1 + 4) ≠ (q0 + 4)) : ev 38 0 [(2, q0), (2, q1)] [] T V = (zcall 39 [(2, (q0 + 5)), (2, (q1 + 5))] T (zcp (zcp (zcp (zcp (zwr V q0 0 (V q1 0)) (q0 + 1) (q1 + 1) 0 0 16) (q0 + 2) (q1 + 2) 0 0 16) (q0 + 3) (q1 + 3) 0 0 7) (q0 + 4) (q1 + 4) 0 0 7)).bind fun x => ev 38 79 [(2, q0), (2, q1)] (z_push x.1 []) x.2.1 x.2.2 := by
  refine Eq.trans (ev_lda (show zcode 38 0 = some (6, 1, 0, 0, []) by decide +kernel) rfl (by decide)) ?_
  refine Eq.trans (ev_lda (show zcode 38 1 = some (6, 2, 1, 0, []) by decide +kernel) rfl (by decide)) ?_
  refine Eq.trans (ev_gi (show zcode 38 2 = some (55, 5, 6, 0, []) by decide +kernel) h1.o) ?_
  refine Eq.trans (ev_pi (show zcode 38 5 = some (57, 8, 6, 0, []) by decide +kernel) h2.o) ?_
  refine Eq.trans (ev_lda (show zcode 38 8 = some (6, 9, 1, 0, []) by decide +kernel) rfl (by decide)) ?_
  refine Eq.trans (ev_gq (show zcode 38 9 = some (56, 12, 6, 1, []) by decide +kernel) h1.o h1.p1) ?_
  refine Eq.trans (ev_ci (show zcode 38 12 = some (0, 13, 0, 0, []) by decide +kernel) (by decide)) ?_
  refine Eq.trans (ev_lda (show zcode 38 13 = some (6, 14, 0, 0, []) by decide +kernel) rfl (by decide)) ?_
  refine Eq.trans (ev_gq (show zcode 38 14 = some (56, 17, 6, 1, []) by decide +kernel) h2.o h2.p1) ?_
  refine Eq.trans (ev_ci (show zcode 38 17 = some (0, 18, 0, 0, []) by decide +kernel) (by decide)) ?_
  refine Eq.trans (ev_ci (show zcode 38 18 = some (0, 20, 0, 16, []) by decide +kernel) (by decide)) ?_
  refine Eq.trans (ev_cpyi (show zcode 38 20 = some (79, 23, 0, 0, []) by decide +kernel) (c := 0) (by decide) h1.a1 h2.a1 h3 (by decide) (show 0 ≤ 8 by decide)) ?_
  refine Eq.trans (ev_lda (show zcode 38 23 = some (6, 24, 1, 0, []) by decide +kernel) rfl (by decide)) ?_
  refine Eq.trans (ev_gq (show zcode 38 24 = some (56, 27, 6, 2, []) by decide +kernel) h1.o h1.p2) ?_
  refine Eq.trans (ev_ci (show zcode 38 27 = some (0, 28, 0, 0, []) by decide +kernel) (by decide)) ?_
  refine Eq.trans (ev_lda (show zcode 38 28 = some (6, 29, 0, 0, []) by decide +kernel) rfl (by decide)) ?_
  refine Eq.trans (ev_gq (show zcode 38 29 = some (56, 32, 6, 2, []) by decide +kernel) h2.o h2.p2) ?_
  refine Eq.trans (ev_ci (show zcode 38 32 = some (0, 33, 0, 0, []) by decide +kernel) (by decide)) ?_
  refine Eq.trans (ev_ci (show zcode 38 33 = some (0, 35, 0, 16, []) by decide +kernel) (by decide)) ?_
  refine Eq.trans (ev_cpyi (show zcode 38 35 = some (79, 38, 0, 0, []) by decide +kernel) (c := 0) (by decide) h1.a2 h2.a2 h4 (by decide) (show 0 ≤ 8 by decide)) ?_
  refine Eq.trans (ev_lda (show zcode 38 38 = some (6, 39, 1, 0, []) by decide +kernel) rfl (by decide)) ?_
  refine Eq.trans (ev_gq (show zcode 38 39 = some (56, 42, 6, 3, []) by decide +kernel) h1.o h1.p3) ?_
  refine Eq.trans (ev_ci (show zcode 38 42 = some (0, 43, 0, 0, []) by decide +kernel) (by decide)) ?_
  refine Eq.trans (ev_lda (show zcode 38 43 = some (6, 44, 0, 0, []) by decide +kernel) rfl (by decide)) ?_
  refine Eq.trans (ev_gq (show zcode 38 44 = some (56, 47, 6, 3, []) by decide +kernel) h2.o h2.p3) ?_
  refine Eq.trans (ev_ci (show zcode 38 47 = some (0, 48, 0, 0, []) by decide +kernel) (by decide)) ?_
  refine Eq.trans (ev_ci (show zcode 38 48 = some (0, 50, 0, 7, []) by decide +kernel) (by decide)) ?_
  refine Eq.trans (ev_cpyi (show zcode 38 50 = some (79, 53, 0, 0, []) by decide +kernel) (c := 0) (by decide) h1.a3 h2.a3 h5 (by decide) (show 0 ≤ 8 by decide)) ?_
  refine Eq.trans (ev_lda (show zcode 38 53 = some (6, 54, 1, 0, []) by decide +kernel) rfl (by decide)) ?_
  refine Eq.trans (ev_gq (show zcode 38 54 = some (56, 57, 6, 4, []) by decide +kernel) h1.o h1.p4) ?_
  refine Eq.trans (ev_ci (show zcode 38 57 = some (0, 58, 0, 0, []) by decide +kernel) (by decide)) ?_
  refine Eq.trans (ev_lda (show zcode 38 58 = some (6, 59, 0, 0, []) by decide +kernel) rfl (by decide)) ?_
  refine Eq.trans (ev_gq (show zcode 38 59 = some (56, 62, 6, 4, []) by decide +kernel) h2.o h2.p4) ?_
  refine Eq.trans (ev_ci (show zcode 38 62 = some (0, 63, 0, 0, []) by decide +kernel) (by decide)) ?_
  refine Eq.trans (ev_ci (show zcode 38 63 = some (0, 65, 0, 7, []) by decide +kernel) (by decide)) ?_
  refine Eq.trans (ev_cpyi (show zcode 38 65 = some (79, 68, 0, 0, []) by decide +kernel) (c := 0) (by decide) h1.a4 h2.a4 h6 (by decide) (show 0 ≤ 8 by decide)) ?_
  refine Eq.trans (ev_lda (show zcode 38 68 = some (6, 69, 0, 0, []) by decide +kernel) rfl (by decide)) ?_
  refine Eq.trans (ev_gq (show zcode 38 69 = some (56, 72, 6, 5, []) by decide +kernel) h2.o h2.p5) ?_
  refine Eq.trans (ev_lda (show zcode 38 72 = some (6, 73, 1, 0, []) by decide +kernel) rfl (by decide)) ?_
  refine Eq.trans (ev_gq (show zcode 38 73 = some (56, 76, 6, 5, []) by decide +kernel) h1.o h1.p5) ?_
  exact ev_cvirt (show zcode 38 76 = some (76, 79, 39, 2, [9]) by decide +kernel) (args := [(2, (q1 + 5))]) (rest := []) rfl h2.s5.o rfl (show 0 ≤ 8 by decide) ⟨by decide, show 2 ≤ 2 by decide⟩
theorem b38_79 {T : zT} {V : zM} {q0 : Int} {q1 : Int} (h1 : zState T q0) (h2 : zState T q1) : ev 38 79 [(2, q0), (2, q1)] [] T V = (zcall 39 [(2, (q0 + 13)), (2, (q1 + 13))] T V).bind fun x => ev 38 90 [(2, q0), (2, q1)] (z_push x.1 []) x.2.1 x.2.2 := by
  refine Eq.trans (ev_lda (show zcode 38 79 = some (6, 80, 0, 0, []) by decide +kernel) rfl (by decide)) ?_
  refine Eq.trans (ev_gq (show zcode 38 80 = some (56, 83, 6, 6, []) by decide +kernel) h1.o h1.p6) ?_
  refine Eq.trans (ev_lda (show zcode 38 83 = some (6, 84, 1, 0, []) by decide +kernel) rfl (by decide)) ?_
  refine Eq.trans (ev_gq (show zcode 38 84 = some (56, 87, 6, 6, []) by decide +kernel) h2.o h2.p6) ?_
  exact ev_cvirt (show zcode 38 87 = some (76, 90, 39, 2, [9]) by decide +kernel) (args := [(2, (q1 + 13))]) (rest := []) rfl h1.s13.o rfl (show 0 ≤ 8 by decide) ⟨by decide, show 2 ≤ 2 by decide⟩
theorem b38_90 {T : zT} {V : zM} {q0 : Int} {q1 : Int} (h1 : zState T q0) (h2 : zState T q1) : ev 38 90 [(2, q0), (2, q1)] [] T V = (zcall 40 [(2, (q0 + 21)), (2, (q1 + 21))] T V).bind fun x => ev 38 101 [(2, q0), (2, q1)] (z_push x.1 []) x.2.1 x.2.2 := by
  refine Eq.trans (ev_lda (show zcode 38 90 = some (6, 91, 0, 0, []) by decide +kernel) rfl (by decide)) ?_
  refine Eq.trans (ev_gq (show zcode 38 91 = some (56, 94, 6, 7, []) by decide +kernel) h1.o h1.p7) ?_
  refine Eq.trans (ev_lda (show zcode 38 94 = some (6, 95, 1, 0, []) by decide +kernel) rfl (by decide)) ?_
  refine Eq.trans (ev_gq (show zcode 38 95 = some (56, 98, 6, 7, []) by decide +kernel) h2.o h2.p7) ?_
  exact ev_cvirt (show zcode 38 98 = some (76, 101, 40, 2, [10]) by decide +kernel) (args := [(2, (q1 + 21))]) (rest := []) rfl h1.s21.o rfl (show 0 ≤ 8 by decide) ⟨by decide, show 2 ≤ 3 by decide⟩
theorem b38_101 {T : zT} {V : zM} {q0 : Int} {q1 : Int} : ev 38 101 [(2, q0), (2, q1)] [] T V = some ((9, 0), T, V) := by
  exact ev_rn (show zcode 38 101 = some (73, 102, 0, 0, []) by decide +kernel)
/-! 39: TwoWayWall$Tongue.copyTongue(LTwoWayWall$Tongue;)V -/
theorem e39 {T : zT} {V : zM} {q0 : Int} {q1 : Int} : zcall 39 [(2, q0), (2, q1)] T V = ev 39 0 [(2, q0), (2, q1)] [] T V := rfl
theorem b39_0 {T : zT} {V : zM} {q0 : Int} {q1 : Int} (h1 : zTongue T q1) (h2 : zTongue T q0) (h3 : (q1 + 1) ≠ (q0 + 1)) (h4 : (q1 + 2) ≠ (q0 + 2)) (h5 : (q1 + 3) ≠ (q0 + 3)) (h6 : (q1 + 4) ≠ (q0 + 4)) (h7 : (q1 + 5) ≠ (q0 + 5)) (h8 : (q1 + 6) ≠ (q0 + 6)) (h9 : (q1 + 7) ≠ (q0 + 7)) : ev 39 0 [(2, q0), (2, q1)] [] T V = some ((9, 0), T, (zwr (zcp (zwr (zcp (zwr (zcp (zcp (zcp (zcp (zcp V (q0 + 1) (q1 + 1) 0 0 26) (q0 + 2) (q1 + 2) 0 0 26) (q0 + 3) (q1 + 3) 0 0 8) (q0 + 4) (q1 + 4) 0 0 8) (q0 + 5) (q1 + 5) 0 0 48) q0 5 ((zcp (zcp (zcp (zcp (zcp V (q0 + 1) (q1 + 1) 0 0 26) (q0 + 2) (q1 + 2) 0 0 26) (q0 + 3) (q1 + 3) 0 0 8) (q0 + 4) (q1 + 4) 0 0 8) (q0 + 5) (q1 + 5) 0 0 48) q1 5)) (q0 + 6) (q1 + 6) 0 0 16) q0 7 ((zcp (zwr (zcp (zcp (zcp (zcp (zcp V (q0 + 1) (q1 + 1) 0 0 26) (q0 + 2) (q1 + 2) 0 0 26) (q0 + 3) (q1 + 3) 0 0 8) (q0 + 4) (q1 + 4) 0 0 8) (q0 + 5) (q1 + 5) 0 0 48) q0 5 ((zcp (zcp (zcp (zcp (zcp V (q0 + 1) (q1 + 1) 0 0 26) (q0 + 2) (q1 + 2) 0 0 26) (q0 + 3) (q1 + 3) 0 0 8) (q0 + 4) (q1 + 4) 0 0 8) (q0 + 5) (q1 + 5) 0 0 48) q1 5)) (q0 + 6) (q1 + 6) 0 0 16) q1 7)) (q0 + 7) (q1 + 7) 0 0 4) q0 9 ((zcp (zwr (zcp (zwr (zcp (zcp (zcp (zcp (zcp V (q0 + 1) (q1 + 1) 0 0 26) (q0 + 2) (q1 + 2) 0 0 26) (q0 + 3) (q1 + 3) 0 0 8) (q0 + 4) (q1 + 4) 0 0 8) (q0 + 5) (q1 + 5) 0 0 48) q0 5 ((zcp (zcp (zcp (zcp (zcp V (q0 + 1) (q1 + 1) 0 0 26) (q0 + 2) (q1 + 2) 0 0 26) (q0 + 3) (q1 + 3) 0 0 8) (q0 + 4) (q1 + 4) 0 0 8) (q0 + 5) (q1 + 5) 0 0 48) q1 5)) (q0 + 6) (q1 + 6) 0 0 16) q0 7 ((zcp (zwr (zcp (zcp (zcp (zcp (zcp V (q0 + 1) (q1 + 1) 0 0 26) (q0 + 2) (q1 + 2) 0 0 26) (q0 + 3) (q1 + 3) 0 0 8) (q0 + 4) (q1 + 4) 0 0 8) (q0 + 5) (q1 + 5) 0 0 48) q0 5 ((zcp (zcp (zcp (zcp (zcp V (q0 + 1) (q1 + 1) 0 0 26) (q0 + 2) (q1 + 2) 0 0 26) (q0 + 3) (q1 + 3) 0 0 8) (q0 + 4) (q1 + 4) 0 0 8) (q0 + 5) (q1 + 5) 0 0 48) q1 5)) (q0 + 6) (q1 + 6) 0 0 16) q1 7)) (q0 + 7) (q1 + 7) 0 0 4) q1 9))) := by
  refine Eq.trans (ev_lda (show zcode 39 0 = some (6, 1, 1, 0, []) by decide +kernel) rfl (by decide)) ?_
  refine Eq.trans (ev_gq (show zcode 39 1 = some (56, 4, 9, 0, []) by decide +kernel) h1.o h1.p0) ?_
  refine Eq.trans (ev_ci (show zcode 39 4 = some (0, 5, 0, 0, []) by decide +kernel) (by decide)) ?_
  refine Eq.trans (ev_lda (show zcode 39 5 = some (6, 6, 0, 0, []) by decide +kernel) rfl (by decide)) ?_
  refine Eq.trans (ev_gq (show zcode 39 6 = some (56, 9, 9, 0, []) by decide +kernel) h2.o h2.p0) ?_
  refine Eq.trans (ev_ci (show zcode 39 9 = some (0, 10, 0, 0, []) by decide +kernel) (by decide)) ?_
  refine Eq.trans (ev_ci (show zcode 39 10 = some (0, 12, 0, 26, []) by decide +kernel) (by decide)) ?_
  refine Eq.trans (ev_cpyi (show zcode 39 12 = some (79, 15, 0, 0, []) by decide +kernel) (c := 0) (by decide) h1.a1 h2.a1 h3 (by decide) (show 0 ≤ 8 by decide)) ?_
  refine Eq.trans (ev_lda (show zcode 39 15 = some (6, 16, 1, 0, []) by decide +kernel) rfl (by decide)) ?_
  refine Eq.trans (ev_gq (show zcode 39 16 = some (56, 19, 9, 1, []) by decide +kernel) h1.o h1.p1) ?_
  refine Eq.trans (ev_ci (show zcode 39 19 = some (0, 20, 0, 0, []) by decide +kernel) (by decide)) ?_
  refine Eq.trans (ev_lda (show zcode 39 20 = some (6, 21, 0, 0, []) by decide +kernel) rfl (by decide)) ?_
  refine Eq.trans (ev_gq (show zcode 39 21 = some (56, 24, 9, 1, []) by decide +kernel) h2.o h2.p1) ?_
  refine Eq.trans (ev_ci (show zcode 39 24 = some (0, 25, 0, 0, []) by decide +kernel) (by decide)) ?_
  refine Eq.trans (ev_ci (show zcode 39 25 = some (0, 27, 0, 26, []) by decide +kernel) (by decide)) ?_
  refine Eq.trans (ev_cpyi (show zcode 39 27 = some (79, 30, 0, 0, []) by decide +kernel) (c := 0) (by decide) h1.a2 h2.a2 h4 (by decide) (show 0 ≤ 8 by decide)) ?_
  refine Eq.trans (ev_lda (show zcode 39 30 = some (6, 31, 1, 0, []) by decide +kernel) rfl (by decide)) ?_
  refine Eq.trans (ev_gq (show zcode 39 31 = some (56, 34, 9, 2, []) by decide +kernel) h1.o h1.p2) ?_
  refine Eq.trans (ev_ci (show zcode 39 34 = some (0, 35, 0, 0, []) by decide +kernel) (by decide)) ?_
  refine Eq.trans (ev_lda (show zcode 39 35 = some (6, 36, 0, 0, []) by decide +kernel) rfl (by decide)) ?_
  refine Eq.trans (ev_gq (show zcode 39 36 = some (56, 39, 9, 2, []) by decide +kernel) h2.o h2.p2) ?_
  refine Eq.trans (ev_ci (show zcode 39 39 = some (0, 40, 0, 0, []) by decide +kernel) (by decide)) ?_
  refine Eq.trans (ev_ci (show zcode 39 40 = some (0, 42, 0, 8, []) by decide +kernel) (by decide)) ?_
  refine Eq.trans (ev_cpyi (show zcode 39 42 = some (79, 45, 0, 0, []) by decide +kernel) (c := 0) (by decide) h1.a3 h2.a3 h5 (by decide) (show 0 ≤ 8 by decide)) ?_
  refine Eq.trans (ev_lda (show zcode 39 45 = some (6, 46, 1, 0, []) by decide +kernel) rfl (by decide)) ?_
  refine Eq.trans (ev_gq (show zcode 39 46 = some (56, 49, 9, 3, []) by decide +kernel) h1.o h1.p3) ?_
  refine Eq.trans (ev_ci (show zcode 39 49 = some (0, 50, 0, 0, []) by decide +kernel) (by decide)) ?_
  refine Eq.trans (ev_lda (show zcode 39 50 = some (6, 51, 0, 0, []) by decide +kernel) rfl (by decide)) ?_
  refine Eq.trans (ev_gq (show zcode 39 51 = some (56, 54, 9, 3, []) by decide +kernel) h2.o h2.p3) ?_
  refine Eq.trans (ev_ci (show zcode 39 54 = some (0, 55, 0, 0, []) by decide +kernel) (by decide)) ?_
  refine Eq.trans (ev_ci (show zcode 39 55 = some (0, 57, 0, 8, []) by decide +kernel) (by decide)) ?_
  refine Eq.trans (ev_cpyi (show zcode 39 57 = some (79, 60, 0, 0, []) by decide +kernel) (c := 0) (by decide) h1.a4 h2.a4 h6 (by decide) (show 0 ≤ 8 by decide)) ?_
  refine Eq.trans (ev_lda (show zcode 39 60 = some (6, 61, 1, 0, []) by decide +kernel) rfl (by decide)) ?_
  refine Eq.trans (ev_gq (show zcode 39 61 = some (56, 64, 9, 4, []) by decide +kernel) h1.o h1.p4) ?_
  refine Eq.trans (ev_ci (show zcode 39 64 = some (0, 65, 0, 0, []) by decide +kernel) (by decide)) ?_
  refine Eq.trans (ev_lda (show zcode 39 65 = some (6, 66, 0, 0, []) by decide +kernel) rfl (by decide)) ?_
  refine Eq.trans (ev_gq (show zcode 39 66 = some (56, 69, 9, 4, []) by decide +kernel) h2.o h2.p4) ?_
  refine Eq.trans (ev_ci (show zcode 39 69 = some (0, 70, 0, 0, []) by decide +kernel) (by decide)) ?_
  refine Eq.trans (ev_ci (show zcode 39 70 = some (0, 72, 0, 48, []) by decide +kernel) (by decide)) ?_
  refine Eq.trans (ev_cpyi (show zcode 39 72 = some (79, 75, 0, 0, []) by decide +kernel) (c := 0) (by decide) h1.a5 h2.a5 h7 (by decide) (show 0 ≤ 8 by decide)) ?_
  refine Eq.trans (ev_lda (show zcode 39 75 = some (6, 76, 0, 0, []) by decide +kernel) rfl (by decide)) ?_
  refine Eq.trans (ev_lda (show zcode 39 76 = some (6, 77, 1, 0, []) by decide +kernel) rfl (by decide)) ?_
  refine Eq.trans (ev_gi (show zcode 39 77 = some (55, 80, 9, 5, []) by decide +kernel) h1.o) ?_
  refine Eq.trans (ev_pi (show zcode 39 80 = some (57, 83, 9, 5, []) by decide +kernel) h2.o) ?_
  refine Eq.trans (ev_lda (show zcode 39 83 = some (6, 84, 1, 0, []) by decide +kernel) rfl (by decide)) ?_
  refine Eq.trans (ev_gq (show zcode 39 84 = some (56, 87, 9, 6, []) by decide +kernel) h1.o h1.p6) ?_
  refine Eq.trans (ev_ci (show zcode 39 87 = some (0, 88, 0, 0, []) by decide +kernel) (by decide)) ?_
  refine Eq.trans (ev_lda (show zcode 39 88 = some (6, 89, 0, 0, []) by decide +kernel) rfl (by decide)) ?_
  refine Eq.trans (ev_gq (show zcode 39 89 = some (56, 92, 9, 6, []) by decide +kernel) h2.o h2.p6) ?_
  refine Eq.trans (ev_ci (show zcode 39 92 = some (0, 93, 0, 0, []) by decide +kernel) (by decide)) ?_
  refine Eq.trans (ev_ci (show zcode 39 93 = some (0, 95, 0, 16, []) by decide +kernel) (by decide)) ?_
  refine Eq.trans (ev_cpyi (show zcode 39 95 = some (79, 98, 0, 0, []) by decide +kernel) (c := 0) (by decide) h1.a6 h2.a6 h8 (by decide) (show 0 ≤ 8 by decide)) ?_
  refine Eq.trans (ev_lda (show zcode 39 98 = some (6, 99, 0, 0, []) by decide +kernel) rfl (by decide)) ?_
  refine Eq.trans (ev_lda (show zcode 39 99 = some (6, 100, 1, 0, []) by decide +kernel) rfl (by decide)) ?_
  refine Eq.trans (ev_gi (show zcode 39 100 = some (55, 103, 9, 7, []) by decide +kernel) h1.o) ?_
  refine Eq.trans (ev_pi (show zcode 39 103 = some (57, 106, 9, 7, []) by decide +kernel) h2.o) ?_
  refine Eq.trans (ev_lda (show zcode 39 106 = some (6, 107, 1, 0, []) by decide +kernel) rfl (by decide)) ?_
  refine Eq.trans (ev_gq (show zcode 39 107 = some (56, 110, 9, 8, []) by decide +kernel) h1.o h1.p8) ?_
  refine Eq.trans (ev_ci (show zcode 39 110 = some (0, 111, 0, 0, []) by decide +kernel) (by decide)) ?_
  refine Eq.trans (ev_lda (show zcode 39 111 = some (6, 112, 0, 0, []) by decide +kernel) rfl (by decide)) ?_
  refine Eq.trans (ev_gq (show zcode 39 112 = some (56, 115, 9, 8, []) by decide +kernel) h2.o h2.p8) ?_
  refine Eq.trans (ev_ci (show zcode 39 115 = some (0, 116, 0, 0, []) by decide +kernel) (by decide)) ?_
  refine Eq.trans (ev_ci (show zcode 39 116 = some (0, 117, 0, 4, []) by decide +kernel) (by decide)) ?_
  refine Eq.trans (ev_cpyi (show zcode 39 117 = some (79, 120, 0, 0, []) by decide +kernel) (c := 0) (by decide) h1.a7 h2.a7 h9 (by decide) (show 0 ≤ 8 by decide)) ?_
  refine Eq.trans (ev_lda (show zcode 39 120 = some (6, 121, 0, 0, []) by decide +kernel) rfl (by decide)) ?_
  refine Eq.trans (ev_lda (show zcode 39 121 = some (6, 122, 1, 0, []) by decide +kernel) rfl (by decide)) ?_
  refine Eq.trans (ev_gi (show zcode 39 122 = some (55, 125, 9, 9, []) by decide +kernel) h1.o) ?_
  refine Eq.trans (ev_pi (show zcode 39 125 = some (57, 128, 9, 9, []) by decide +kernel) h2.o) ?_
  exact ev_rn (show zcode 39 128 = some (73, 129, 0, 0, []) by decide +kernel)
/-! 40: TwoWayWall$Yards.copyYards(LTwoWayWall$Yards;)V -/
theorem e40 {T : zT} {V : zM} {q0 : Int} {q1 : Int} : zcall 40 [(2, q0), (2, q1)] T V = ev 40 0 [(2, q0), (2, q1), (9, 0)] [] T V := rfl
theorem b40_0 {T : zT} {V : zM} {q0 : Int} {q1 : Int} : ev 40 0 [(2, q0), (2, q1), (9, 0)] [] T V = ev 40 2 [(2, q0), (2, q1), (0, 0)] [] T V := by
  refine Eq.trans (ev_ci (show zcode 40 0 = some (0, 1, 0, 0, []) by decide +kernel) (by decide)) ?_
  exact ev_sti (show zcode 40 1 = some (7, 2, 2, 0, []) by decide +kernel) ⟨show 2 < 3 by decide, Or.inr (show ¬ (2 : Nat) = 1 by decide)⟩
theorem b40_2 {T : zT} {V : zM} {q0 : Int} {q1 : Int} {x2 : Int} : ev 40 2 [(2, q0), (2, q1), (0, x2)] [] T V = if 10 ≤ x2 then ev 40 21 [(2, q0), (2, q1), (0, x2)] [] T V else ev 40 8 [(2, q0), (2, q1), (0, x2)] [] T V := by
  refine Eq.trans (ev_ldi (show zcode 40 2 = some (4, 3, 2, 0, []) by decide +kernel) rfl) ?_
  refine Eq.trans (ev_ci (show zcode 40 3 = some (0, 5, 0, 10, []) by decide +kernel) (by decide)) ?_
  exact ev_cge (show zcode 40 5 = some (49, 8, 21, 0, []) by decide +kernel)
theorem b40_8 {T : zT} {V : zM} {q0 : Int} {q1 : Int} {x2 : Int} (h1 : zYards T q0) : ev 40 8 [(2, q0), (2, q1), (0, x2)] [] T V = (zcall 41 [(2, q0), (2, q1), (0, x2), (0, x2)] T V).bind fun x => ev 40 15 [(2, q0), (2, q1), (0, x2)] (z_push x.1 []) x.2.1 x.2.2 := by
  refine Eq.trans (ev_lda (show zcode 40 8 = some (6, 9, 0, 0, []) by decide +kernel) rfl (by decide)) ?_
  refine Eq.trans (ev_lda (show zcode 40 9 = some (6, 10, 1, 0, []) by decide +kernel) rfl (by decide)) ?_
  refine Eq.trans (ev_ldi (show zcode 40 10 = some (4, 11, 2, 0, []) by decide +kernel) rfl) ?_
  refine Eq.trans (ev_ldi (show zcode 40 11 = some (4, 12, 2, 0, []) by decide +kernel) rfl) ?_
  exact ev_cvirt (show zcode 40 12 = some (76, 15, 41, 4, [10]) by decide +kernel) (args := [(2, q1), (0, x2), (0, x2)]) (rest := []) rfl h1.o rfl (show 0 ≤ 8 by decide) ⟨by decide, show 4 ≤ 4 by decide⟩
theorem b40_15 {T : zT} {V : zM} {q0 : Int} {q1 : Int} {x2 : Int} (h1 : -2147483648 ≤ (x2 + 1) ∧ (x2 + 1) ≤ 2147483647) : ev 40 15 [(2, q0), (2, q1), (0, x2)] [] T V = ev 40 2 [(2, q0), (2, q1), (0, (x2 + 1))] [] T V := by
  refine Eq.trans (ev_inc (show zcode 40 15 = some (10, 18, 2, 1, []) by decide +kernel) rfl h1 (Or.inr (show ¬ (2 : Nat) = 1 by decide))) ?_
  exact ev_goto (show zcode 40 18 = some (53, 21, 2, 0, []) by decide +kernel)
theorem b40_21 {T : zT} {V : zM} {q0 : Int} {q1 : Int} {x2 : Int} (h1 : zYards T q1) (h2 : zYards T q0) : ev 40 21 [(2, q0), (2, q1), (0, x2)] [] T V = some ((9, 0), T, (zwr V q0 5 (V q1 5))) := by
  refine Eq.trans (ev_lda (show zcode 40 21 = some (6, 22, 0, 0, []) by decide +kernel) rfl (by decide)) ?_
  refine Eq.trans (ev_lda (show zcode 40 22 = some (6, 23, 1, 0, []) by decide +kernel) rfl (by decide)) ?_
  refine Eq.trans (ev_gi (show zcode 40 23 = some (55, 26, 10, 5, []) by decide +kernel) h1.o) ?_
  refine Eq.trans (ev_pi (show zcode 40 26 = some (57, 29, 10, 5, []) by decide +kernel) h2.o) ?_
  exact ev_rn (show zcode 40 29 = some (73, 30, 0, 0, []) by decide +kernel)
/-! 41: TwoWayWall$Yards.copyYard(LTwoWayWall$Yards;II)V -/
theorem e41 {T : zT} {V : zM} {q0 : Int} {q1 : Int} {x2 : Int} {x3 : Int} : zcall 41 [(2, q0), (2, q1), (0, x2), (0, x3)] T V = ev 41 0 [(2, q0), (2, q1), (0, x2), (0, x3)] [] T V := rfl
theorem b41_0 {T : zT} {V : zM} {q0 : Int} {q1 : Int} {x2 : Int} {x3 : Int} (h1 : zYards T q0) (h2 : zYards T q1) (h3 : (0 : Int) ≤ x2 ∧ x2 < 10) (h4 : (0 : Int) ≤ x3 ∧ x3 < 10) : ev 41 0 [(2, q0), (2, q1), (0, x2), (0, x3)] [] T V = some ((9, 0), T, (zwr (zwr (zwr (zwr (zwr V (q0 + 1) x3 (V (q1 + 1) x2)) (q0 + 2) x3 ((zwr V (q0 + 1) x3 (V (q1 + 1) x2)) (q1 + 2) x2)) (q0 + 3) x3 ((zwr (zwr V (q0 + 1) x3 (V (q1 + 1) x2)) (q0 + 2) x3 ((zwr V (q0 + 1) x3 (V (q1 + 1) x2)) (q1 + 2) x2)) (q1 + 3) x2)) (q0 + 4) x3 ((zwr (zwr (zwr V (q0 + 1) x3 (V (q1 + 1) x2)) (q0 + 2) x3 ((zwr V (q0 + 1) x3 (V (q1 + 1) x2)) (q1 + 2) x2)) (q0 + 3) x3 ((zwr (zwr V (q0 + 1) x3 (V (q1 + 1) x2)) (q0 + 2) x3 ((zwr V (q0 + 1) x3 (V (q1 + 1) x2)) (q1 + 2) x2)) (q1 + 3) x2)) (q1 + 4) x2)) (q0 + 5) x3 ((zwr (zwr (zwr (zwr V (q0 + 1) x3 (V (q1 + 1) x2)) (q0 + 2) x3 ((zwr V (q0 + 1) x3 (V (q1 + 1) x2)) (q1 + 2) x2)) (q0 + 3) x3 ((zwr (zwr V (q0 + 1) x3 (V (q1 + 1) x2)) (q0 + 2) x3 ((zwr V (q0 + 1) x3 (V (q1 + 1) x2)) (q1 + 2) x2)) (q1 + 3) x2)) (q0 + 4) x3 ((zwr (zwr (zwr V (q0 + 1) x3 (V (q1 + 1) x2)) (q0 + 2) x3 ((zwr V (q0 + 1) x3 (V (q1 + 1) x2)) (q1 + 2) x2)) (q0 + 3) x3 ((zwr (zwr V (q0 + 1) x3 (V (q1 + 1) x2)) (q0 + 2) x3 ((zwr V (q0 + 1) x3 (V (q1 + 1) x2)) (q1 + 2) x2)) (q1 + 3) x2)) (q1 + 4) x2)) (q1 + 5) x2))) := by
  refine Eq.trans (ev_lda (show zcode 41 0 = some (6, 1, 0, 0, []) by decide +kernel) rfl (by decide)) ?_
  refine Eq.trans (ev_gq (show zcode 41 1 = some (56, 4, 10, 0, []) by decide +kernel) h1.o h1.p0) ?_
  refine Eq.trans (ev_ldi (show zcode 41 4 = some (4, 5, 3, 0, []) by decide +kernel) rfl) ?_
  refine Eq.trans (ev_lda (show zcode 41 5 = some (6, 6, 1, 0, []) by decide +kernel) rfl (by decide)) ?_
  refine Eq.trans (ev_gq (show zcode 41 6 = some (56, 9, 10, 0, []) by decide +kernel) h2.o h2.p0) ?_
  refine Eq.trans (ev_ldi (show zcode 41 9 = some (4, 10, 2, 0, []) by decide +kernel) rfl) ?_
  refine Eq.trans (ev_ia (show zcode 41 10 = some (60, 11, 0, 0, []) by decide +kernel) h2.a1 h3) ?_
  refine Eq.trans (ev_is (show zcode 41 11 = some (64, 12, 0, 0, []) by decide +kernel) h1.a1 h4) ?_
  refine Eq.trans (ev_lda (show zcode 41 12 = some (6, 13, 0, 0, []) by decide +kernel) rfl (by decide)) ?_
  refine Eq.trans (ev_gq (show zcode 41 13 = some (56, 16, 10, 1, []) by decide +kernel) h1.o h1.p1) ?_
  refine Eq.trans (ev_ldi (show zcode 41 16 = some (4, 17, 3, 0, []) by decide +kernel) rfl) ?_
  refine Eq.trans (ev_lda (show zcode 41 17 = some (6, 18, 1, 0, []) by decide +kernel) rfl (by decide)) ?_
  refine Eq.trans (ev_gq (show zcode 41 18 = some (56, 21, 10, 1, []) by decide +kernel) h2.o h2.p1) ?_
  refine Eq.trans (ev_ldi (show zcode 41 21 = some (4, 22, 2, 0, []) by decide +kernel) rfl) ?_
  refine Eq.trans (ev_ia (show zcode 41 22 = some (60, 23, 0, 0, []) by decide +kernel) h2.a2 h3) ?_
  refine Eq.trans (ev_is (show zcode 41 23 = some (64, 24, 0, 0, []) by decide +kernel) h1.a2 h4) ?_
  refine Eq.trans (ev_lda (show zcode 41 24 = some (6, 25, 0, 0, []) by decide +kernel) rfl (by decide)) ?_
  refine Eq.trans (ev_gq (show zcode 41 25 = some (56, 28, 10, 2, []) by decide +kernel) h1.o h1.p2) ?_
  refine Eq.trans (ev_ldi (show zcode 41 28 = some (4, 29, 3, 0, []) by decide +kernel) rfl) ?_
  refine Eq.trans (ev_lda (show zcode 41 29 = some (6, 30, 1, 0, []) by decide +kernel) rfl (by decide)) ?_
  refine Eq.trans (ev_gq (show zcode 41 30 = some (56, 33, 10, 2, []) by decide +kernel) h2.o h2.p2) ?_
  refine Eq.trans (ev_ldi (show zcode 41 33 = some (4, 34, 2, 0, []) by decide +kernel) rfl) ?_
  refine Eq.trans (ev_ia (show zcode 41 34 = some (60, 35, 0, 0, []) by decide +kernel) h2.a3 h3) ?_
  refine Eq.trans (ev_is (show zcode 41 35 = some (64, 36, 0, 0, []) by decide +kernel) h1.a3 h4) ?_
  refine Eq.trans (ev_lda (show zcode 41 36 = some (6, 37, 0, 0, []) by decide +kernel) rfl (by decide)) ?_
  refine Eq.trans (ev_gq (show zcode 41 37 = some (56, 40, 10, 3, []) by decide +kernel) h1.o h1.p3) ?_
  refine Eq.trans (ev_ldi (show zcode 41 40 = some (4, 41, 3, 0, []) by decide +kernel) rfl) ?_
  refine Eq.trans (ev_lda (show zcode 41 41 = some (6, 42, 1, 0, []) by decide +kernel) rfl (by decide)) ?_
  refine Eq.trans (ev_gq (show zcode 41 42 = some (56, 45, 10, 3, []) by decide +kernel) h2.o h2.p3) ?_
  refine Eq.trans (ev_ldi (show zcode 41 45 = some (4, 46, 2, 0, []) by decide +kernel) rfl) ?_
  refine Eq.trans (ev_ia (show zcode 41 46 = some (60, 47, 0, 0, []) by decide +kernel) h2.a4 h3) ?_
  refine Eq.trans (ev_is (show zcode 41 47 = some (64, 48, 0, 0, []) by decide +kernel) h1.a4 h4) ?_
  refine Eq.trans (ev_lda (show zcode 41 48 = some (6, 49, 0, 0, []) by decide +kernel) rfl (by decide)) ?_
  refine Eq.trans (ev_gq (show zcode 41 49 = some (56, 52, 10, 4, []) by decide +kernel) h1.o h1.p4) ?_
  refine Eq.trans (ev_ldi (show zcode 41 52 = some (4, 53, 3, 0, []) by decide +kernel) rfl) ?_
  refine Eq.trans (ev_lda (show zcode 41 53 = some (6, 54, 1, 0, []) by decide +kernel) rfl (by decide)) ?_
  refine Eq.trans (ev_gq (show zcode 41 54 = some (56, 57, 10, 4, []) by decide +kernel) h2.o h2.p4) ?_
  refine Eq.trans (ev_ldi (show zcode 41 57 = some (4, 58, 2, 0, []) by decide +kernel) rfl) ?_
  refine Eq.trans (ev_ia (show zcode 41 58 = some (60, 59, 0, 0, []) by decide +kernel) h2.a5 h3) ?_
  refine Eq.trans (ev_is (show zcode 41 59 = some (64, 60, 0, 0, []) by decide +kernel) h1.a5 h4) ?_
  exact ev_rn (show zcode 41 60 = some (73, 61, 0, 0, []) by decide +kernel)
/-! 74: TwoWayWall$State.tongue(I)LTwoWayWall$Tongue; -/
theorem e74 {T : zT} {V : zM} {q0 : Int} {x1 : Int} : zcall 74 [(2, q0), (0, x1)] T V = ev 74 0 [(2, q0), (0, x1)] [] T V := rfl
theorem b74_0 {T : zT} {V : zM} {q0 : Int} {x1 : Int} : ev 74 0 [(2, q0), (0, x1)] [] T V = if x1 = 0 then ev 74 4 [(2, q0), (0, x1)] [] T V else ev 74 11 [(2, q0), (0, x1)] [] T V := by
  refine Eq.trans (ev_ldi (show zcode 74 0 = some (4, 1, 1, 0, []) by decide +kernel) rfl) ?_
  exact ev_ne (show zcode 74 1 = some (41, 4, 11, 0, []) by decide +kernel)
theorem b74_4 {T : zT} {V : zM} {q0 : Int} {x1 : Int} (h1 : zState T q0) : ev 74 4 [(2, q0), (0, x1)] [] T V = ev 74 15 [(2, q0), (0, x1)] [(2, (q0 + 5))] T V := by
  refine Eq.trans (ev_lda (show zcode 74 4 = some (6, 5, 0, 0, []) by decide +kernel) rfl (by decide)) ?_
  refine Eq.trans (ev_gq (show zcode 74 5 = some (56, 8, 6, 5, []) by decide +kernel) h1.o h1.p5) ?_
  exact ev_goto (show zcode 74 8 = some (53, 11, 15, 0, []) by decide +kernel)
theorem b74_11 {T : zT} {V : zM} {q0 : Int} {x1 : Int} (h1 : zState T q0) : ev 74 11 [(2, q0), (0, x1)] [] T V = ev 74 15 [(2, q0), (0, x1)] [(2, (q0 + 13))] T V := by
  refine Eq.trans (ev_lda (show zcode 74 11 = some (6, 12, 0, 0, []) by decide +kernel) rfl (by decide)) ?_
  exact ev_gq (show zcode 74 12 = some (56, 15, 6, 6, []) by decide +kernel) h1.o h1.p6
theorem b74_15 {T : zT} {V : zM} {q0 : Int} {x1 : Int} {p0 : Int} : ev 74 15 [(2, q0), (0, x1)] [(2, p0)] T V = some ((2, p0), T, V) := by
  exact ev_rr (show zcode 74 15 = some (72, 16, 2, 0, []) by decide +kernel)
/-! 76: TwoWayWall$Tongue.letterOf(II)I -/
theorem e76 {T : zT} {V : zM} {q0 : Int} {x1 : Int} {x2 : Int} : zcall 76 [(2, q0), (0, x1), (0, x2)] T V = ev 76 0 [(2, q0), (0, x1), (0, x2)] [] T V := rfl
theorem b76_0 {T : zT} {V : zM} {q0 : Int} {x1 : Int} {x2 : Int} (h1 : zTongue T q0) (h2 : -2147483648 ≤ (x1 * 6) ∧ (x1 * 6) ≤ 2147483647) (h3 : -2147483648 ≤ ((x1 * 6) + x2) ∧ ((x1 * 6) + x2) ≤ 2147483647) (h4 : (0 : Int) ≤ ((x1 * 6) + x2) ∧ ((x1 * 6) + x2) < 48) : ev 76 0 [(2, q0), (0, x1), (0, x2)] [] T V = some ((0, (V (q0 + 5) ((x1 * 6) + x2))), T, V) := by
  refine Eq.trans (ev_lda (show zcode 76 0 = some (6, 1, 0, 0, []) by decide +kernel) rfl (by decide)) ?_
  refine Eq.trans (ev_gq (show zcode 76 1 = some (56, 4, 9, 4, []) by decide +kernel) h1.o h1.p4) ?_
  refine Eq.trans (ev_ldi (show zcode 76 4 = some (4, 5, 1, 0, []) by decide +kernel) rfl) ?_
  refine Eq.trans (ev_ci (show zcode 76 5 = some (0, 7, 0, 6, []) by decide +kernel) (by decide)) ?_
  refine Eq.trans (ev_mul (show zcode 76 7 = some (13, 8, 0, 0, []) by decide +kernel) h2) ?_
  refine Eq.trans (ev_ldi (show zcode 76 8 = some (4, 9, 2, 0, []) by decide +kernel) rfl) ?_
  refine Eq.trans (ev_add (show zcode 76 9 = some (11, 10, 0, 0, []) by decide +kernel) h3) ?_
  refine Eq.trans (ev_ia (show zcode 76 10 = some (60, 11, 0, 0, []) by decide +kernel) h1.a5 h4) ?_
  exact ev_ri (show zcode 76 11 = some (72, 12, 0, 0, []) by decide +kernel)
/-! 78: TwoWayWall$Readings.kindOf(II)I -/
theorem e78 {T : zT} {V : zM} {x1 : Int} {x2 : Int} : zcall 78 [(2, 59), (0, x1), (0, x2)] T V = ev 78 0 [(2, 59), (0, x1), (0, x2)] [] T V := rfl
theorem b78_0 {T : zT} {V : zM} {x1 : Int} {x2 : Int} : ev 78 0 [(2, 59), (0, x1), (0, x2)] [] T V = if x1 = 0 then ev 78 4 [(2, 59), (0, x1), (0, x2)] [] T V else ev 78 13 [(2, 59), (0, x1), (0, x2)] [] T V := by
  refine Eq.trans (ev_ldi (show zcode 78 0 = some (4, 1, 1, 0, []) by decide +kernel) rfl) ?_
  exact ev_ne (show zcode 78 1 = some (41, 4, 13, 0, []) by decide +kernel)
theorem b78_4 {T : zT} {V : zM} {x1 : Int} {x2 : Int} (hS : zStr T) (h1 : (0 : Int) ≤ x2 ∧ x2 < 128) : ev 78 4 [(2, 59), (0, x1), (0, x2)] [] T V = ev 78 19 [(2, 59), (0, x1), (0, x2)] [(0, (V 60 x2))] T V := by
  refine Eq.trans (ev_lda (show zcode 78 4 = some (6, 5, 0, 0, []) by decide +kernel) rfl (by decide)) ?_
  refine Eq.trans (ev_gq (show zcode 78 5 = some (56, 8, 4, 0, []) by decide +kernel) (so59 hS) (sp59_0 hS)) ?_
  refine Eq.trans (ev_ldi (show zcode 78 8 = some (4, 9, 2, 0, []) by decide +kernel) rfl) ?_
  refine Eq.trans (ev_ia (show zcode 78 9 = some (60, 10, 0, 0, []) by decide +kernel) (sa60 hS) h1) ?_
  exact ev_goto (show zcode 78 10 = some (53, 13, 19, 0, []) by decide +kernel)
theorem b78_13 {T : zT} {V : zM} {x1 : Int} {x2 : Int} (hS : zStr T) (h1 : (0 : Int) ≤ x2 ∧ x2 < 128) : ev 78 13 [(2, 59), (0, x1), (0, x2)] [] T V = ev 78 19 [(2, 59), (0, x1), (0, x2)] [(0, (V 61 x2))] T V := by
  refine Eq.trans (ev_lda (show zcode 78 13 = some (6, 14, 0, 0, []) by decide +kernel) rfl (by decide)) ?_
  refine Eq.trans (ev_gq (show zcode 78 14 = some (56, 17, 4, 1, []) by decide +kernel) (so59 hS) (sp59_1 hS)) ?_
  refine Eq.trans (ev_ldi (show zcode 78 17 = some (4, 18, 2, 0, []) by decide +kernel) rfl) ?_
  exact ev_ia (show zcode 78 18 = some (60, 19, 0, 0, []) by decide +kernel) (sa61 hS) h1
theorem b78_19 {T : zT} {V : zM} {x1 : Int} {x2 : Int} {y0 : Int} : ev 78 19 [(2, 59), (0, x1), (0, x2)] [(0, y0)] T V = some ((0, y0), T, V) := by
  exact ev_ri (show zcode 78 19 = some (72, 20, 0, 0, []) by decide +kernel)
/-! 94: TwoWayWall$Nearest.find(LTwoWayWall$PairTable;II)V -/
theorem e94 {T : zT} {V : zM} {q1 : Int} {x2 : Int} {x3 : Int} : zcall 94 [(2, 77), (2, q1), (0, x2), (0, x3)] T V = ev 94 0 [(2, 77), (2, q1), (0, x2), (0, x3), (9, 0), (9, 0), (9, 0)] [] T V := rfl
theorem b94_0 {T : zT} {V : zM} {q1 : Int} {x2 : Int} {x3 : Int} (hS : zStr T)  : ev 94 0 [(2, 77), (2, q1), (0, x2), (0, x3), (9, 0), (9, 0), (9, 0)] [] T V = ev 94 9 [(2, 77), (2, q1), (0, x2), (0, x3), (0, 0), (9, 0), (9, 0)] [] T (zwr V 77 0 1000000) := by
  refine Eq.trans (ev_lda (show zcode 94 0 = some (6, 1, 0, 0, []) by decide +kernel) rfl (by decide)) ?_
  refine Eq.trans (ev_ci (show zcode 94 1 = some (0, 3, 0, 1000000, []) by decide +kernel) (by decide)) ?_
  refine Eq.trans (ev_pi (show zcode 94 3 = some (57, 6, 2, 0, []) by decide +kernel) (so77 hS)) ?_
  refine Eq.trans (ev_ci (show zcode 94 6 = some (0, 7, 0, 0, []) by decide +kernel) (by decide)) ?_
  exact ev_sti (show zcode 94 7 = some (7, 9, 4, 0, []) by decide +kernel) ⟨show 4 < 7 by decide, Or.inr (show ¬ (0 : Nat) = 1 by decide)⟩
theorem b94_9 {T : zT} {V : zM} {q1 : Int} {x2 : Int} {x3 : Int} {x4 : Int} {v5 : zV} {v6 : zV} (h1 : zPairT T q1) : ev 94 9 [(2, 77), (2, q1), (0, x2), (0, x3), (0, x4), v5, v6] [] T V = if (V q1 5) ≤ x4 then ev 94 103 [(2, 77), (2, q1), (0, x2), (0, x3), (0, x4), v5, v6] [] T V else ev 94 18 [(2, 77), (2, q1), (0, x2), (0, x3), (0, x4), v5, v6] [] T V := by
  refine Eq.trans (ev_ldi (show zcode 94 9 = some (4, 11, 4, 0, []) by decide +kernel) rfl) ?_
  refine Eq.trans (ev_lda (show zcode 94 11 = some (6, 12, 1, 0, []) by decide +kernel) rfl (by decide)) ?_
  refine Eq.trans (ev_gi (show zcode 94 12 = some (55, 15, 3, 5, []) by decide +kernel) h1.o) ?_
  exact ev_cge (show zcode 94 15 = some (49, 18, 103, 0, []) by decide +kernel)
theorem b94_18 {T : zT} {V : zM} {q1 : Int} {x2 : Int} {x3 : Int} {x4 : Int} {v5 : zV} {v6 : zV} (h1 : zPairT T q1) (h2 : (0 : Int) ≤ x4 ∧ x4 < 128) (h3 : (0 : Int) ≤ (V (q1 + 5) x4)) : ev 94 18 [(2, 77), (2, q1), (0, x2), (0, x3), (0, x4), v5, v6] [] T V = if ((V (q1 + 5) x4) / 27) = x2 then ev 94 36 [(2, 77), (2, q1), (0, x2), (0, x3), (0, x4), (0, (V (q1 + 5) x4)), v6] [] T V else ev 94 40 [(2, 77), (2, q1), (0, x2), (0, x3), (0, x4), (0, (V (q1 + 5) x4)), v6] [] T V := by
  refine Eq.trans (ev_lda (show zcode 94 18 = some (6, 19, 1, 0, []) by decide +kernel) rfl (by decide)) ?_
  refine Eq.trans (ev_gq (show zcode 94 19 = some (56, 22, 3, 4, []) by decide +kernel) h1.o h1.p4) ?_
  refine Eq.trans (ev_ldi (show zcode 94 22 = some (4, 24, 4, 0, []) by decide +kernel) rfl) ?_
  refine Eq.trans (ev_ia (show zcode 94 24 = some (60, 25, 0, 0, []) by decide +kernel) h1.a5 h2) ?_
  refine Eq.trans (ev_sti (show zcode 94 25 = some (7, 27, 5, 0, []) by decide +kernel) ⟨show 5 < 7 by decide, Or.inr (show ¬ (0 : Nat) = 1 by decide)⟩) ?_
  refine Eq.trans (ev_ldi (show zcode 94 27 = some (4, 29, 5, 0, []) by decide +kernel) rfl) ?_
  refine Eq.trans (ev_ci (show zcode 94 29 = some (0, 31, 0, 27, []) by decide +kernel) (by decide)) ?_
  refine Eq.trans (ev_div (show zcode 94 31 = some (17, 32, 0, 0, []) by decide +kernel) ⟨h3, by decide⟩) ?_
  refine Eq.trans (ev_ldi (show zcode 94 32 = some (4, 33, 2, 0, []) by decide +kernel) rfl) ?_
  exact ev_cne (show zcode 94 33 = some (47, 36, 40, 0, []) by decide +kernel)
theorem b94_36 {T : zT} {V : zM} {q1 : Int} {x2 : Int} {x3 : Int} {x4 : Int} {x5 : Int} {v6 : zV} : ev 94 36 [(2, 77), (2, q1), (0, x2), (0, x3), (0, x4), (0, x5), v6] [] T V = ev 94 41 [(2, 77), (2, q1), (0, x2), (0, x3), (0, x4), (0, x5), v6] [(0, 0)] T V := by
  refine Eq.trans (ev_ci (show zcode 94 36 = some (0, 37, 0, 0, []) by decide +kernel) (by decide)) ?_
  exact ev_goto (show zcode 94 37 = some (53, 40, 41, 0, []) by decide +kernel)
theorem b94_40 {T : zT} {V : zM} {q1 : Int} {x2 : Int} {x3 : Int} {x4 : Int} {x5 : Int} {v6 : zV} : ev 94 40 [(2, 77), (2, q1), (0, x2), (0, x3), (0, x4), (0, x5), v6] [] T V = ev 94 41 [(2, 77), (2, q1), (0, x2), (0, x3), (0, x4), (0, x5), v6] [(0, 1)] T V := by
  exact ev_ci (show zcode 94 40 = some (0, 41, 0, 1, []) by decide +kernel) (by decide)
theorem b94_41 {T : zT} {V : zM} {q1 : Int} {x2 : Int} {x3 : Int} {x4 : Int} {x5 : Int} {v6 : zV} {y0 : Int} (h1 : (0 : Int) ≤ x5) : ev 94 41 [(2, 77), (2, q1), (0, x2), (0, x3), (0, x4), (0, x5), v6] [(0, y0)] T V = if (x5 % 27) = x3 then ev 94 55 [(2, 77), (2, q1), (0, x2), (0, x3), (0, x4), (0, x5), (0, y0)] [] T V else ev 94 52 [(2, 77), (2, q1), (0, x2), (0, x3), (0, x4), (0, x5), (0, y0)] [] T V := by
  refine Eq.trans (ev_sti (show zcode 94 41 = some (7, 43, 6, 0, []) by decide +kernel) ⟨show 6 < 7 by decide, Or.inr (show ¬ (0 : Nat) = 1 by decide)⟩) ?_
  refine Eq.trans (ev_ldi (show zcode 94 43 = some (4, 45, 5, 0, []) by decide +kernel) rfl) ?_
  refine Eq.trans (ev_ci (show zcode 94 45 = some (0, 47, 0, 27, []) by decide +kernel) (by decide)) ?_
  refine Eq.trans (ev_rem (show zcode 94 47 = some (18, 48, 0, 0, []) by decide +kernel) ⟨h1, by decide⟩) ?_
  refine Eq.trans (ev_ldi (show zcode 94 48 = some (4, 49, 3, 0, []) by decide +kernel) rfl) ?_
  exact ev_ceq (show zcode 94 49 = some (46, 52, 55, 0, []) by decide +kernel)
theorem b94_52 {T : zT} {V : zM} {q1 : Int} {x2 : Int} {x3 : Int} {x4 : Int} {x5 : Int} {x6 : Int} (h1 : -2147483648 ≤ (x6 + 1) ∧ (x6 + 1) ≤ 2147483647) : ev 94 52 [(2, 77), (2, q1), (0, x2), (0, x3), (0, x4), (0, x5), (0, x6)] [] T V = ev 94 55 [(2, 77), (2, q1), (0, x2), (0, x3), (0, x4), (0, x5), (0, (x6 + 1))] [] T V := by
  exact ev_inc (show zcode 94 52 = some (10, 55, 6, 1, []) by decide +kernel) rfl h1 (Or.inr (show ¬ (0 : Nat) = 1 by decide))
theorem b94_55 {T : zT} {V : zM} {q1 : Int} {x2 : Int} {x3 : Int} {x4 : Int} {x5 : Int} {x6 : Int} (hS : zStr T)  : ev 94 55 [(2, 77), (2, q1), (0, x2), (0, x3), (0, x4), (0, x5), (0, x6)] [] T V = if (V 77 0) ≤ x6 then ev 94 81 [(2, 77), (2, q1), (0, x2), (0, x3), (0, x4), (0, x5), (0, x6)] [] T V else ev 94 64 [(2, 77), (2, q1), (0, x2), (0, x3), (0, x4), (0, x5), (0, x6)] [] T V := by
  refine Eq.trans (ev_ldi (show zcode 94 55 = some (4, 57, 6, 0, []) by decide +kernel) rfl) ?_
  refine Eq.trans (ev_lda (show zcode 94 57 = some (6, 58, 0, 0, []) by decide +kernel) rfl (by decide)) ?_
  refine Eq.trans (ev_gi (show zcode 94 58 = some (55, 61, 2, 0, []) by decide +kernel) (so77 hS)) ?_
  exact ev_cge (show zcode 94 61 = some (49, 64, 81, 0, []) by decide +kernel)
theorem b94_64 {T : zT} {V : zM} {q1 : Int} {x2 : Int} {x3 : Int} {x4 : Int} {x5 : Int} {x6 : Int} (hS : zStr T)  : ev 94 64 [(2, 77), (2, q1), (0, x2), (0, x3), (0, x4), (0, x5), (0, x6)] [] T V = ev 94 81 [(2, 77), (2, q1), (0, x2), (0, x3), (0, x4), (0, x5), (0, x6)] [] T (zwr (zwr (zwr V 77 0 x6) 77 1 1000000) 77 3 0) := by
  refine Eq.trans (ev_lda (show zcode 94 64 = some (6, 65, 0, 0, []) by decide +kernel) rfl (by decide)) ?_
  refine Eq.trans (ev_ldi (show zcode 94 65 = some (4, 67, 6, 0, []) by decide +kernel) rfl) ?_
  refine Eq.trans (ev_pi (show zcode 94 67 = some (57, 70, 2, 0, []) by decide +kernel) (so77 hS)) ?_
  refine Eq.trans (ev_lda (show zcode 94 70 = some (6, 71, 0, 0, []) by decide +kernel) rfl (by decide)) ?_
  refine Eq.trans (ev_ci (show zcode 94 71 = some (0, 73, 0, 1000000, []) by decide +kernel) (by decide)) ?_
  refine Eq.trans (ev_pi (show zcode 94 73 = some (57, 76, 2, 1, []) by decide +kernel) (so77 hS)) ?_
  refine Eq.trans (ev_lda (show zcode 94 76 = some (6, 77, 0, 0, []) by decide +kernel) rfl (by decide)) ?_
  refine Eq.trans (ev_ci (show zcode 94 77 = some (0, 78, 0, 0, []) by decide +kernel) (by decide)) ?_
  exact ev_pi (show zcode 94 78 = some (57, 81, 2, 3, []) by decide +kernel) (so77 hS)
theorem b94_81 {T : zT} {V : zM} {q1 : Int} {x2 : Int} {x3 : Int} {x4 : Int} {x5 : Int} {x6 : Int} (hS : zStr T)  : ev 94 81 [(2, 77), (2, q1), (0, x2), (0, x3), (0, x4), (0, x5), (0, x6)] [] T V = if x6 = (V 77 0) then ev 94 90 [(2, 77), (2, q1), (0, x2), (0, x3), (0, x4), (0, x5), (0, x6)] [] T V else ev 94 97 [(2, 77), (2, q1), (0, x2), (0, x3), (0, x4), (0, x5), (0, x6)] [] T V := by
  refine Eq.trans (ev_ldi (show zcode 94 81 = some (4, 83, 6, 0, []) by decide +kernel) rfl) ?_
  refine Eq.trans (ev_lda (show zcode 94 83 = some (6, 84, 0, 0, []) by decide +kernel) rfl (by decide)) ?_
  refine Eq.trans (ev_gi (show zcode 94 84 = some (55, 87, 2, 0, []) by decide +kernel) (so77 hS)) ?_
  exact ev_cne (show zcode 94 87 = some (47, 90, 97, 0, []) by decide +kernel)
theorem b94_90 {T : zT} {V : zM} {q1 : Int} {x2 : Int} {x3 : Int} {x4 : Int} {x5 : Int} {x6 : Int} (hS : zStr T)  : ev 94 90 [(2, 77), (2, q1), (0, x2), (0, x3), (0, x4), (0, x5), (0, x6)] [] T V = (zcall 95 [(2, 77), (2, q1), (0, x5)] T V).bind fun x => ev 94 97 [(2, 77), (2, q1), (0, x2), (0, x3), (0, x4), (0, x5), (0, x6)] (z_push x.1 []) x.2.1 x.2.2 := by
  refine Eq.trans (ev_lda (show zcode 94 90 = some (6, 91, 0, 0, []) by decide +kernel) rfl (by decide)) ?_
  refine Eq.trans (ev_lda (show zcode 94 91 = some (6, 92, 1, 0, []) by decide +kernel) rfl (by decide)) ?_
  refine Eq.trans (ev_ldi (show zcode 94 92 = some (4, 94, 5, 0, []) by decide +kernel) rfl) ?_
  exact ev_cvirt (show zcode 94 94 = some (76, 97, 95, 3, [2]) by decide +kernel) (args := [(2, q1), (0, x5)]) (rest := []) rfl (so77 hS) rfl (show 0 ≤ 8 by decide) ⟨by decide, show 3 ≤ 4 by decide⟩
theorem b94_97 {T : zT} {V : zM} {q1 : Int} {x2 : Int} {x3 : Int} {x4 : Int} {x5 : Int} {x6 : Int} (h1 : -2147483648 ≤ (x4 + 1) ∧ (x4 + 1) ≤ 2147483647) : ev 94 97 [(2, 77), (2, q1), (0, x2), (0, x3), (0, x4), (0, x5), (0, x6)] [] T V = ev 94 9 [(2, 77), (2, q1), (0, x2), (0, x3), (0, (x4 + 1)), (0, x5), (0, x6)] [] T V := by
  refine Eq.trans (ev_inc (show zcode 94 97 = some (10, 100, 4, 1, []) by decide +kernel) rfl h1 (Or.inr (show ¬ (0 : Nat) = 1 by decide))) ?_
  exact ev_goto (show zcode 94 100 = some (53, 103, 9, 0, []) by decide +kernel)
theorem b94_103 {T : zT} {V : zM} {q1 : Int} {x2 : Int} {x3 : Int} {x4 : Int} {v5 : zV} {v6 : zV} : ev 94 103 [(2, 77), (2, q1), (0, x2), (0, x3), (0, x4), v5, v6] [] T V = some ((9, 0), T, V) := by
  exact ev_rn (show zcode 94 103 = some (73, 104, 0, 0, []) by decide +kernel)
/-! 95: TwoWayWall$Nearest.choose(LTwoWayWall$PairTable;I)V -/
theorem e95 {T : zT} {V : zM} {q1 : Int} {x2 : Int} : zcall 95 [(2, 77), (2, q1), (0, x2)] T V = ev 95 0 [(2, 77), (2, q1), (0, x2), (9, 0)] [] T V := rfl
theorem b95_0 {T : zT} {V : zM} {q1 : Int} {x2 : Int} (hS : zStr T) (h1 : zPairT T q1) (h2 : (0 : Int) ≤ x2 ∧ x2 < 729) (h3 : -2147483648 ≤ ((V 77 3) + (V (q1 + 1) x2)) ∧ ((V 77 3) + (V (q1 + 1) x2)) ≤ 2147483647) : ev 95 0 [(2, 77), (2, q1), (0, x2), (9, 0)] [] T V = if ((zwr V 77 3 ((V 77 3) + (V (q1 + 1) x2))) (q1 + 3) x2) = ((zwr V 77 3 ((V 77 3) + (V (q1 + 1) x2))) 77 1) then ev 95 28 [(2, 77), (2, q1), (0, x2), (9, 0)] [] T (zwr V 77 3 ((V 77 3) + (V (q1 + 1) x2))) else ev 95 32 [(2, 77), (2, q1), (0, x2), (9, 0)] [] T (zwr V 77 3 ((V 77 3) + (V (q1 + 1) x2))) := by
  refine Eq.trans (ev_lda (show zcode 95 0 = some (6, 1, 0, 0, []) by decide +kernel) rfl (by decide)) ?_
  refine Eq.trans (ev_dup (show zcode 95 1 = some (36, 2, 0, 0, []) by decide +kernel) (by decide)) ?_
  refine Eq.trans (ev_gi (show zcode 95 2 = some (55, 5, 2, 3, []) by decide +kernel) (so77 hS)) ?_
  refine Eq.trans (ev_lda (show zcode 95 5 = some (6, 6, 1, 0, []) by decide +kernel) rfl (by decide)) ?_
  refine Eq.trans (ev_gq (show zcode 95 6 = some (56, 9, 3, 0, []) by decide +kernel) h1.o h1.p0) ?_
  refine Eq.trans (ev_ldi (show zcode 95 9 = some (4, 10, 2, 0, []) by decide +kernel) rfl) ?_
  refine Eq.trans (ev_ia (show zcode 95 10 = some (60, 11, 0, 0, []) by decide +kernel) h1.a1 h2) ?_
  refine Eq.trans (ev_add (show zcode 95 11 = some (11, 12, 0, 0, []) by decide +kernel) h3) ?_
  refine Eq.trans (ev_pi (show zcode 95 12 = some (57, 15, 2, 3, []) by decide +kernel) (so77 hS)) ?_
  refine Eq.trans (ev_lda (show zcode 95 15 = some (6, 16, 1, 0, []) by decide +kernel) rfl (by decide)) ?_
  refine Eq.trans (ev_gq (show zcode 95 16 = some (56, 19, 3, 2, []) by decide +kernel) h1.o h1.p2) ?_
  refine Eq.trans (ev_ldi (show zcode 95 19 = some (4, 20, 2, 0, []) by decide +kernel) rfl) ?_
  refine Eq.trans (ev_ia (show zcode 95 20 = some (60, 21, 0, 0, []) by decide +kernel) h1.a3 h2) ?_
  refine Eq.trans (ev_lda (show zcode 95 21 = some (6, 22, 0, 0, []) by decide +kernel) rfl (by decide)) ?_
  refine Eq.trans (ev_gi (show zcode 95 22 = some (55, 25, 2, 1, []) by decide +kernel) (so77 hS)) ?_
  exact ev_cne (show zcode 95 25 = some (47, 28, 32, 0, []) by decide +kernel)
theorem b95_28 {T : zT} {V : zM} {q1 : Int} {x2 : Int} : ev 95 28 [(2, 77), (2, q1), (0, x2), (9, 0)] [] T V = ev 95 33 [(2, 77), (2, q1), (0, x2), (9, 0)] [(0, 1)] T V := by
  refine Eq.trans (ev_ci (show zcode 95 28 = some (0, 29, 0, 1, []) by decide +kernel) (by decide)) ?_
  exact ev_goto (show zcode 95 29 = some (53, 32, 33, 0, []) by decide +kernel)
theorem b95_32 {T : zT} {V : zM} {q1 : Int} {x2 : Int} : ev 95 32 [(2, 77), (2, q1), (0, x2), (9, 0)] [] T V = ev 95 33 [(2, 77), (2, q1), (0, x2), (9, 0)] [(0, 0)] T V := by
  exact ev_ci (show zcode 95 32 = some (0, 33, 0, 0, []) by decide +kernel) (by decide)
theorem b95_33 {T : zT} {V : zM} {q1 : Int} {x2 : Int} {y0 : Int} (hS : zStr T) (h1 : zPairT T q1) (h2 : (0 : Int) ≤ x2 ∧ x2 < 729) : ev 95 33 [(2, 77), (2, q1), (0, x2), (9, 0)] [(0, y0)] T V = if (V (q1 + 3) x2) < (V 77 1) then ev 95 64 [(2, 77), (2, q1), (0, x2), (0, y0)] [] T V else ev 95 47 [(2, 77), (2, q1), (0, x2), (0, y0)] [] T V := by
  refine Eq.trans (ev_sti (show zcode 95 33 = some (7, 34, 3, 0, []) by decide +kernel) ⟨show 3 < 4 by decide, Or.inr (show ¬ (0 : Nat) = 1 by decide)⟩) ?_
  refine Eq.trans (ev_lda (show zcode 95 34 = some (6, 35, 1, 0, []) by decide +kernel) rfl (by decide)) ?_
  refine Eq.trans (ev_gq (show zcode 95 35 = some (56, 38, 3, 2, []) by decide +kernel) h1.o h1.p2) ?_
  refine Eq.trans (ev_ldi (show zcode 95 38 = some (4, 39, 2, 0, []) by decide +kernel) rfl) ?_
  refine Eq.trans (ev_ia (show zcode 95 39 = some (60, 40, 0, 0, []) by decide +kernel) h1.a3 h2) ?_
  refine Eq.trans (ev_lda (show zcode 95 40 = some (6, 41, 0, 0, []) by decide +kernel) rfl (by decide)) ?_
  refine Eq.trans (ev_gi (show zcode 95 41 = some (55, 44, 2, 1, []) by decide +kernel) (so77 hS)) ?_
  exact ev_clt (show zcode 95 44 = some (48, 47, 64, 0, []) by decide +kernel)
theorem b95_47 {T : zT} {V : zM} {q1 : Int} {x2 : Int} {x3 : Int} : ev 95 47 [(2, 77), (2, q1), (0, x2), (0, x3)] [] T V = if x3 = 0 then ev 95 84 [(2, 77), (2, q1), (0, x2), (0, x3)] [] T V else ev 95 51 [(2, 77), (2, q1), (0, x2), (0, x3)] [] T V := by
  refine Eq.trans (ev_ldi (show zcode 95 47 = some (4, 48, 3, 0, []) by decide +kernel) rfl) ?_
  exact ev_eq (show zcode 95 48 = some (40, 51, 84, 0, []) by decide +kernel)
theorem b95_51 {T : zT} {V : zM} {q1 : Int} {x2 : Int} {x3 : Int} (hS : zStr T) (h1 : zPairT T q1) (h2 : (0 : Int) ≤ x2 ∧ x2 < 729) : ev 95 51 [(2, 77), (2, q1), (0, x2), (0, x3)] [] T V = if (V 77 2) ≤ (V (q1 + 2) x2) then ev 95 84 [(2, 77), (2, q1), (0, x2), (0, x3)] [] T V else ev 95 64 [(2, 77), (2, q1), (0, x2), (0, x3)] [] T V := by
  refine Eq.trans (ev_lda (show zcode 95 51 = some (6, 52, 1, 0, []) by decide +kernel) rfl (by decide)) ?_
  refine Eq.trans (ev_gq (show zcode 95 52 = some (56, 55, 3, 1, []) by decide +kernel) h1.o h1.p1) ?_
  refine Eq.trans (ev_ldi (show zcode 95 55 = some (4, 56, 2, 0, []) by decide +kernel) rfl) ?_
  refine Eq.trans (ev_ia (show zcode 95 56 = some (60, 57, 0, 0, []) by decide +kernel) h1.a2 h2) ?_
  refine Eq.trans (ev_lda (show zcode 95 57 = some (6, 58, 0, 0, []) by decide +kernel) rfl (by decide)) ?_
  refine Eq.trans (ev_gi (show zcode 95 58 = some (55, 61, 2, 2, []) by decide +kernel) (so77 hS)) ?_
  exact ev_cge (show zcode 95 61 = some (49, 64, 84, 0, []) by decide +kernel)
theorem b95_64 {T : zT} {V : zM} {q1 : Int} {x2 : Int} {x3 : Int} (hS : zStr T) (h1 : zPairT T q1) (h2 : (0 : Int) ≤ x2 ∧ x2 < 729) : ev 95 64 [(2, 77), (2, q1), (0, x2), (0, x3)] [] T V = ev 95 84 [(2, 77), (2, q1), (0, x2), (0, x3)] [] T (zwr (zwr V 77 1 (V (q1 + 3) x2)) 77 2 ((zwr V 77 1 (V (q1 + 3) x2)) (q1 + 2) x2)) := by
  refine Eq.trans (ev_lda (show zcode 95 64 = some (6, 65, 0, 0, []) by decide +kernel) rfl (by decide)) ?_
  refine Eq.trans (ev_lda (show zcode 95 65 = some (6, 66, 1, 0, []) by decide +kernel) rfl (by decide)) ?_
  refine Eq.trans (ev_gq (show zcode 95 66 = some (56, 69, 3, 2, []) by decide +kernel) h1.o h1.p2) ?_
  refine Eq.trans (ev_ldi (show zcode 95 69 = some (4, 70, 2, 0, []) by decide +kernel) rfl) ?_
  refine Eq.trans (ev_ia (show zcode 95 70 = some (60, 71, 0, 0, []) by decide +kernel) h1.a3 h2) ?_
  refine Eq.trans (ev_pi (show zcode 95 71 = some (57, 74, 2, 1, []) by decide +kernel) (so77 hS)) ?_
  refine Eq.trans (ev_lda (show zcode 95 74 = some (6, 75, 0, 0, []) by decide +kernel) rfl (by decide)) ?_
  refine Eq.trans (ev_lda (show zcode 95 75 = some (6, 76, 1, 0, []) by decide +kernel) rfl (by decide)) ?_
  refine Eq.trans (ev_gq (show zcode 95 76 = some (56, 79, 3, 1, []) by decide +kernel) h1.o h1.p1) ?_
  refine Eq.trans (ev_ldi (show zcode 95 79 = some (4, 80, 2, 0, []) by decide +kernel) rfl) ?_
  refine Eq.trans (ev_ia (show zcode 95 80 = some (60, 81, 0, 0, []) by decide +kernel) h1.a2 h2) ?_
  exact ev_pi (show zcode 95 81 = some (57, 84, 2, 2, []) by decide +kernel) (so77 hS)
theorem b95_84 {T : zT} {V : zM} {q1 : Int} {x2 : Int} {x3 : Int} : ev 95 84 [(2, 77), (2, q1), (0, x2), (0, x3)] [] T V = some ((9, 0), T, V) := by
  exact ev_rn (show zcode 95 84 = some (73, 85, 0, 0, []) by decide +kernel)
/-! 132: TwoWayWall$Yards.take(IIIII)I -/
theorem e132 {T : zT} {V : zM} {q0 : Int} {x1 : Int} {x2 : Int} {x3 : Int} {x4 : Int} {x5 : Int} : zcall 132 [(2, q0), (0, x1), (0, x2), (0, x3), (0, x4), (0, x5)] T V = ev 132 0 [(2, q0), (0, x1), (0, x2), (0, x3), (0, x4), (0, x5)] [] T V := rfl
theorem b132_0 {T : zT} {V : zM} {q0 : Int} {x1 : Int} {x2 : Int} {x3 : Int} {x4 : Int} {x5 : Int} (h1 : zYards T q0) : ev 132 0 [(2, q0), (0, x1), (0, x2), (0, x3), (0, x4), (0, x5)] [] T V = if (V q0 5) < 10 then ev 132 11 [(2, q0), (0, x1), (0, x2), (0, x3), (0, x4), (0, x5)] [] T V else ev 132 9 [(2, q0), (0, x1), (0, x2), (0, x3), (0, x4), (0, x5)] [] T V := by
  refine Eq.trans (ev_lda (show zcode 132 0 = some (6, 1, 0, 0, []) by decide +kernel) rfl (by decide)) ?_
  refine Eq.trans (ev_gi (show zcode 132 1 = some (55, 4, 10, 5, []) by decide +kernel) h1.o) ?_
  refine Eq.trans (ev_ci (show zcode 132 4 = some (0, 6, 0, 10, []) by decide +kernel) (by decide)) ?_
  exact ev_clt (show zcode 132 6 = some (48, 9, 11, 0, []) by decide +kernel)
theorem b132_9 {T : zT} {V : zM} {q0 : Int} {x1 : Int} {x2 : Int} {x3 : Int} {x4 : Int} {x5 : Int} : ev 132 9 [(2, q0), (0, x1), (0, x2), (0, x3), (0, x4), (0, x5)] [] T V = some ((0, (-1)), T, V) := by
  refine Eq.trans (ev_ci (show zcode 132 9 = some (0, 10, 0, (-1), []) by decide +kernel) (by decide)) ?_
  exact ev_ri (show zcode 132 10 = some (72, 11, 0, 0, []) by decide +kernel)
theorem b132_11 {T : zT} {V : zM} {q0 : Int} {x1 : Int} {x2 : Int} {x3 : Int} {x4 : Int} {x5 : Int} (h1 : zYards T q0) (h2 : (0 : Int) ≤ (V q0 5) ∧ (V q0 5) < 10) (h3 : (0 : Int) ≤ ((zwr V (q0 + 1) (V q0 5) x1) q0 5) ∧ ((zwr V (q0 + 1) (V q0 5) x1) q0 5) < 10) (h4 : (0 : Int) ≤ ((zwr (zwr V (q0 + 1) (V q0 5) x1) (q0 + 2) ((zwr V (q0 + 1) (V q0 5) x1) q0 5) x2) q0 5) ∧ ((zwr (zwr V (q0 + 1) (V q0 5) x1) (q0 + 2) ((zwr V (q0 + 1) (V q0 5) x1) q0 5) x2) q0 5) < 10) (h5 : (0 : Int) ≤ ((zwr (zwr (zwr V (q0 + 1) (V q0 5) x1) (q0 + 2) ((zwr V (q0 + 1) (V q0 5) x1) q0 5) x2) (q0 + 3) ((zwr (zwr V (q0 + 1) (V q0 5) x1) (q0 + 2) ((zwr V (q0 + 1) (V q0 5) x1) q0 5) x2) q0 5) x3) q0 5) ∧ ((zwr (zwr (zwr V (q0 + 1) (V q0 5) x1) (q0 + 2) ((zwr V (q0 + 1) (V q0 5) x1) q0 5) x2) (q0 + 3) ((zwr (zwr V (q0 + 1) (V q0 5) x1) (q0 + 2) ((zwr V (q0 + 1) (V q0 5) x1) q0 5) x2) q0 5) x3) q0 5) < 10) (h6 : (0 : Int) ≤ ((zwr (zwr (zwr (zwr V (q0 + 1) (V q0 5) x1) (q0 + 2) ((zwr V (q0 + 1) (V q0 5) x1) q0 5) x2) (q0 + 3) ((zwr (zwr V (q0 + 1) (V q0 5) x1) (q0 + 2) ((zwr V (q0 + 1) (V q0 5) x1) q0 5) x2) q0 5) x3) (q0 + 4) ((zwr (zwr (zwr V (q0 + 1) (V q0 5) x1) (q0 + 2) ((zwr V (q0 + 1) (V q0 5) x1) q0 5) x2) (q0 + 3) ((zwr (zwr V (q0 + 1) (V q0 5) x1) (q0 + 2) ((zwr V (q0 + 1) (V q0 5) x1) q0 5) x2) q0 5) x3) q0 5) x4) q0 5) ∧ ((zwr (zwr (zwr (zwr V (q0 + 1) (V q0 5) x1) (q0 + 2) ((zwr V (q0 + 1) (V q0 5) x1) q0 5) x2) (q0 + 3) ((zwr (zwr V (q0 + 1) (V q0 5) x1) (q0 + 2) ((zwr V (q0 + 1) (V q0 5) x1) q0 5) x2) q0 5) x3) (q0 + 4) ((zwr (zwr (zwr V (q0 + 1) (V q0 5) x1) (q0 + 2) ((zwr V (q0 + 1) (V q0 5) x1) q0 5) x2) (q0 + 3) ((zwr (zwr V (q0 + 1) (V q0 5) x1) (q0 + 2) ((zwr V (q0 + 1) (V q0 5) x1) q0 5) x2) q0 5) x3) q0 5) x4) q0 5) < 10) (h7 : -2147483648 ≤ (((zwr (zwr (zwr (zwr (zwr V (q0 + 1) (V q0 5) x1) (q0 + 2) ((zwr V (q0 + 1) (V q0 5) x1) q0 5) x2) (q0 + 3) ((zwr (zwr V (q0 + 1) (V q0 5) x1) (q0 + 2) ((zwr V (q0 + 1) (V q0 5) x1) q0 5) x2) q0 5) x3) (q0 + 4) ((zwr (zwr (zwr V (q0 + 1) (V q0 5) x1) (q0 + 2) ((zwr V (q0 + 1) (V q0 5) x1) q0 5) x2) (q0 + 3) ((zwr (zwr V (q0 + 1) (V q0 5) x1) (q0 + 2) ((zwr V (q0 + 1) (V q0 5) x1) q0 5) x2) q0 5) x3) q0 5) x4) (q0 + 5) ((zwr (zwr (zwr (zwr V (q0 + 1) (V q0 5) x1) (q0 + 2) ((zwr V (q0 + 1) (V q0 5) x1) q0 5) x2) (q0 + 3) ((zwr (zwr V (q0 + 1) (V q0 5) x1) (q0 + 2) ((zwr V (q0 + 1) (V q0 5) x1) q0 5) x2) q0 5) x3) (q0 + 4) ((zwr (zwr (zwr V (q0 + 1) (V q0 5) x1) (q0 + 2) ((zwr V (q0 + 1) (V q0 5) x1) q0 5) x2) (q0 + 3) ((zwr (zwr V (q0 + 1) (V q0 5) x1) (q0 + 2) ((zwr V (q0 + 1) (V q0 5) x1) q0 5) x2) q0 5) x3) q0 5) x4) q0 5) x5) q0 5) + 1) ∧ (((zwr (zwr (zwr (zwr (zwr V (q0 + 1) (V q0 5) x1) (q0 + 2) ((zwr V (q0 + 1) (V q0 5) x1) q0 5) x2) (q0 + 3) ((zwr (zwr V (q0 + 1) (V q0 5) x1) (q0 + 2) ((zwr V (q0 + 1) (V q0 5) x1) q0 5) x2) q0 5) x3) (q0 + 4) ((zwr (zwr (zwr V (q0 + 1) (V q0 5) x1) (q0 + 2) ((zwr V (q0 + 1) (V q0 5) x1) q0 5) x2) (q0 + 3) ((zwr (zwr V (q0 + 1) (V q0 5) x1) (q0 + 2) ((zwr V (q0 + 1) (V q0 5) x1) q0 5) x2) q0 5) x3) q0 5) x4) (q0 + 5) ((zwr (zwr (zwr (zwr V (q0 + 1) (V q0 5) x1) (q0 + 2) ((zwr V (q0 + 1) (V q0 5) x1) q0 5) x2) (q0 + 3) ((zwr (zwr V (q0 + 1) (V q0 5) x1) (q0 + 2) ((zwr V (q0 + 1) (V q0 5) x1) q0 5) x2) q0 5) x3) (q0 + 4) ((zwr (zwr (zwr V (q0 + 1) (V q0 5) x1) (q0 + 2) ((zwr V (q0 + 1) (V q0 5) x1) q0 5) x2) (q0 + 3) ((zwr (zwr V (q0 + 1) (V q0 5) x1) (q0 + 2) ((zwr V (q0 + 1) (V q0 5) x1) q0 5) x2) q0 5) x3) q0 5) x4) q0 5) x5) q0 5) + 1) ≤ 2147483647) (h8 : -2147483648 ≤ (((zwr (zwr (zwr (zwr (zwr (zwr V (q0 + 1) (V q0 5) x1) (q0 + 2) ((zwr V (q0 + 1) (V q0 5) x1) q0 5) x2) (q0 + 3) ((zwr (zwr V (q0 + 1) (V q0 5) x1) (q0 + 2) ((zwr V (q0 + 1) (V q0 5) x1) q0 5) x2) q0 5) x3) (q0 + 4) ((zwr (zwr (zwr V (q0 + 1) (V q0 5) x1) (q0 + 2) ((zwr V (q0 + 1) (V q0 5) x1) q0 5) x2) (q0 + 3) ((zwr (zwr V (q0 + 1) (V q0 5) x1) (q0 + 2) ((zwr V (q0 + 1) (V q0 5) x1) q0 5) x2) q0 5) x3) q0 5) x4) (q0 + 5) ((zwr (zwr (zwr (zwr V (q0 + 1) (V q0 5) x1) (q0 + 2) ((zwr V (q0 + 1) (V q0 5) x1) q0 5) x2) (q0 + 3) ((zwr (zwr V (q0 + 1) (V q0 5) x1) (q0 + 2) ((zwr V (q0 + 1) (V q0 5) x1) q0 5) x2) q0 5) x3) (q0 + 4) ((zwr (zwr (zwr V (q0 + 1) (V q0 5) x1) (q0 + 2) ((zwr V (q0 + 1) (V q0 5) x1) q0 5) x2) (q0 + 3) ((zwr (zwr V (q0 + 1) (V q0 5) x1) (q0 + 2) ((zwr V (q0 + 1) (V q0 5) x1) q0 5) x2) q0 5) x3) q0 5) x4) q0 5) x5) q0 5 (((zwr (zwr (zwr (zwr (zwr V (q0 + 1) (V q0 5) x1) (q0 + 2) ((zwr V (q0 + 1) (V q0 5) x1) q0 5) x2) (q0 + 3) ((zwr (zwr V (q0 + 1) (V q0 5) x1) (q0 + 2) ((zwr V (q0 + 1) (V q0 5) x1) q0 5) x2) q0 5) x3) (q0 + 4) ((zwr (zwr (zwr V (q0 + 1) (V q0 5) x1) (q0 + 2) ((zwr V (q0 + 1) (V q0 5) x1) q0 5) x2) (q0 + 3) ((zwr (zwr V (q0 + 1) (V q0 5) x1) (q0 + 2) ((zwr V (q0 + 1) (V q0 5) x1) q0 5) x2) q0 5) x3) q0 5) x4) (q0 + 5) ((zwr (zwr (zwr (zwr V (q0 + 1) (V q0 5) x1) (q0 + 2) ((zwr V (q0 + 1) (V q0 5) x1) q0 5) x2) (q0 + 3) ((zwr (zwr V (q0 + 1) (V q0 5) x1) (q0 + 2) ((zwr V (q0 + 1) (V q0 5) x1) q0 5) x2) q0 5) x3) (q0 + 4) ((zwr (zwr (zwr V (q0 + 1) (V q0 5) x1) (q0 + 2) ((zwr V (q0 + 1) (V q0 5) x1) q0 5) x2) (q0 + 3) ((zwr (zwr V (q0 + 1) (V q0 5) x1) (q0 + 2) ((zwr V (q0 + 1) (V q0 5) x1) q0 5) x2) q0 5) x3) q0 5) x4) q0 5) x5) q0 5) + 1)) q0 5) - 1) ∧ (((zwr (zwr (zwr (zwr (zwr (zwr V (q0 + 1) (V q0 5) x1) (q0 + 2) ((zwr V (q0 + 1) (V q0 5) x1) q0 5) x2) (q0 + 3) ((zwr (zwr V (q0 + 1) (V q0 5) x1) (q0 + 2) ((zwr V (q0 + 1) (V q0 5) x1) q0 5) x2) q0 5) x3) (q0 + 4) ((zwr (zwr (zwr V (q0 + 1) (V q0 5) x1) (q0 + 2) ((zwr V (q0 + 1) (V q0 5) x1) q0 5) x2) (q0 + 3) ((zwr (zwr V (q0 + 1) (V q0 5) x1) (q0 + 2) ((zwr V (q0 + 1) (V q0 5) x1) q0 5) x2) q0 5) x3) q0 5) x4) (q0 + 5) ((zwr (zwr (zwr (zwr V (q0 + 1) (V q0 5) x1) (q0 + 2) ((zwr V (q0 + 1) (V q0 5) x1) q0 5) x2) (q0 + 3) ((zwr (zwr V (q0 + 1) (V q0 5) x1) (q0 + 2) ((zwr V (q0 + 1) (V q0 5) x1) q0 5) x2) q0 5) x3) (q0 + 4) ((zwr (zwr (zwr V (q0 + 1) (V q0 5) x1) (q0 + 2) ((zwr V (q0 + 1) (V q0 5) x1) q0 5) x2) (q0 + 3) ((zwr (zwr V (q0 + 1) (V q0 5) x1) (q0 + 2) ((zwr V (q0 + 1) (V q0 5) x1) q0 5) x2) q0 5) x3) q0 5) x4) q0 5) x5) q0 5 (((zwr (zwr (zwr (zwr (zwr V (q0 + 1) (V q0 5) x1) (q0 + 2) ((zwr V (q0 + 1) (V q0 5) x1) q0 5) x2) (q0 + 3) ((zwr (zwr V (q0 + 1) (V q0 5) x1) (q0 + 2) ((zwr V (q0 + 1) (V q0 5) x1) q0 5) x2) q0 5) x3) (q0 + 4) ((zwr (zwr (zwr V (q0 + 1) (V q0 5) x1) (q0 + 2) ((zwr V (q0 + 1) (V q0 5) x1) q0 5) x2) (q0 + 3) ((zwr (zwr V (q0 + 1) (V q0 5) x1) (q0 + 2) ((zwr V (q0 + 1) (V q0 5) x1) q0 5) x2) q0 5) x3) q0 5) x4) (q0 + 5) ((zwr (zwr (zwr (zwr V (q0 + 1) (V q0 5) x1) (q0 + 2) ((zwr V (q0 + 1) (V q0 5) x1) q0 5) x2) (q0 + 3) ((zwr (zwr V (q0 + 1) (V q0 5) x1) (q0 + 2) ((zwr V (q0 + 1) (V q0 5) x1) q0 5) x2) q0 5) x3) (q0 + 4) ((zwr (zwr (zwr V (q0 + 1) (V q0 5) x1) (q0 + 2) ((zwr V (q0 + 1) (V q0 5) x1) q0 5) x2) (q0 + 3) ((zwr (zwr V (q0 + 1) (V q0 5) x1) (q0 + 2) ((zwr V (q0 + 1) (V q0 5) x1) q0 5) x2) q0 5) x3) q0 5) x4) q0 5) x5) q0 5) + 1)) q0 5) - 1) ≤ 2147483647) : ev 132 11 [(2, q0), (0, x1), (0, x2), (0, x3), (0, x4), (0, x5)] [] T V = some ((0, (((zwr (zwr (zwr (zwr (zwr (zwr V (q0 + 1) (V q0 5) x1) (q0 + 2) ((zwr V (q0 + 1) (V q0 5) x1) q0 5) x2) (q0 + 3) ((zwr (zwr V (q0 + 1) (V q0 5) x1) (q0 + 2) ((zwr V (q0 + 1) (V q0 5) x1) q0 5) x2) q0 5) x3) (q0 + 4) ((zwr (zwr (zwr V (q0 + 1) (V q0 5) x1) (q0 + 2) ((zwr V (q0 + 1) (V q0 5) x1) q0 5) x2) (q0 + 3) ((zwr (zwr V (q0 + 1) (V q0 5) x1) (q0 + 2) ((zwr V (q0 + 1) (V q0 5) x1) q0 5) x2) q0 5) x3) q0 5) x4) (q0 + 5) ((zwr (zwr (zwr (zwr V (q0 + 1) (V q0 5) x1) (q0 + 2) ((zwr V (q0 + 1) (V q0 5) x1) q0 5) x2) (q0 + 3) ((zwr (zwr V (q0 + 1) (V q0 5) x1) (q0 + 2) ((zwr V (q0 + 1) (V q0 5) x1) q0 5) x2) q0 5) x3) (q0 + 4) ((zwr (zwr (zwr V (q0 + 1) (V q0 5) x1) (q0 + 2) ((zwr V (q0 + 1) (V q0 5) x1) q0 5) x2) (q0 + 3) ((zwr (zwr V (q0 + 1) (V q0 5) x1) (q0 + 2) ((zwr V (q0 + 1) (V q0 5) x1) q0 5) x2) q0 5) x3) q0 5) x4) q0 5) x5) q0 5 (((zwr (zwr (zwr (zwr (zwr V (q0 + 1) (V q0 5) x1) (q0 + 2) ((zwr V (q0 + 1) (V q0 5) x1) q0 5) x2) (q0 + 3) ((zwr (zwr V (q0 + 1) (V q0 5) x1) (q0 + 2) ((zwr V (q0 + 1) (V q0 5) x1) q0 5) x2) q0 5) x3) (q0 + 4) ((zwr (zwr (zwr V (q0 + 1) (V q0 5) x1) (q0 + 2) ((zwr V (q0 + 1) (V q0 5) x1) q0 5) x2) (q0 + 3) ((zwr (zwr V (q0 + 1) (V q0 5) x1) (q0 + 2) ((zwr V (q0 + 1) (V q0 5) x1) q0 5) x2) q0 5) x3) q0 5) x4) (q0 + 5) ((zwr (zwr (zwr (zwr V (q0 + 1) (V q0 5) x1) (q0 + 2) ((zwr V (q0 + 1) (V q0 5) x1) q0 5) x2) (q0 + 3) ((zwr (zwr V (q0 + 1) (V q0 5) x1) (q0 + 2) ((zwr V (q0 + 1) (V q0 5) x1) q0 5) x2) q0 5) x3) (q0 + 4) ((zwr (zwr (zwr V (q0 + 1) (V q0 5) x1) (q0 + 2) ((zwr V (q0 + 1) (V q0 5) x1) q0 5) x2) (q0 + 3) ((zwr (zwr V (q0 + 1) (V q0 5) x1) (q0 + 2) ((zwr V (q0 + 1) (V q0 5) x1) q0 5) x2) q0 5) x3) q0 5) x4) q0 5) x5) q0 5) + 1)) q0 5) - 1)), T, (zwr (zwr (zwr (zwr (zwr (zwr V (q0 + 1) (V q0 5) x1) (q0 + 2) ((zwr V (q0 + 1) (V q0 5) x1) q0 5) x2) (q0 + 3) ((zwr (zwr V (q0 + 1) (V q0 5) x1) (q0 + 2) ((zwr V (q0 + 1) (V q0 5) x1) q0 5) x2) q0 5) x3) (q0 + 4) ((zwr (zwr (zwr V (q0 + 1) (V q0 5) x1) (q0 + 2) ((zwr V (q0 + 1) (V q0 5) x1) q0 5) x2) (q0 + 3) ((zwr (zwr V (q0 + 1) (V q0 5) x1) (q0 + 2) ((zwr V (q0 + 1) (V q0 5) x1) q0 5) x2) q0 5) x3) q0 5) x4) (q0 + 5) ((zwr (zwr (zwr (zwr V (q0 + 1) (V q0 5) x1) (q0 + 2) ((zwr V (q0 + 1) (V q0 5) x1) q0 5) x2) (q0 + 3) ((zwr (zwr V (q0 + 1) (V q0 5) x1) (q0 + 2) ((zwr V (q0 + 1) (V q0 5) x1) q0 5) x2) q0 5) x3) (q0 + 4) ((zwr (zwr (zwr V (q0 + 1) (V q0 5) x1) (q0 + 2) ((zwr V (q0 + 1) (V q0 5) x1) q0 5) x2) (q0 + 3) ((zwr (zwr V (q0 + 1) (V q0 5) x1) (q0 + 2) ((zwr V (q0 + 1) (V q0 5) x1) q0 5) x2) q0 5) x3) q0 5) x4) q0 5) x5) q0 5 (((zwr (zwr (zwr (zwr (zwr V (q0 + 1) (V q0 5) x1) (q0 + 2) ((zwr V (q0 + 1) (V q0 5) x1) q0 5) x2) (q0 + 3) ((zwr (zwr V (q0 + 1) (V q0 5) x1) (q0 + 2) ((zwr V (q0 + 1) (V q0 5) x1) q0 5) x2) q0 5) x3) (q0 + 4) ((zwr (zwr (zwr V (q0 + 1) (V q0 5) x1) (q0 + 2) ((zwr V (q0 + 1) (V q0 5) x1) q0 5) x2) (q0 + 3) ((zwr (zwr V (q0 + 1) (V q0 5) x1) (q0 + 2) ((zwr V (q0 + 1) (V q0 5) x1) q0 5) x2) q0 5) x3) q0 5) x4) (q0 + 5) ((zwr (zwr (zwr (zwr V (q0 + 1) (V q0 5) x1) (q0 + 2) ((zwr V (q0 + 1) (V q0 5) x1) q0 5) x2) (q0 + 3) ((zwr (zwr V (q0 + 1) (V q0 5) x1) (q0 + 2) ((zwr V (q0 + 1) (V q0 5) x1) q0 5) x2) q0 5) x3) (q0 + 4) ((zwr (zwr (zwr V (q0 + 1) (V q0 5) x1) (q0 + 2) ((zwr V (q0 + 1) (V q0 5) x1) q0 5) x2) (q0 + 3) ((zwr (zwr V (q0 + 1) (V q0 5) x1) (q0 + 2) ((zwr V (q0 + 1) (V q0 5) x1) q0 5) x2) q0 5) x3) q0 5) x4) q0 5) x5) q0 5) + 1))) := by
  refine Eq.trans (ev_lda (show zcode 132 11 = some (6, 12, 0, 0, []) by decide +kernel) rfl (by decide)) ?_
  refine Eq.trans (ev_gq (show zcode 132 12 = some (56, 15, 10, 0, []) by decide +kernel) h1.o h1.p0) ?_
  refine Eq.trans (ev_lda (show zcode 132 15 = some (6, 16, 0, 0, []) by decide +kernel) rfl (by decide)) ?_
  refine Eq.trans (ev_gi (show zcode 132 16 = some (55, 19, 10, 5, []) by decide +kernel) h1.o) ?_
  refine Eq.trans (ev_ldi (show zcode 132 19 = some (4, 20, 1, 0, []) by decide +kernel) rfl) ?_
  refine Eq.trans (ev_is (show zcode 132 20 = some (64, 21, 0, 0, []) by decide +kernel) h1.a1 h2) ?_
  refine Eq.trans (ev_lda (show zcode 132 21 = some (6, 22, 0, 0, []) by decide +kernel) rfl (by decide)) ?_
  refine Eq.trans (ev_gq (show zcode 132 22 = some (56, 25, 10, 1, []) by decide +kernel) h1.o h1.p1) ?_
  refine Eq.trans (ev_lda (show zcode 132 25 = some (6, 26, 0, 0, []) by decide +kernel) rfl (by decide)) ?_
  refine Eq.trans (ev_gi (show zcode 132 26 = some (55, 29, 10, 5, []) by decide +kernel) h1.o) ?_
  refine Eq.trans (ev_ldi (show zcode 132 29 = some (4, 30, 2, 0, []) by decide +kernel) rfl) ?_
  refine Eq.trans (ev_is (show zcode 132 30 = some (64, 31, 0, 0, []) by decide +kernel) h1.a2 h3) ?_
  refine Eq.trans (ev_lda (show zcode 132 31 = some (6, 32, 0, 0, []) by decide +kernel) rfl (by decide)) ?_
  refine Eq.trans (ev_gq (show zcode 132 32 = some (56, 35, 10, 2, []) by decide +kernel) h1.o h1.p2) ?_
  refine Eq.trans (ev_lda (show zcode 132 35 = some (6, 36, 0, 0, []) by decide +kernel) rfl (by decide)) ?_
  refine Eq.trans (ev_gi (show zcode 132 36 = some (55, 39, 10, 5, []) by decide +kernel) h1.o) ?_
  refine Eq.trans (ev_ldi (show zcode 132 39 = some (4, 40, 3, 0, []) by decide +kernel) rfl) ?_
  refine Eq.trans (ev_is (show zcode 132 40 = some (64, 41, 0, 0, []) by decide +kernel) h1.a3 h4) ?_
  refine Eq.trans (ev_lda (show zcode 132 41 = some (6, 42, 0, 0, []) by decide +kernel) rfl (by decide)) ?_
  refine Eq.trans (ev_gq (show zcode 132 42 = some (56, 45, 10, 3, []) by decide +kernel) h1.o h1.p3) ?_
  refine Eq.trans (ev_lda (show zcode 132 45 = some (6, 46, 0, 0, []) by decide +kernel) rfl (by decide)) ?_
  refine Eq.trans (ev_gi (show zcode 132 46 = some (55, 49, 10, 5, []) by decide +kernel) h1.o) ?_
  refine Eq.trans (ev_ldi (show zcode 132 49 = some (4, 51, 4, 0, []) by decide +kernel) rfl) ?_
  refine Eq.trans (ev_is (show zcode 132 51 = some (64, 52, 0, 0, []) by decide +kernel) h1.a4 h5) ?_
  refine Eq.trans (ev_lda (show zcode 132 52 = some (6, 53, 0, 0, []) by decide +kernel) rfl (by decide)) ?_
  refine Eq.trans (ev_gq (show zcode 132 53 = some (56, 56, 10, 4, []) by decide +kernel) h1.o h1.p4) ?_
  refine Eq.trans (ev_lda (show zcode 132 56 = some (6, 57, 0, 0, []) by decide +kernel) rfl (by decide)) ?_
  refine Eq.trans (ev_gi (show zcode 132 57 = some (55, 60, 10, 5, []) by decide +kernel) h1.o) ?_
  refine Eq.trans (ev_ldi (show zcode 132 60 = some (4, 62, 5, 0, []) by decide +kernel) rfl) ?_
  refine Eq.trans (ev_is (show zcode 132 62 = some (64, 63, 0, 0, []) by decide +kernel) h1.a5 h6) ?_
  refine Eq.trans (ev_lda (show zcode 132 63 = some (6, 64, 0, 0, []) by decide +kernel) rfl (by decide)) ?_
  refine Eq.trans (ev_dup (show zcode 132 64 = some (36, 65, 0, 0, []) by decide +kernel) (by decide)) ?_
  refine Eq.trans (ev_gi (show zcode 132 65 = some (55, 68, 10, 5, []) by decide +kernel) h1.o) ?_
  refine Eq.trans (ev_ci (show zcode 132 68 = some (0, 69, 0, 1, []) by decide +kernel) (by decide)) ?_
  refine Eq.trans (ev_add (show zcode 132 69 = some (11, 70, 0, 0, []) by decide +kernel) h7) ?_
  refine Eq.trans (ev_pi (show zcode 132 70 = some (57, 73, 10, 5, []) by decide +kernel) h1.o) ?_
  refine Eq.trans (ev_lda (show zcode 132 73 = some (6, 74, 0, 0, []) by decide +kernel) rfl (by decide)) ?_
  refine Eq.trans (ev_gi (show zcode 132 74 = some (55, 77, 10, 5, []) by decide +kernel) h1.o) ?_
  refine Eq.trans (ev_ci (show zcode 132 77 = some (0, 78, 0, 1, []) by decide +kernel) (by decide)) ?_
  refine Eq.trans (ev_sub (show zcode 132 78 = some (12, 79, 0, 0, []) by decide +kernel) h8) ?_
  exact ev_ri (show zcode 132 79 = some (72, 80, 0, 0, []) by decide +kernel)
/-! 134: TwoWayWall$Yards.remove(I)V -/
theorem e134 {T : zT} {V : zM} {q0 : Int} {x1 : Int} : zcall 134 [(2, q0), (0, x1)] T V = ev 134 0 [(2, q0), (0, x1), (9, 0)] [] T V := rfl
theorem b134_0 {T : zT} {V : zM} {q0 : Int} {x1 : Int} : ev 134 0 [(2, q0), (0, x1), (9, 0)] [] T V = ev 134 2 [(2, q0), (0, x1), (0, x1)] [] T V := by
  refine Eq.trans (ev_ldi (show zcode 134 0 = some (4, 1, 1, 0, []) by decide +kernel) rfl) ?_
  exact ev_sti (show zcode 134 1 = some (7, 2, 2, 0, []) by decide +kernel) ⟨show 2 < 3 by decide, Or.inr (show ¬ (0 : Nat) = 1 by decide)⟩
theorem b134_2 {T : zT} {V : zM} {q0 : Int} {x1 : Int} {x2 : Int} (h1 : -2147483648 ≤ (x2 + 1) ∧ (x2 + 1) ≤ 2147483647) (h2 : zYards T q0) : ev 134 2 [(2, q0), (0, x1), (0, x2)] [] T V = if (V q0 5) ≤ (x2 + 1) then ev 134 27 [(2, q0), (0, x1), (0, x2)] [] T V else ev 134 12 [(2, q0), (0, x1), (0, x2)] [] T V := by
  refine Eq.trans (ev_ldi (show zcode 134 2 = some (4, 3, 2, 0, []) by decide +kernel) rfl) ?_
  refine Eq.trans (ev_ci (show zcode 134 3 = some (0, 4, 0, 1, []) by decide +kernel) (by decide)) ?_
  refine Eq.trans (ev_add (show zcode 134 4 = some (11, 5, 0, 0, []) by decide +kernel) h1) ?_
  refine Eq.trans (ev_lda (show zcode 134 5 = some (6, 6, 0, 0, []) by decide +kernel) rfl (by decide)) ?_
  refine Eq.trans (ev_gi (show zcode 134 6 = some (55, 9, 10, 5, []) by decide +kernel) h2.o) ?_
  exact ev_cge (show zcode 134 9 = some (49, 12, 27, 0, []) by decide +kernel)
theorem b134_12 {T : zT} {V : zM} {q0 : Int} {x1 : Int} {x2 : Int} (h1 : -2147483648 ≤ (x2 + 1) ∧ (x2 + 1) ≤ 2147483647) (h2 : zYards T q0) : ev 134 12 [(2, q0), (0, x1), (0, x2)] [] T V = (zcall 41 [(2, q0), (2, q0), (0, (x2 + 1)), (0, x2)] T V).bind fun x => ev 134 21 [(2, q0), (0, x1), (0, x2)] (z_push x.1 []) x.2.1 x.2.2 := by
  refine Eq.trans (ev_lda (show zcode 134 12 = some (6, 13, 0, 0, []) by decide +kernel) rfl (by decide)) ?_
  refine Eq.trans (ev_lda (show zcode 134 13 = some (6, 14, 0, 0, []) by decide +kernel) rfl (by decide)) ?_
  refine Eq.trans (ev_ldi (show zcode 134 14 = some (4, 15, 2, 0, []) by decide +kernel) rfl) ?_
  refine Eq.trans (ev_ci (show zcode 134 15 = some (0, 16, 0, 1, []) by decide +kernel) (by decide)) ?_
  refine Eq.trans (ev_add (show zcode 134 16 = some (11, 17, 0, 0, []) by decide +kernel) h1) ?_
  refine Eq.trans (ev_ldi (show zcode 134 17 = some (4, 18, 2, 0, []) by decide +kernel) rfl) ?_
  exact ev_cvirt (show zcode 134 18 = some (76, 21, 41, 4, [10]) by decide +kernel) (args := [(2, q0), (0, (x2 + 1)), (0, x2)]) (rest := []) rfl h2.o rfl (show 0 ≤ 8 by decide) ⟨by decide, show 4 ≤ 4 by decide⟩
theorem b134_21 {T : zT} {V : zM} {q0 : Int} {x1 : Int} {x2 : Int} (h1 : -2147483648 ≤ (x2 + 1) ∧ (x2 + 1) ≤ 2147483647) : ev 134 21 [(2, q0), (0, x1), (0, x2)] [] T V = ev 134 2 [(2, q0), (0, x1), (0, (x2 + 1))] [] T V := by
  refine Eq.trans (ev_inc (show zcode 134 21 = some (10, 24, 2, 1, []) by decide +kernel) rfl h1 (Or.inr (show ¬ (0 : Nat) = 1 by decide))) ?_
  exact ev_goto (show zcode 134 24 = some (53, 27, 2, 0, []) by decide +kernel)
theorem b134_27 {T : zT} {V : zM} {q0 : Int} {x1 : Int} {x2 : Int} (h1 : zYards T q0) (h2 : -2147483648 ≤ ((V q0 5) - 1) ∧ ((V q0 5) - 1) ≤ 2147483647) : ev 134 27 [(2, q0), (0, x1), (0, x2)] [] T V = some ((9, 0), T, (zwr V q0 5 ((V q0 5) - 1))) := by
  refine Eq.trans (ev_lda (show zcode 134 27 = some (6, 28, 0, 0, []) by decide +kernel) rfl (by decide)) ?_
  refine Eq.trans (ev_dup (show zcode 134 28 = some (36, 29, 0, 0, []) by decide +kernel) (by decide)) ?_
  refine Eq.trans (ev_gi (show zcode 134 29 = some (55, 32, 10, 5, []) by decide +kernel) h1.o) ?_
  refine Eq.trans (ev_ci (show zcode 134 32 = some (0, 33, 0, 1, []) by decide +kernel) (by decide)) ?_
  refine Eq.trans (ev_sub (show zcode 134 33 = some (12, 34, 0, 0, []) by decide +kernel) h2) ?_
  refine Eq.trans (ev_pi (show zcode 134 34 = some (57, 37, 10, 5, []) by decide +kernel) h1.o) ?_
  exact ev_rn (show zcode 134 37 = some (73, 38, 0, 0, []) by decide +kernel)
/-! 136: TwoWayWall$Yards.rentOf(I)I -/
theorem e136 {T : zT} {V : zM} {q0 : Int} {x1 : Int} : zcall 136 [(2, q0), (0, x1)] T V = ev 136 0 [(2, q0), (0, x1), (9, 0), (9, 0)] [] T V := rfl
theorem b136_0 {T : zT} {V : zM} {q0 : Int} {x1 : Int} : ev 136 0 [(2, q0), (0, x1), (9, 0), (9, 0)] [] T V = ev 136 4 [(2, q0), (0, x1), (0, 0), (0, 0)] [] T V := by
  refine Eq.trans (ev_ci (show zcode 136 0 = some (0, 1, 0, 0, []) by decide +kernel) (by decide)) ?_
  refine Eq.trans (ev_sti (show zcode 136 1 = some (7, 2, 2, 0, []) by decide +kernel) ⟨show 2 < 4 by decide, Or.inr (show ¬ (0 : Nat) = 1 by decide)⟩) ?_
  refine Eq.trans (ev_ci (show zcode 136 2 = some (0, 3, 0, 0, []) by decide +kernel) (by decide)) ?_
  exact ev_sti (show zcode 136 3 = some (7, 4, 3, 0, []) by decide +kernel) ⟨show 3 < 4 by decide, Or.inr (show ¬ (0 : Nat) = 1 by decide)⟩
theorem b136_4 {T : zT} {V : zM} {q0 : Int} {x1 : Int} {x2 : Int} {x3 : Int} (h1 : zYards T q0) : ev 136 4 [(2, q0), (0, x1), (0, x2), (0, x3)] [] T V = if (V q0 5) ≤ x3 then ev 136 47 [(2, q0), (0, x1), (0, x2), (0, x3)] [] T V else ev 136 12 [(2, q0), (0, x1), (0, x2), (0, x3)] [] T V := by
  refine Eq.trans (ev_ldi (show zcode 136 4 = some (4, 5, 3, 0, []) by decide +kernel) rfl) ?_
  refine Eq.trans (ev_lda (show zcode 136 5 = some (6, 6, 0, 0, []) by decide +kernel) rfl (by decide)) ?_
  refine Eq.trans (ev_gi (show zcode 136 6 = some (55, 9, 10, 5, []) by decide +kernel) h1.o) ?_
  exact ev_cge (show zcode 136 9 = some (49, 12, 47, 0, []) by decide +kernel)
theorem b136_12 {T : zT} {V : zM} {q0 : Int} {x1 : Int} {x2 : Int} {x3 : Int} (h1 : (0 : Int) ≤ x3 ∧ x3 < 32) : ev 136 12 [(2, q0), (0, x1), (0, x2), (0, x3)] [] T V = if (zand (x1 / 2 ^ (x3).toNat) 1) = 0 then ev 136 41 [(2, q0), (0, x1), (0, x2), (0, x3)] [] T V else ev 136 20 [(2, q0), (0, x1), (0, x2), (0, x3)] [] T V := by
  refine Eq.trans (ev_ldi (show zcode 136 12 = some (4, 13, 1, 0, []) by decide +kernel) rfl) ?_
  refine Eq.trans (ev_ldi (show zcode 136 13 = some (4, 14, 3, 0, []) by decide +kernel) rfl) ?_
  refine Eq.trans (ev_shr (show zcode 136 14 = some (21, 15, 0, 0, []) by decide +kernel) h1) ?_
  refine Eq.trans (ev_ci (show zcode 136 15 = some (0, 16, 0, 1, []) by decide +kernel) (by decide)) ?_
  refine Eq.trans (ev_and (show zcode 136 16 = some (14, 17, 0, 0, []) by decide +kernel)) ?_
  exact ev_eq (show zcode 136 17 = some (40, 20, 41, 0, []) by decide +kernel)
theorem b136_20 {T : zT} {V : zM} {q0 : Int} {x1 : Int} {x2 : Int} {x3 : Int} (h1 : zYards T q0) : ev 136 20 [(2, q0), (0, x1), (0, x2), (0, x3)] [] T V = (zcall 137 [(2, q0), (0, x3)] T V).bind fun x => ev 136 25 [(2, q0), (0, x1), (0, x2), (0, x3)] (z_push x.1 []) x.2.1 x.2.2 := by
  refine Eq.trans (ev_lda (show zcode 136 20 = some (6, 21, 0, 0, []) by decide +kernel) rfl (by decide)) ?_
  refine Eq.trans (ev_ldi (show zcode 136 21 = some (4, 22, 3, 0, []) by decide +kernel) rfl) ?_
  exact ev_cvirt (show zcode 136 22 = some (76, 25, 137, 2, [10]) by decide +kernel) (args := [(0, x3)]) (rest := []) rfl h1.o rfl (show 0 ≤ 8 by decide) ⟨by decide, show 2 ≤ 4 by decide⟩
theorem b136_25 {T : zT} {V : zM} {q0 : Int} {x1 : Int} {x2 : Int} {x3 : Int} {y0 : Int} : ev 136 25 [(2, q0), (0, x1), (0, x2), (0, x3)] [(0, y0)] T V = if (zand y0 x1) = 0 then ev 136 32 [(2, q0), (0, x1), (0, x2), (0, x3)] [] T V else ev 136 30 [(2, q0), (0, x1), (0, x2), (0, x3)] [] T V := by
  refine Eq.trans (ev_ldi (show zcode 136 25 = some (4, 26, 1, 0, []) by decide +kernel) rfl) ?_
  refine Eq.trans (ev_and (show zcode 136 26 = some (14, 27, 0, 0, []) by decide +kernel)) ?_
  exact ev_eq (show zcode 136 27 = some (40, 30, 32, 0, []) by decide +kernel)
theorem b136_30 {T : zT} {V : zM} {q0 : Int} {x1 : Int} {x2 : Int} {x3 : Int} : ev 136 30 [(2, q0), (0, x1), (0, x2), (0, x3)] [] T V = some ((0, (-1)), T, V) := by
  refine Eq.trans (ev_ci (show zcode 136 30 = some (0, 31, 0, (-1), []) by decide +kernel) (by decide)) ?_
  exact ev_ri (show zcode 136 31 = some (72, 32, 0, 0, []) by decide +kernel)
theorem b136_32 {T : zT} {V : zM} {q0 : Int} {x1 : Int} {x2 : Int} {x3 : Int} (h1 : zYards T q0) (h2 : (0 : Int) ≤ x3 ∧ x3 < 10) (h3 : -2147483648 ≤ (x2 + (V (q0 + 5) x3)) ∧ (x2 + (V (q0 + 5) x3)) ≤ 2147483647) : ev 136 32 [(2, q0), (0, x1), (0, x2), (0, x3)] [] T V = ev 136 41 [(2, q0), (0, x1), (0, (x2 + (V (q0 + 5) x3))), (0, x3)] [] T V := by
  refine Eq.trans (ev_ldi (show zcode 136 32 = some (4, 33, 2, 0, []) by decide +kernel) rfl) ?_
  refine Eq.trans (ev_lda (show zcode 136 33 = some (6, 34, 0, 0, []) by decide +kernel) rfl (by decide)) ?_
  refine Eq.trans (ev_gq (show zcode 136 34 = some (56, 37, 10, 4, []) by decide +kernel) h1.o h1.p4) ?_
  refine Eq.trans (ev_ldi (show zcode 136 37 = some (4, 38, 3, 0, []) by decide +kernel) rfl) ?_
  refine Eq.trans (ev_ia (show zcode 136 38 = some (60, 39, 0, 0, []) by decide +kernel) h1.a5 h2) ?_
  refine Eq.trans (ev_add (show zcode 136 39 = some (11, 40, 0, 0, []) by decide +kernel) h3) ?_
  exact ev_sti (show zcode 136 40 = some (7, 41, 2, 0, []) by decide +kernel) ⟨show 2 < 4 by decide, Or.inr (show ¬ (0 : Nat) = 1 by decide)⟩
theorem b136_41 {T : zT} {V : zM} {q0 : Int} {x1 : Int} {x2 : Int} {x3 : Int} (h1 : -2147483648 ≤ (x3 + 1) ∧ (x3 + 1) ≤ 2147483647) : ev 136 41 [(2, q0), (0, x1), (0, x2), (0, x3)] [] T V = ev 136 4 [(2, q0), (0, x1), (0, x2), (0, (x3 + 1))] [] T V := by
  refine Eq.trans (ev_inc (show zcode 136 41 = some (10, 44, 3, 1, []) by decide +kernel) rfl h1 (Or.inr (show ¬ (0 : Nat) = 1 by decide))) ?_
  exact ev_goto (show zcode 136 44 = some (53, 47, 4, 0, []) by decide +kernel)
theorem b136_47 {T : zT} {V : zM} {q0 : Int} {x1 : Int} {x2 : Int} {x3 : Int} : ev 136 47 [(2, q0), (0, x1), (0, x2), (0, x3)] [] T V = some ((0, x2), T, V) := by
  refine Eq.trans (ev_ldi (show zcode 136 47 = some (4, 48, 2, 0, []) by decide +kernel) rfl) ?_
  exact ev_ri (show zcode 136 48 = some (72, 49, 0, 0, []) by decide +kernel)
/-! 137: TwoWayWall$Yards.clashesOf(I)I -/
theorem e137 {T : zT} {V : zM} {q0 : Int} {x1 : Int} : zcall 137 [(2, q0), (0, x1)] T V = ev 137 0 [(2, q0), (0, x1), (9, 0), (9, 0)] [] T V := rfl
theorem b137_0 {T : zT} {V : zM} {q0 : Int} {x1 : Int} : ev 137 0 [(2, q0), (0, x1), (9, 0), (9, 0)] [] T V = ev 137 4 [(2, q0), (0, x1), (0, 0), (0, 0)] [] T V := by
  refine Eq.trans (ev_ci (show zcode 137 0 = some (0, 1, 0, 0, []) by decide +kernel) (by decide)) ?_
  refine Eq.trans (ev_sti (show zcode 137 1 = some (7, 2, 2, 0, []) by decide +kernel) ⟨show 2 < 4 by decide, Or.inr (show ¬ (0 : Nat) = 1 by decide)⟩) ?_
  refine Eq.trans (ev_ci (show zcode 137 2 = some (0, 3, 0, 0, []) by decide +kernel) (by decide)) ?_
  exact ev_sti (show zcode 137 3 = some (7, 4, 3, 0, []) by decide +kernel) ⟨show 3 < 4 by decide, Or.inr (show ¬ (0 : Nat) = 1 by decide)⟩
theorem b137_4 {T : zT} {V : zM} {q0 : Int} {x1 : Int} {x2 : Int} {x3 : Int} (h1 : zYards T q0) : ev 137 4 [(2, q0), (0, x1), (0, x2), (0, x3)] [] T V = if (V q0 5) ≤ x3 then ev 137 38 [(2, q0), (0, x1), (0, x2), (0, x3)] [] T V else ev 137 12 [(2, q0), (0, x1), (0, x2), (0, x3)] [] T V := by
  refine Eq.trans (ev_ldi (show zcode 137 4 = some (4, 5, 3, 0, []) by decide +kernel) rfl) ?_
  refine Eq.trans (ev_lda (show zcode 137 5 = some (6, 6, 0, 0, []) by decide +kernel) rfl (by decide)) ?_
  refine Eq.trans (ev_gi (show zcode 137 6 = some (55, 9, 10, 5, []) by decide +kernel) h1.o) ?_
  exact ev_cge (show zcode 137 9 = some (49, 12, 38, 0, []) by decide +kernel)
theorem b137_12 {T : zT} {V : zM} {q0 : Int} {x1 : Int} {x2 : Int} {x3 : Int} : ev 137 12 [(2, q0), (0, x1), (0, x2), (0, x3)] [] T V = if x3 = x1 then ev 137 32 [(2, q0), (0, x1), (0, x2), (0, x3)] [] T V else ev 137 17 [(2, q0), (0, x1), (0, x2), (0, x3)] [] T V := by
  refine Eq.trans (ev_ldi (show zcode 137 12 = some (4, 13, 3, 0, []) by decide +kernel) rfl) ?_
  refine Eq.trans (ev_ldi (show zcode 137 13 = some (4, 14, 1, 0, []) by decide +kernel) rfl) ?_
  exact ev_ceq (show zcode 137 14 = some (46, 17, 32, 0, []) by decide +kernel)
theorem b137_17 {T : zT} {V : zM} {q0 : Int} {x1 : Int} {x2 : Int} {x3 : Int} (h1 : zYards T q0) : ev 137 17 [(2, q0), (0, x1), (0, x2), (0, x3)] [] T V = (zcall 138 [(2, q0), (0, x1), (0, x3)] T V).bind fun x => ev 137 23 [(2, q0), (0, x1), (0, x2), (0, x3)] (z_push x.1 []) x.2.1 x.2.2 := by
  refine Eq.trans (ev_lda (show zcode 137 17 = some (6, 18, 0, 0, []) by decide +kernel) rfl (by decide)) ?_
  refine Eq.trans (ev_ldi (show zcode 137 18 = some (4, 19, 1, 0, []) by decide +kernel) rfl) ?_
  refine Eq.trans (ev_ldi (show zcode 137 19 = some (4, 20, 3, 0, []) by decide +kernel) rfl) ?_
  exact ev_cvirt (show zcode 137 20 = some (76, 23, 138, 3, [10]) by decide +kernel) (args := [(0, x1), (0, x3)]) (rest := []) rfl h1.o rfl (show 0 ≤ 8 by decide) ⟨by decide, show 3 ≤ 4 by decide⟩
theorem b137_23 {T : zT} {V : zM} {q0 : Int} {x1 : Int} {x2 : Int} {x3 : Int} {y0 : Int} : ev 137 23 [(2, q0), (0, x1), (0, x2), (0, x3)] [(0, y0)] T V = if y0 = 0 then ev 137 32 [(2, q0), (0, x1), (0, x2), (0, x3)] [] T V else ev 137 26 [(2, q0), (0, x1), (0, x2), (0, x3)] [] T V := by
  exact ev_eq (show zcode 137 23 = some (40, 26, 32, 0, []) by decide +kernel)
theorem b137_26 {T : zT} {V : zM} {q0 : Int} {x1 : Int} {x2 : Int} {x3 : Int} (h1 : (0 : Int) ≤ x3 ∧ x3 ≤ 30) : ev 137 26 [(2, q0), (0, x1), (0, x2), (0, x3)] [] T V = ev 137 32 [(2, q0), (0, x1), (0, (zor x2 ((2 : Int) ^ (x3).toNat))), (0, x3)] [] T V := by
  refine Eq.trans (ev_ldi (show zcode 137 26 = some (4, 27, 2, 0, []) by decide +kernel) rfl) ?_
  refine Eq.trans (ev_ci (show zcode 137 27 = some (0, 28, 0, 1, []) by decide +kernel) (by decide)) ?_
  refine Eq.trans (ev_ldi (show zcode 137 28 = some (4, 29, 3, 0, []) by decide +kernel) rfl) ?_
  refine Eq.trans (ev_shl1 (show zcode 137 29 = some (20, 30, 0, 0, []) by decide +kernel) h1) ?_
  refine Eq.trans (ev_or (show zcode 137 30 = some (15, 31, 0, 0, []) by decide +kernel)) ?_
  exact ev_sti (show zcode 137 31 = some (7, 32, 2, 0, []) by decide +kernel) ⟨show 2 < 4 by decide, Or.inr (show ¬ (0 : Nat) = 1 by decide)⟩
theorem b137_32 {T : zT} {V : zM} {q0 : Int} {x1 : Int} {x2 : Int} {x3 : Int} (h1 : -2147483648 ≤ (x3 + 1) ∧ (x3 + 1) ≤ 2147483647) : ev 137 32 [(2, q0), (0, x1), (0, x2), (0, x3)] [] T V = ev 137 4 [(2, q0), (0, x1), (0, x2), (0, (x3 + 1))] [] T V := by
  refine Eq.trans (ev_inc (show zcode 137 32 = some (10, 35, 3, 1, []) by decide +kernel) rfl h1 (Or.inr (show ¬ (0 : Nat) = 1 by decide))) ?_
  exact ev_goto (show zcode 137 35 = some (53, 38, 4, 0, []) by decide +kernel)
theorem b137_38 {T : zT} {V : zM} {q0 : Int} {x1 : Int} {x2 : Int} {x3 : Int} : ev 137 38 [(2, q0), (0, x1), (0, x2), (0, x3)] [] T V = some ((0, x2), T, V) := by
  refine Eq.trans (ev_ldi (show zcode 137 38 = some (4, 39, 2, 0, []) by decide +kernel) rfl) ?_
  exact ev_ri (show zcode 137 39 = some (72, 40, 0, 0, []) by decide +kernel)
/-! 138: TwoWayWall$Yards.clash(II)Z -/
theorem e138 {T : zT} {V : zM} {q0 : Int} {x1 : Int} {x2 : Int} : zcall 138 [(2, q0), (0, x1), (0, x2)] T V = ev 138 0 [(2, q0), (0, x1), (0, x2), (9, 0)] [] T V := rfl
theorem b138_0 {T : zT} {V : zM} {q0 : Int} {x1 : Int} {x2 : Int} (h1 : zYards T q0) (h2 : (0 : Int) ≤ x1 ∧ x1 < 10) (h3 : (0 : Int) ≤ x2 ∧ x2 < 10) : ev 138 0 [(2, q0), (0, x1), (0, x2), (9, 0)] [] T V = if (V (q0 + 2) x2) < (V (q0 + 1) x1) then ev 138 34 [(2, q0), (0, x1), (0, x2), (9, 0)] [] T V else ev 138 15 [(2, q0), (0, x1), (0, x2), (9, 0)] [] T V := by
  refine Eq.trans (ev_lda (show zcode 138 0 = some (6, 1, 0, 0, []) by decide +kernel) rfl (by decide)) ?_
  refine Eq.trans (ev_gq (show zcode 138 1 = some (56, 4, 10, 0, []) by decide +kernel) h1.o h1.p0) ?_
  refine Eq.trans (ev_ldi (show zcode 138 4 = some (4, 5, 1, 0, []) by decide +kernel) rfl) ?_
  refine Eq.trans (ev_ia (show zcode 138 5 = some (60, 6, 0, 0, []) by decide +kernel) h1.a1 h2) ?_
  refine Eq.trans (ev_lda (show zcode 138 6 = some (6, 7, 0, 0, []) by decide +kernel) rfl (by decide)) ?_
  refine Eq.trans (ev_gq (show zcode 138 7 = some (56, 10, 10, 1, []) by decide +kernel) h1.o h1.p1) ?_
  refine Eq.trans (ev_ldi (show zcode 138 10 = some (4, 11, 2, 0, []) by decide +kernel) rfl) ?_
  refine Eq.trans (ev_ia (show zcode 138 11 = some (60, 12, 0, 0, []) by decide +kernel) h1.a2 h3) ?_
  exact ev_cgt (show zcode 138 12 = some (50, 15, 34, 0, []) by decide +kernel)
theorem b138_15 {T : zT} {V : zM} {q0 : Int} {x1 : Int} {x2 : Int} (h1 : zYards T q0) (h2 : (0 : Int) ≤ x2 ∧ x2 < 10) (h3 : (0 : Int) ≤ x1 ∧ x1 < 10) : ev 138 15 [(2, q0), (0, x1), (0, x2), (9, 0)] [] T V = if (V (q0 + 2) x1) < (V (q0 + 1) x2) then ev 138 34 [(2, q0), (0, x1), (0, x2), (9, 0)] [] T V else ev 138 30 [(2, q0), (0, x1), (0, x2), (9, 0)] [] T V := by
  refine Eq.trans (ev_lda (show zcode 138 15 = some (6, 16, 0, 0, []) by decide +kernel) rfl (by decide)) ?_
  refine Eq.trans (ev_gq (show zcode 138 16 = some (56, 19, 10, 0, []) by decide +kernel) h1.o h1.p0) ?_
  refine Eq.trans (ev_ldi (show zcode 138 19 = some (4, 20, 2, 0, []) by decide +kernel) rfl) ?_
  refine Eq.trans (ev_ia (show zcode 138 20 = some (60, 21, 0, 0, []) by decide +kernel) h1.a1 h2) ?_
  refine Eq.trans (ev_lda (show zcode 138 21 = some (6, 22, 0, 0, []) by decide +kernel) rfl (by decide)) ?_
  refine Eq.trans (ev_gq (show zcode 138 22 = some (56, 25, 10, 1, []) by decide +kernel) h1.o h1.p1) ?_
  refine Eq.trans (ev_ldi (show zcode 138 25 = some (4, 26, 1, 0, []) by decide +kernel) rfl) ?_
  refine Eq.trans (ev_ia (show zcode 138 26 = some (60, 27, 0, 0, []) by decide +kernel) h1.a2 h3) ?_
  exact ev_cgt (show zcode 138 27 = some (50, 30, 34, 0, []) by decide +kernel)
theorem b138_30 {T : zT} {V : zM} {q0 : Int} {x1 : Int} {x2 : Int} : ev 138 30 [(2, q0), (0, x1), (0, x2), (9, 0)] [] T V = ev 138 35 [(2, q0), (0, x1), (0, x2), (9, 0)] [(0, 1)] T V := by
  refine Eq.trans (ev_ci (show zcode 138 30 = some (0, 31, 0, 1, []) by decide +kernel) (by decide)) ?_
  exact ev_goto (show zcode 138 31 = some (53, 34, 35, 0, []) by decide +kernel)
theorem b138_34 {T : zT} {V : zM} {q0 : Int} {x1 : Int} {x2 : Int} : ev 138 34 [(2, q0), (0, x1), (0, x2), (9, 0)] [] T V = ev 138 35 [(2, q0), (0, x1), (0, x2), (9, 0)] [(0, 0)] T V := by
  exact ev_ci (show zcode 138 34 = some (0, 35, 0, 0, []) by decide +kernel) (by decide)
theorem b138_35 {T : zT} {V : zM} {q0 : Int} {x1 : Int} {x2 : Int} {y0 : Int} : ev 138 35 [(2, q0), (0, x1), (0, x2), (9, 0)] [(0, y0)] T V = if y0 = 0 then ev 138 74 [(2, q0), (0, x1), (0, x2), (0, y0)] [] T V else ev 138 40 [(2, q0), (0, x1), (0, x2), (0, y0)] [] T V := by
  refine Eq.trans (ev_sti (show zcode 138 35 = some (7, 36, 3, 0, []) by decide +kernel) ⟨show 3 < 4 by decide, Or.inr (show ¬ (0 : Nat) = 1 by decide)⟩) ?_
  refine Eq.trans (ev_ldi (show zcode 138 36 = some (4, 37, 3, 0, []) by decide +kernel) rfl) ?_
  exact ev_eq (show zcode 138 37 = some (40, 40, 74, 0, []) by decide +kernel)
theorem b138_40 {T : zT} {V : zM} {q0 : Int} {x1 : Int} {x2 : Int} {x3 : Int} (h1 : zYards T q0) (h2 : (0 : Int) ≤ x1 ∧ x1 < 10) (h3 : (0 : Int) ≤ x2 ∧ x2 < 10) : ev 138 40 [(2, q0), (0, x1), (0, x2), (0, x3)] [] T V = if (V (q0 + 4) x2) < (V (q0 + 3) x1) then ev 138 74 [(2, q0), (0, x1), (0, x2), (0, x3)] [] T V else ev 138 55 [(2, q0), (0, x1), (0, x2), (0, x3)] [] T V := by
  refine Eq.trans (ev_lda (show zcode 138 40 = some (6, 41, 0, 0, []) by decide +kernel) rfl (by decide)) ?_
  refine Eq.trans (ev_gq (show zcode 138 41 = some (56, 44, 10, 2, []) by decide +kernel) h1.o h1.p2) ?_
  refine Eq.trans (ev_ldi (show zcode 138 44 = some (4, 45, 1, 0, []) by decide +kernel) rfl) ?_
  refine Eq.trans (ev_ia (show zcode 138 45 = some (60, 46, 0, 0, []) by decide +kernel) h1.a3 h2) ?_
  refine Eq.trans (ev_lda (show zcode 138 46 = some (6, 47, 0, 0, []) by decide +kernel) rfl (by decide)) ?_
  refine Eq.trans (ev_gq (show zcode 138 47 = some (56, 50, 10, 3, []) by decide +kernel) h1.o h1.p3) ?_
  refine Eq.trans (ev_ldi (show zcode 138 50 = some (4, 51, 2, 0, []) by decide +kernel) rfl) ?_
  refine Eq.trans (ev_ia (show zcode 138 51 = some (60, 52, 0, 0, []) by decide +kernel) h1.a4 h3) ?_
  exact ev_cgt (show zcode 138 52 = some (50, 55, 74, 0, []) by decide +kernel)
theorem b138_55 {T : zT} {V : zM} {q0 : Int} {x1 : Int} {x2 : Int} {x3 : Int} (h1 : zYards T q0) (h2 : (0 : Int) ≤ x2 ∧ x2 < 10) (h3 : (0 : Int) ≤ x1 ∧ x1 < 10) : ev 138 55 [(2, q0), (0, x1), (0, x2), (0, x3)] [] T V = if (V (q0 + 4) x1) < (V (q0 + 3) x2) then ev 138 74 [(2, q0), (0, x1), (0, x2), (0, x3)] [] T V else ev 138 70 [(2, q0), (0, x1), (0, x2), (0, x3)] [] T V := by
  refine Eq.trans (ev_lda (show zcode 138 55 = some (6, 56, 0, 0, []) by decide +kernel) rfl (by decide)) ?_
  refine Eq.trans (ev_gq (show zcode 138 56 = some (56, 59, 10, 2, []) by decide +kernel) h1.o h1.p2) ?_
  refine Eq.trans (ev_ldi (show zcode 138 59 = some (4, 60, 2, 0, []) by decide +kernel) rfl) ?_
  refine Eq.trans (ev_ia (show zcode 138 60 = some (60, 61, 0, 0, []) by decide +kernel) h1.a3 h2) ?_
  refine Eq.trans (ev_lda (show zcode 138 61 = some (6, 62, 0, 0, []) by decide +kernel) rfl (by decide)) ?_
  refine Eq.trans (ev_gq (show zcode 138 62 = some (56, 65, 10, 3, []) by decide +kernel) h1.o h1.p3) ?_
  refine Eq.trans (ev_ldi (show zcode 138 65 = some (4, 66, 1, 0, []) by decide +kernel) rfl) ?_
  refine Eq.trans (ev_ia (show zcode 138 66 = some (60, 67, 0, 0, []) by decide +kernel) h1.a4 h3) ?_
  exact ev_cgt (show zcode 138 67 = some (50, 70, 74, 0, []) by decide +kernel)
theorem b138_70 {T : zT} {V : zM} {q0 : Int} {x1 : Int} {x2 : Int} {x3 : Int} : ev 138 70 [(2, q0), (0, x1), (0, x2), (0, x3)] [] T V = ev 138 75 [(2, q0), (0, x1), (0, x2), (0, x3)] [(0, 1)] T V := by
  refine Eq.trans (ev_ci (show zcode 138 70 = some (0, 71, 0, 1, []) by decide +kernel) (by decide)) ?_
  exact ev_goto (show zcode 138 71 = some (53, 74, 75, 0, []) by decide +kernel)
theorem b138_74 {T : zT} {V : zM} {q0 : Int} {x1 : Int} {x2 : Int} {x3 : Int} : ev 138 74 [(2, q0), (0, x1), (0, x2), (0, x3)] [] T V = ev 138 75 [(2, q0), (0, x1), (0, x2), (0, x3)] [(0, 0)] T V := by
  exact ev_ci (show zcode 138 74 = some (0, 75, 0, 0, []) by decide +kernel) (by decide)
theorem b138_75 {T : zT} {V : zM} {q0 : Int} {x1 : Int} {x2 : Int} {x3 : Int} {y0 : Int} (h1 : (0 : Int) ≤ y0 ∧ y0 ≤ 1) : ev 138 75 [(2, q0), (0, x1), (0, x2), (0, x3)] [(0, y0)] T V = some ((0, y0), T, V) := by
  exact ev_rz (show zcode 138 75 = some (72, 76, 3, 0, []) by decide +kernel) h1
/-! 140: TwoWayWall$Yards.listRents([I)V -/
theorem e140 {T : zT} {V : zM} {q0 : Int} {q1 : Int} : zcall 140 [(2, q0), (2, q1)] T V = ev 140 0 [(2, q0), (2, q1), (9, 0), (9, 0), (9, 0), (9, 0), (9, 0)] [] T V := rfl
theorem b140_0 {T : zT} {V : zM} {q0 : Int} {q1 : Int} {n1 : Int} (h1 : zAr T q1 0 n1) (h2 : (0 : Int) ≤ 0 ∧ 0 < n1) : ev 140 0 [(2, q0), (2, q1), (9, 0), (9, 0), (9, 0), (9, 0), (9, 0)] [] T V = ev 140 6 [(2, q0), (2, q1), (0, 0), (9, 0), (9, 0), (9, 0), (9, 0)] [] T (zwr V q1 0 0) := by
  refine Eq.trans (ev_lda (show zcode 140 0 = some (6, 1, 1, 0, []) by decide +kernel) rfl (by decide)) ?_
  refine Eq.trans (ev_ci (show zcode 140 1 = some (0, 2, 0, 0, []) by decide +kernel) (by decide)) ?_
  refine Eq.trans (ev_ci (show zcode 140 2 = some (0, 3, 0, 0, []) by decide +kernel) (by decide)) ?_
  refine Eq.trans (ev_is (show zcode 140 3 = some (64, 4, 0, 0, []) by decide +kernel) h1 h2) ?_
  refine Eq.trans (ev_ci (show zcode 140 4 = some (0, 5, 0, 0, []) by decide +kernel) (by decide)) ?_
  exact ev_sti (show zcode 140 5 = some (7, 6, 2, 0, []) by decide +kernel) ⟨show 2 < 7 by decide, Or.inr (show ¬ (2 : Nat) = 1 by decide)⟩
theorem b140_6 {T : zT} {V : zM} {q0 : Int} {q1 : Int} {x2 : Int} {v3 : zV} {v4 : zV} {v5 : zV} {v6 : zV} (h1 : zYards T q0) : ev 140 6 [(2, q0), (2, q1), (0, x2), v3, v4, v5, v6] [] T V = if (V q0 5) ≤ x2 then ev 140 96 [(2, q0), (2, q1), (0, x2), v3, v4, v5, v6] [] T V else ev 140 14 [(2, q0), (2, q1), (0, x2), v3, v4, v5, v6] [] T V := by
  refine Eq.trans (ev_ldi (show zcode 140 6 = some (4, 7, 2, 0, []) by decide +kernel) rfl) ?_
  refine Eq.trans (ev_lda (show zcode 140 7 = some (6, 8, 0, 0, []) by decide +kernel) rfl (by decide)) ?_
  refine Eq.trans (ev_gi (show zcode 140 8 = some (55, 11, 10, 5, []) by decide +kernel) h1.o) ?_
  exact ev_cge (show zcode 140 11 = some (49, 14, 96, 0, []) by decide +kernel)
theorem b140_14 {T : zT} {V : zM} {q0 : Int} {q1 : Int} {x2 : Int} {v3 : zV} {v4 : zV} {v5 : zV} {v6 : zV} (h1 : zYards T q0) : ev 140 14 [(2, q0), (2, q1), (0, x2), v3, v4, v5, v6] [] T V = (zcall 137 [(2, q0), (0, x2)] T V).bind fun x => ev 140 19 [(2, q0), (2, q1), (0, x2), v3, v4, v5, v6] (z_push x.1 []) x.2.1 x.2.2 := by
  refine Eq.trans (ev_lda (show zcode 140 14 = some (6, 15, 0, 0, []) by decide +kernel) rfl (by decide)) ?_
  refine Eq.trans (ev_ldi (show zcode 140 15 = some (4, 16, 2, 0, []) by decide +kernel) rfl) ?_
  exact ev_cvirt (show zcode 140 16 = some (76, 19, 137, 2, [10]) by decide +kernel) (args := [(0, x2)]) (rest := []) rfl h1.o rfl (show 0 ≤ 8 by decide) ⟨by decide, show 2 ≤ 4 by decide⟩
theorem b140_19 {T : zT} {V : zM} {q0 : Int} {q1 : Int} {x2 : Int} {v3 : zV} {v4 : zV} {v5 : zV} {v6 : zV} {y0 : Int} (h1 : (0 : Int) ≤ x2 ∧ x2 ≤ 30) : ev 140 19 [(2, q0), (2, q1), (0, x2), v3, v4, v5, v6] [(0, y0)] T V = ev 140 28 [(2, q0), (2, q1), (0, x2), (0, y0), (0, ((2 : Int) ^ (x2).toNat)), (0, 0), v6] [] T V := by
  refine Eq.trans (ev_sti (show zcode 140 19 = some (7, 20, 3, 0, []) by decide +kernel) ⟨show 3 < 7 by decide, Or.inr (show ¬ (0 : Nat) = 1 by decide)⟩) ?_
  refine Eq.trans (ev_ci (show zcode 140 20 = some (0, 21, 0, 1, []) by decide +kernel) (by decide)) ?_
  refine Eq.trans (ev_ldi (show zcode 140 21 = some (4, 22, 2, 0, []) by decide +kernel) rfl) ?_
  refine Eq.trans (ev_shl1 (show zcode 140 22 = some (20, 23, 0, 0, []) by decide +kernel) h1) ?_
  refine Eq.trans (ev_sti (show zcode 140 23 = some (7, 25, 4, 0, []) by decide +kernel) ⟨show 4 < 7 by decide, Or.inr (show ¬ (0 : Nat) = 1 by decide)⟩) ?_
  refine Eq.trans (ev_ci (show zcode 140 25 = some (0, 26, 0, 0, []) by decide +kernel) (by decide)) ?_
  exact ev_sti (show zcode 140 26 = some (7, 28, 5, 0, []) by decide +kernel) ⟨show 5 < 7 by decide, Or.inr (show ¬ (0 : Nat) = 1 by decide)⟩
theorem b140_28 {T : zT} {V : zM} {q0 : Int} {q1 : Int} {x2 : Int} {x3 : Int} {x4 : Int} {x5 : Int} {v6 : zV} : ev 140 28 [(2, q0), (2, q1), (0, x2), (0, x3), (0, x4), (0, x5), v6] [] T V = if x4 ≤ x5 then ev 140 90 [(2, q0), (2, q1), (0, x2), (0, x3), (0, x4), (0, x5), v6] [] T V else ev 140 35 [(2, q0), (2, q1), (0, x2), (0, x3), (0, x4), (0, x5), v6] [] T V := by
  refine Eq.trans (ev_ldi (show zcode 140 28 = some (4, 30, 5, 0, []) by decide +kernel) rfl) ?_
  refine Eq.trans (ev_ldi (show zcode 140 30 = some (4, 32, 4, 0, []) by decide +kernel) rfl) ?_
  exact ev_cge (show zcode 140 32 = some (49, 35, 90, 0, []) by decide +kernel)
theorem b140_35 {T : zT} {V : zM} {q0 : Int} {q1 : Int} {x2 : Int} {x3 : Int} {x4 : Int} {x5 : Int} {v6 : zV} {n1 : Int} (h1 : zAr T q1 0 n1) (h2 : (0 : Int) ≤ x5 ∧ x5 < n1) : ev 140 35 [(2, q0), (2, q1), (0, x2), (0, x3), (0, x4), (0, x5), v6] [] T V = if (V q1 x5) = (-1) then ev 140 54 [(2, q0), (2, q1), (0, x2), (0, x3), (0, x4), (0, x5), v6] [] T V else ev 140 43 [(2, q0), (2, q1), (0, x2), (0, x3), (0, x4), (0, x5), v6] [] T V := by
  refine Eq.trans (ev_lda (show zcode 140 35 = some (6, 36, 1, 0, []) by decide +kernel) rfl (by decide)) ?_
  refine Eq.trans (ev_ldi (show zcode 140 36 = some (4, 38, 5, 0, []) by decide +kernel) rfl) ?_
  refine Eq.trans (ev_ia (show zcode 140 38 = some (60, 39, 0, 0, []) by decide +kernel) h1 h2) ?_
  refine Eq.trans (ev_ci (show zcode 140 39 = some (0, 40, 0, (-1), []) by decide +kernel) (by decide)) ?_
  exact ev_ceq (show zcode 140 40 = some (46, 43, 54, 0, []) by decide +kernel)
theorem b140_43 {T : zT} {V : zM} {q0 : Int} {q1 : Int} {x2 : Int} {x3 : Int} {x4 : Int} {x5 : Int} {v6 : zV} : ev 140 43 [(2, q0), (2, q1), (0, x2), (0, x3), (0, x4), (0, x5), v6] [] T V = if (zand x5 x3) = 0 then ev 140 50 [(2, q0), (2, q1), (0, x2), (0, x3), (0, x4), (0, x5), v6] [] T V else ev 140 54 [(2, q0), (2, q1), (0, x2), (0, x3), (0, x4), (0, x5), v6] [] T V := by
  refine Eq.trans (ev_ldi (show zcode 140 43 = some (4, 45, 5, 0, []) by decide +kernel) rfl) ?_
  refine Eq.trans (ev_ldi (show zcode 140 45 = some (4, 46, 3, 0, []) by decide +kernel) rfl) ?_
  refine Eq.trans (ev_and (show zcode 140 46 = some (14, 47, 0, 0, []) by decide +kernel)) ?_
  exact ev_ne (show zcode 140 47 = some (41, 50, 54, 0, []) by decide +kernel)
theorem b140_50 {T : zT} {V : zM} {q0 : Int} {q1 : Int} {x2 : Int} {x3 : Int} {x4 : Int} {x5 : Int} {v6 : zV} : ev 140 50 [(2, q0), (2, q1), (0, x2), (0, x3), (0, x4), (0, x5), v6] [] T V = ev 140 55 [(2, q0), (2, q1), (0, x2), (0, x3), (0, x4), (0, x5), v6] [(0, 1)] T V := by
  refine Eq.trans (ev_ci (show zcode 140 50 = some (0, 51, 0, 1, []) by decide +kernel) (by decide)) ?_
  exact ev_goto (show zcode 140 51 = some (53, 54, 55, 0, []) by decide +kernel)
theorem b140_54 {T : zT} {V : zM} {q0 : Int} {q1 : Int} {x2 : Int} {x3 : Int} {x4 : Int} {x5 : Int} {v6 : zV} : ev 140 54 [(2, q0), (2, q1), (0, x2), (0, x3), (0, x4), (0, x5), v6] [] T V = ev 140 55 [(2, q0), (2, q1), (0, x2), (0, x3), (0, x4), (0, x5), v6] [(0, 0)] T V := by
  exact ev_ci (show zcode 140 54 = some (0, 55, 0, 0, []) by decide +kernel) (by decide)
theorem b140_55 {T : zT} {V : zM} {q0 : Int} {q1 : Int} {x2 : Int} {x3 : Int} {x4 : Int} {x5 : Int} {v6 : zV} {y0 : Int} (h1 : -2147483648 ≤ (x4 + x5) ∧ (x4 + x5) ≤ 2147483647) : ev 140 55 [(2, q0), (2, q1), (0, x2), (0, x3), (0, x4), (0, x5), v6] [(0, y0)] T V = if y0 = 0 then ev 140 82 [(2, q0), (2, q1), (0, x2), (0, x3), (0, x4), (0, x5), (0, y0)] [(0, (x4 + x5)), (2, q1)] T V else ev 140 68 [(2, q0), (2, q1), (0, x2), (0, x3), (0, x4), (0, x5), (0, y0)] [(0, (x4 + x5)), (2, q1)] T V := by
  refine Eq.trans (ev_sti (show zcode 140 55 = some (7, 57, 6, 0, []) by decide +kernel) ⟨show 6 < 7 by decide, Or.inr (show ¬ (0 : Nat) = 1 by decide)⟩) ?_
  refine Eq.trans (ev_lda (show zcode 140 57 = some (6, 58, 1, 0, []) by decide +kernel) rfl (by decide)) ?_
  refine Eq.trans (ev_ldi (show zcode 140 58 = some (4, 60, 4, 0, []) by decide +kernel) rfl) ?_
  refine Eq.trans (ev_ldi (show zcode 140 60 = some (4, 62, 5, 0, []) by decide +kernel) rfl) ?_
  refine Eq.trans (ev_add (show zcode 140 62 = some (11, 63, 0, 0, []) by decide +kernel) h1) ?_
  refine Eq.trans (ev_ldi (show zcode 140 63 = some (4, 65, 6, 0, []) by decide +kernel) rfl) ?_
  exact ev_eq (show zcode 140 65 = some (40, 68, 82, 0, []) by decide +kernel)
theorem b140_68 {T : zT} {V : zM} {q0 : Int} {q1 : Int} {x2 : Int} {x3 : Int} {x4 : Int} {x5 : Int} {x6 : Int} {p0 : Int} {y1 : Int} {n1 : Int} (h1 : zAr T q1 0 n1) (h2 : (0 : Int) ≤ x5 ∧ x5 < n1) (h3 : zYards T q0) (h4 : (0 : Int) ≤ x2 ∧ x2 < 10) (h5 : -2147483648 ≤ ((V q1 x5) + (V (q0 + 5) x2)) ∧ ((V q1 x5) + (V (q0 + 5) x2)) ≤ 2147483647) : ev 140 68 [(2, q0), (2, q1), (0, x2), (0, x3), (0, x4), (0, x5), (0, x6)] [(0, y1), (2, p0)] T V = ev 140 83 [(2, q0), (2, q1), (0, x2), (0, x3), (0, x4), (0, x5), (0, x6)] [(0, ((V q1 x5) + (V (q0 + 5) x2))), (0, y1), (2, p0)] T V := by
  refine Eq.trans (ev_lda (show zcode 140 68 = some (6, 69, 1, 0, []) by decide +kernel) rfl (by decide)) ?_
  refine Eq.trans (ev_ldi (show zcode 140 69 = some (4, 71, 5, 0, []) by decide +kernel) rfl) ?_
  refine Eq.trans (ev_ia (show zcode 140 71 = some (60, 72, 0, 0, []) by decide +kernel) h1 h2) ?_
  refine Eq.trans (ev_lda (show zcode 140 72 = some (6, 73, 0, 0, []) by decide +kernel) rfl (by decide)) ?_
  refine Eq.trans (ev_gq (show zcode 140 73 = some (56, 76, 10, 4, []) by decide +kernel) h3.o h3.p4) ?_
  refine Eq.trans (ev_ldi (show zcode 140 76 = some (4, 77, 2, 0, []) by decide +kernel) rfl) ?_
  refine Eq.trans (ev_ia (show zcode 140 77 = some (60, 78, 0, 0, []) by decide +kernel) h3.a5 h4) ?_
  refine Eq.trans (ev_add (show zcode 140 78 = some (11, 79, 0, 0, []) by decide +kernel) h5) ?_
  exact ev_goto (show zcode 140 79 = some (53, 82, 83, 0, []) by decide +kernel)
theorem b140_82 {T : zT} {V : zM} {q0 : Int} {q1 : Int} {x2 : Int} {x3 : Int} {x4 : Int} {x5 : Int} {x6 : Int} {p0 : Int} {y1 : Int} : ev 140 82 [(2, q0), (2, q1), (0, x2), (0, x3), (0, x4), (0, x5), (0, x6)] [(0, y1), (2, p0)] T V = ev 140 83 [(2, q0), (2, q1), (0, x2), (0, x3), (0, x4), (0, x5), (0, x6)] [(0, (-1)), (0, y1), (2, p0)] T V := by
  exact ev_ci (show zcode 140 82 = some (0, 83, 0, (-1), []) by decide +kernel) (by decide)
theorem b140_83 {T : zT} {V : zM} {q0 : Int} {q1 : Int} {x2 : Int} {x3 : Int} {x4 : Int} {x5 : Int} {x6 : Int} {p0 : Int} {y1 : Int} {y2 : Int} {n1 : Int} (h1 : zAr T p0 0 n1) (h2 : (0 : Int) ≤ y1 ∧ y1 < n1) (h3 : -2147483648 ≤ (x5 + 1) ∧ (x5 + 1) ≤ 2147483647) : ev 140 83 [(2, q0), (2, q1), (0, x2), (0, x3), (0, x4), (0, x5), (0, x6)] [(0, y2), (0, y1), (2, p0)] T V = ev 140 28 [(2, q0), (2, q1), (0, x2), (0, x3), (0, x4), (0, (x5 + 1)), (0, x6)] [] T (zwr V p0 y1 y2) := by
  refine Eq.trans (ev_is (show zcode 140 83 = some (64, 84, 0, 0, []) by decide +kernel) h1 h2) ?_
  refine Eq.trans (ev_inc (show zcode 140 84 = some (10, 87, 5, 1, []) by decide +kernel) rfl h3 (Or.inr (show ¬ (0 : Nat) = 1 by decide))) ?_
  exact ev_goto (show zcode 140 87 = some (53, 90, 28, 0, []) by decide +kernel)
theorem b140_90 {T : zT} {V : zM} {q0 : Int} {q1 : Int} {x2 : Int} {x3 : Int} {x4 : Int} {x5 : Int} {v6 : zV} (h1 : -2147483648 ≤ (x2 + 1) ∧ (x2 + 1) ≤ 2147483647) : ev 140 90 [(2, q0), (2, q1), (0, x2), (0, x3), (0, x4), (0, x5), v6] [] T V = ev 140 6 [(2, q0), (2, q1), (0, (x2 + 1)), (0, x3), (0, x4), (0, x5), v6] [] T V := by
  refine Eq.trans (ev_inc (show zcode 140 90 = some (10, 93, 2, 1, []) by decide +kernel) rfl h1 (Or.inr (show ¬ (2 : Nat) = 1 by decide))) ?_
  exact ev_goto (show zcode 140 93 = some (53, 96, 6, 0, []) by decide +kernel)
theorem b140_96 {T : zT} {V : zM} {q0 : Int} {q1 : Int} {x2 : Int} {v3 : zV} {v4 : zV} {v5 : zV} {v6 : zV} : ev 140 96 [(2, q0), (2, q1), (0, x2), v3, v4, v5, v6] [] T V = some ((9, 0), T, V) := by
  exact ev_rn (show zcode 140 96 = some (73, 97, 0, 0, []) by decide +kernel)
/-! 142: TwoWayWall$State.wash(II)I -/
theorem e142 {T : zT} {V : zM} {q0 : Int} {x1 : Int} {x2 : Int} : zcall 142 [(2, q0), (0, x1), (0, x2)] T V = ev 142 0 [(2, q0), (0, x1), (0, x2), (9, 0), (9, 0), (9, 0), (9, 0), (9, 0)] [] T V := rfl
theorem b142_0 {T : zT} {V : zM} {q0 : Int} {x1 : Int} {x2 : Int} : ev 142 0 [(2, q0), (0, x1), (0, x2), (9, 0), (9, 0), (9, 0), (9, 0), (9, 0)] [] T V = ev 142 9 [(2, q0), (0, x1), (0, x2), (1, x1), (9, 0), (0, 0), (0, 0), (9, 0)] [] T V := by
  refine Eq.trans (ev_ldi (show zcode 142 0 = some (4, 1, 1, 0, []) by decide +kernel) rfl) ?_
  refine Eq.trans (ev_i2l (show zcode 142 1 = some (32, 2, 0, 0, []) by decide +kernel)) ?_
  refine Eq.trans (ev_stl (show zcode 142 2 = some (8, 3, 3, 0, []) by decide +kernel) ⟨show 4 < 8 by decide, Or.inr (show ¬ (0 : Nat) = 1 by decide)⟩) ?_
  refine Eq.trans (ev_ci (show zcode 142 3 = some (0, 4, 0, 0, []) by decide +kernel) (by decide)) ?_
  refine Eq.trans (ev_sti (show zcode 142 4 = some (7, 6, 5, 0, []) by decide +kernel) ⟨show 5 < 8 by decide, Or.inr (show ¬ (9 : Nat) = 1 by decide)⟩) ?_
  refine Eq.trans (ev_ci (show zcode 142 6 = some (0, 7, 0, 0, []) by decide +kernel) (by decide)) ?_
  exact ev_sti (show zcode 142 7 = some (7, 9, 6, 0, []) by decide +kernel) ⟨show 6 < 8 by decide, Or.inr (show ¬ (0 : Nat) = 1 by decide)⟩
theorem b142_9 {T : zT} {V : zM} {q0 : Int} {x1 : Int} {x2 : Int} {x3 : Int} {x5 : Int} {x6 : Int} {v7 : zV} (h1 : zState T q0) : ev 142 9 [(2, q0), (0, x1), (0, x2), (1, x3), (9, 0), (0, x5), (0, x6), v7] [] T V = if (V q0 0) ≤ x6 then ev 142 99 [(2, q0), (0, x1), (0, x2), (1, x3), (9, 0), (0, x5), (0, x6), v7] [] T V else ev 142 18 [(2, q0), (0, x1), (0, x2), (1, x3), (9, 0), (0, x5), (0, x6), v7] [] T V := by
  refine Eq.trans (ev_ldi (show zcode 142 9 = some (4, 11, 6, 0, []) by decide +kernel) rfl) ?_
  refine Eq.trans (ev_lda (show zcode 142 11 = some (6, 12, 0, 0, []) by decide +kernel) rfl (by decide)) ?_
  refine Eq.trans (ev_gi (show zcode 142 12 = some (55, 15, 6, 0, []) by decide +kernel) h1.o) ?_
  exact ev_cge (show zcode 142 15 = some (49, 18, 99, 0, []) by decide +kernel)
theorem b142_18 {T : zT} {V : zM} {q0 : Int} {x1 : Int} {x2 : Int} {x3 : Int} {x5 : Int} {x6 : Int} {v7 : zV} : ev 142 18 [(2, q0), (0, x1), (0, x2), (1, x3), (9, 0), (0, x5), (0, x6), v7] [] T V = ev 142 21 [(2, q0), (0, x1), (0, x2), (1, x3), (9, 0), (0, x5), (0, x6), (0, 0)] [] T V := by
  refine Eq.trans (ev_ci (show zcode 142 18 = some (0, 19, 0, 0, []) by decide +kernel) (by decide)) ?_
  exact ev_sti (show zcode 142 19 = some (7, 21, 7, 0, []) by decide +kernel) ⟨show 7 < 8 by decide, Or.inr (show ¬ (0 : Nat) = 1 by decide)⟩
theorem b142_21 {T : zT} {V : zM} {q0 : Int} {x1 : Int} {x2 : Int} {x3 : Int} {x5 : Int} {x6 : Int} {x7 : Int} : ev 142 21 [(2, q0), (0, x1), (0, x2), (1, x3), (9, 0), (0, x5), (0, x6), (0, x7)] [] T V = if 7 ≤ x7 then ev 142 93 [(2, q0), (0, x1), (0, x2), (1, x3), (9, 0), (0, x5), (0, x6), (0, x7)] [] T V else ev 142 28 [(2, q0), (0, x1), (0, x2), (1, x3), (9, 0), (0, x5), (0, x6), (0, x7)] [] T V := by
  refine Eq.trans (ev_ldi (show zcode 142 21 = some (4, 23, 7, 0, []) by decide +kernel) rfl) ?_
  refine Eq.trans (ev_ci (show zcode 142 23 = some (0, 25, 0, 7, []) by decide +kernel) (by decide)) ?_
  exact ev_cge (show zcode 142 25 = some (49, 28, 93, 0, []) by decide +kernel)
theorem b142_28 {T : zT} {V : zM} {q0 : Int} {x1 : Int} {x2 : Int} {x3 : Int} {x5 : Int} {x6 : Int} {x7 : Int} (h1 : zState T q0) (h2 : (0 : Int) ≤ x6 ∧ x6 < 16) (h3 : (0 : Int) ≤ x7 ∧ x7 < 32) : ev 142 28 [(2, q0), (0, x1), (0, x2), (1, x3), (9, 0), (0, x5), (0, x6), (0, x7)] [] T V = if (zand ((V (q0 + 1) x6) / 2 ^ (x7).toNat) 1) = 0 then ev 142 87 [(2, q0), (0, x1), (0, x2), (1, x3), (9, 0), (0, x5), (0, x6), (0, x7)] [] T V else ev 142 43 [(2, q0), (0, x1), (0, x2), (1, x3), (9, 0), (0, x5), (0, x6), (0, x7)] [] T V := by
  refine Eq.trans (ev_lda (show zcode 142 28 = some (6, 29, 0, 0, []) by decide +kernel) rfl (by decide)) ?_
  refine Eq.trans (ev_gq (show zcode 142 29 = some (56, 32, 6, 1, []) by decide +kernel) h1.o h1.p1) ?_
  refine Eq.trans (ev_ldi (show zcode 142 32 = some (4, 34, 6, 0, []) by decide +kernel) rfl) ?_
  refine Eq.trans (ev_ia (show zcode 142 34 = some (60, 35, 0, 0, []) by decide +kernel) h1.a1 h2) ?_
  refine Eq.trans (ev_ldi (show zcode 142 35 = some (4, 37, 7, 0, []) by decide +kernel) rfl) ?_
  refine Eq.trans (ev_shr (show zcode 142 37 = some (21, 38, 0, 0, []) by decide +kernel) h3) ?_
  refine Eq.trans (ev_ci (show zcode 142 38 = some (0, 39, 0, 1, []) by decide +kernel) (by decide)) ?_
  refine Eq.trans (ev_and (show zcode 142 39 = some (14, 40, 0, 0, []) by decide +kernel)) ?_
  exact ev_eq (show zcode 142 40 = some (40, 43, 87, 0, []) by decide +kernel)
theorem b142_43 {T : zT} {V : zM} {q0 : Int} {x1 : Int} {x2 : Int} {x3 : Int} {x5 : Int} {x6 : Int} {x7 : Int} (h1 : -9223372036854775808 ≤ (x3 * 1103) ∧ (x3 * 1103) ≤ 9223372036854775807) (h2 : -9223372036854775808 ≤ ((x3 * 1103) + 12345) ∧ ((x3 * 1103) + 12345) ≤ 9223372036854775807) (h3 : (0 : Int) ≤ ((x3 * 1103) + 12345)) (h4 : (0 : Int) ≤ (((x3 * 1103) + 12345) % 1000003)) : ev 142 43 [(2, q0), (0, x1), (0, x2), (1, x3), (9, 0), (0, x5), (0, x6), (0, x7)] [] T V = if x2 ≤ ((((x3 * 1103) + 12345) % 1000003) % 100) then ev 142 87 [(2, q0), (0, x1), (0, x2), (1, (((x3 * 1103) + 12345) % 1000003)), (9, 0), (0, x5), (0, x6), (0, x7)] [] T V else ev 142 68 [(2, q0), (0, x1), (0, x2), (1, (((x3 * 1103) + 12345) % 1000003)), (9, 0), (0, x5), (0, x6), (0, x7)] [] T V := by
  refine Eq.trans (ev_ldl (show zcode 142 43 = some (5, 44, 3, 0, []) by decide +kernel) rfl) ?_
  refine Eq.trans (ev_cl (show zcode 142 44 = some (1, 47, 0, 1103, []) by decide +kernel) (by decide)) ?_
  refine Eq.trans (ev_lmul (show zcode 142 47 = some (25, 48, 0, 0, []) by decide +kernel) h1) ?_
  refine Eq.trans (ev_cl (show zcode 142 48 = some (1, 51, 0, 12345, []) by decide +kernel) (by decide)) ?_
  refine Eq.trans (ev_ladd (show zcode 142 51 = some (23, 52, 0, 0, []) by decide +kernel) h2) ?_
  refine Eq.trans (ev_cl (show zcode 142 52 = some (1, 55, 0, 1000003, []) by decide +kernel) (by decide)) ?_
  refine Eq.trans (ev_lrem (show zcode 142 55 = some (28, 56, 0, 0, []) by decide +kernel) ⟨h3, by decide⟩) ?_
  refine Eq.trans (ev_stl (show zcode 142 56 = some (8, 57, 3, 0, []) by decide +kernel) ⟨show 4 < 8 by decide, Or.inr (show ¬ (0 : Nat) = 1 by decide)⟩) ?_
  refine Eq.trans (ev_ldl (show zcode 142 57 = some (5, 58, 3, 0, []) by decide +kernel) rfl) ?_
  refine Eq.trans (ev_cl (show zcode 142 58 = some (1, 61, 0, 100, []) by decide +kernel) (by decide)) ?_
  refine Eq.trans (ev_lrem (show zcode 142 61 = some (28, 62, 0, 0, []) by decide +kernel) ⟨h4, by decide⟩) ?_
  refine Eq.trans (ev_ldi (show zcode 142 62 = some (4, 63, 2, 0, []) by decide +kernel) rfl) ?_
  refine Eq.trans (ev_i2l (show zcode 142 63 = some (32, 64, 0, 0, []) by decide +kernel)) ?_
  exact ev_lge (show zcode 142 64 = some (31, 65, 0, 0, []) by decide +kernel) (show zcode 142 65 = some (43, 68, 87, 0, []) by decide +kernel)
theorem b142_68 {T : zT} {V : zM} {q0 : Int} {x1 : Int} {x2 : Int} {x3 : Int} {x5 : Int} {x6 : Int} {x7 : Int} (h1 : zState T q0) (h2 : (0 : Int) ≤ x6 ∧ x6 < 16) (h3 : (0 : Int) ≤ x7 ∧ x7 ≤ 30) (h4 : -2147483648 ≤ (x5 + 1) ∧ (x5 + 1) ≤ 2147483647) : ev 142 68 [(2, q0), (0, x1), (0, x2), (1, x3), (9, 0), (0, x5), (0, x6), (0, x7)] [] T V = ev 142 87 [(2, q0), (0, x1), (0, x2), (1, x3), (9, 0), (0, (x5 + 1)), (0, x6), (0, x7)] [] T (zwr V (q0 + 1) x6 (zand (V (q0 + 1) x6) (zxor ((2 : Int) ^ (x7).toNat) (-1)))) := by
  refine Eq.trans (ev_lda (show zcode 142 68 = some (6, 69, 0, 0, []) by decide +kernel) rfl (by decide)) ?_
  refine Eq.trans (ev_gq (show zcode 142 69 = some (56, 72, 6, 1, []) by decide +kernel) h1.o h1.p1) ?_
  refine Eq.trans (ev_ldi (show zcode 142 72 = some (4, 74, 6, 0, []) by decide +kernel) rfl) ?_
  refine Eq.trans (ev_dup2 (show zcode 142 74 = some (38, 75, 0, 0, []) by decide +kernel) (by decide)) ?_
  refine Eq.trans (ev_ia (show zcode 142 75 = some (60, 76, 0, 0, []) by decide +kernel) h1.a1 h2) ?_
  refine Eq.trans (ev_ci (show zcode 142 76 = some (0, 77, 0, 1, []) by decide +kernel) (by decide)) ?_
  refine Eq.trans (ev_ldi (show zcode 142 77 = some (4, 79, 7, 0, []) by decide +kernel) rfl) ?_
  refine Eq.trans (ev_shl1 (show zcode 142 79 = some (20, 80, 0, 0, []) by decide +kernel) h3) ?_
  refine Eq.trans (ev_ci (show zcode 142 80 = some (0, 81, 0, (-1), []) by decide +kernel) (by decide)) ?_
  refine Eq.trans (ev_xor (show zcode 142 81 = some (16, 82, 0, 0, []) by decide +kernel)) ?_
  refine Eq.trans (ev_and (show zcode 142 82 = some (14, 83, 0, 0, []) by decide +kernel)) ?_
  refine Eq.trans (ev_is (show zcode 142 83 = some (64, 84, 0, 0, []) by decide +kernel) h1.a1 h2) ?_
  exact ev_inc (show zcode 142 84 = some (10, 87, 5, 1, []) by decide +kernel) rfl h4 (Or.inr (show ¬ (9 : Nat) = 1 by decide))
theorem b142_87 {T : zT} {V : zM} {q0 : Int} {x1 : Int} {x2 : Int} {x3 : Int} {x5 : Int} {x6 : Int} {x7 : Int} (h1 : -2147483648 ≤ (x7 + 1) ∧ (x7 + 1) ≤ 2147483647) : ev 142 87 [(2, q0), (0, x1), (0, x2), (1, x3), (9, 0), (0, x5), (0, x6), (0, x7)] [] T V = ev 142 21 [(2, q0), (0, x1), (0, x2), (1, x3), (9, 0), (0, x5), (0, x6), (0, (x7 + 1))] [] T V := by
  refine Eq.trans (ev_inc (show zcode 142 87 = some (10, 90, 7, 1, []) by decide +kernel) rfl h1 (Or.inr (show ¬ (0 : Nat) = 1 by decide))) ?_
  exact ev_goto (show zcode 142 90 = some (53, 93, 21, 0, []) by decide +kernel)
theorem b142_93 {T : zT} {V : zM} {q0 : Int} {x1 : Int} {x2 : Int} {x3 : Int} {x5 : Int} {x6 : Int} {x7 : Int} (h1 : -2147483648 ≤ (x6 + 1) ∧ (x6 + 1) ≤ 2147483647) : ev 142 93 [(2, q0), (0, x1), (0, x2), (1, x3), (9, 0), (0, x5), (0, x6), (0, x7)] [] T V = ev 142 9 [(2, q0), (0, x1), (0, x2), (1, x3), (9, 0), (0, x5), (0, (x6 + 1)), (0, x7)] [] T V := by
  refine Eq.trans (ev_inc (show zcode 142 93 = some (10, 96, 6, 1, []) by decide +kernel) rfl h1 (Or.inr (show ¬ (0 : Nat) = 1 by decide))) ?_
  exact ev_goto (show zcode 142 96 = some (53, 99, 9, 0, []) by decide +kernel)
theorem b142_99 {T : zT} {V : zM} {q0 : Int} {x1 : Int} {x2 : Int} {x3 : Int} {x5 : Int} {x6 : Int} {v7 : zV} : ev 142 99 [(2, q0), (0, x1), (0, x2), (1, x3), (9, 0), (0, x5), (0, x6), v7] [] T V = some ((0, x5), T, V) := by
  refine Eq.trans (ev_ldi (show zcode 142 99 = some (4, 101, 5, 0, []) by decide +kernel) rfl) ?_
  exact ev_ri (show zcode 142 101 = some (72, 102, 0, 0, []) by decide +kernel)
/-! 146: TwoWayWall$Tongue.toldLetters()I -/
theorem e146 {T : zT} {V : zM} {q0 : Int} : zcall 146 [(2, q0)] T V = ev 146 0 [(2, q0), (9, 0), (9, 0)] [] T V := rfl
theorem b146_0 {T : zT} {V : zM} {q0 : Int} : ev 146 0 [(2, q0), (9, 0), (9, 0)] [] T V = ev 146 4 [(2, q0), (0, 0), (0, 0)] [] T V := by
  refine Eq.trans (ev_ci (show zcode 146 0 = some (0, 1, 0, 0, []) by decide +kernel) (by decide)) ?_
  refine Eq.trans (ev_sti (show zcode 146 1 = some (7, 2, 1, 0, []) by decide +kernel) ⟨show 1 < 3 by decide, Or.inr (show ¬ (2 : Nat) = 1 by decide)⟩) ?_
  refine Eq.trans (ev_ci (show zcode 146 2 = some (0, 3, 0, 0, []) by decide +kernel) (by decide)) ?_
  exact ev_sti (show zcode 146 3 = some (7, 4, 2, 0, []) by decide +kernel) ⟨show 2 < 3 by decide, Or.inr (show ¬ (0 : Nat) = 1 by decide)⟩
theorem b146_4 {T : zT} {V : zM} {q0 : Int} {x1 : Int} {x2 : Int} : ev 146 4 [(2, q0), (0, x1), (0, x2)] [] T V = if 26 ≤ x2 then ev 146 27 [(2, q0), (0, x1), (0, x2)] [] T V else ev 146 10 [(2, q0), (0, x1), (0, x2)] [] T V := by
  refine Eq.trans (ev_ldi (show zcode 146 4 = some (4, 5, 2, 0, []) by decide +kernel) rfl) ?_
  refine Eq.trans (ev_ci (show zcode 146 5 = some (0, 7, 0, 26, []) by decide +kernel) (by decide)) ?_
  exact ev_cge (show zcode 146 7 = some (49, 10, 27, 0, []) by decide +kernel)
theorem b146_10 {T : zT} {V : zM} {q0 : Int} {x1 : Int} {x2 : Int} (h1 : zTongue T q0) : ev 146 10 [(2, q0), (0, x1), (0, x2)] [] T V = (zcall 19 [(2, q0), (0, x2)] T V).bind fun x => ev 146 15 [(2, q0), (0, x1), (0, x2)] (z_push x.1 []) x.2.1 x.2.2 := by
  refine Eq.trans (ev_lda (show zcode 146 10 = some (6, 11, 0, 0, []) by decide +kernel) rfl (by decide)) ?_
  refine Eq.trans (ev_ldi (show zcode 146 11 = some (4, 12, 2, 0, []) by decide +kernel) rfl) ?_
  exact ev_cvirt (show zcode 146 12 = some (76, 15, 19, 2, [9]) by decide +kernel) (args := [(0, x2)]) (rest := []) rfl h1.o rfl (show 0 ≤ 8 by decide) ⟨by decide, show 2 ≤ 2 by decide⟩
theorem b146_15 {T : zT} {V : zM} {q0 : Int} {x1 : Int} {x2 : Int} {y0 : Int} : ev 146 15 [(2, q0), (0, x1), (0, x2)] [(0, y0)] T V = if y0 = 0 then ev 146 21 [(2, q0), (0, x1), (0, x2)] [] T V else ev 146 18 [(2, q0), (0, x1), (0, x2)] [] T V := by
  exact ev_eq (show zcode 146 15 = some (40, 18, 21, 0, []) by decide +kernel)
theorem b146_18 {T : zT} {V : zM} {q0 : Int} {x1 : Int} {x2 : Int} (h1 : -2147483648 ≤ (x1 + 1) ∧ (x1 + 1) ≤ 2147483647) : ev 146 18 [(2, q0), (0, x1), (0, x2)] [] T V = ev 146 21 [(2, q0), (0, (x1 + 1)), (0, x2)] [] T V := by
  exact ev_inc (show zcode 146 18 = some (10, 21, 1, 1, []) by decide +kernel) rfl h1 (Or.inr (show ¬ (2 : Nat) = 1 by decide))
theorem b146_21 {T : zT} {V : zM} {q0 : Int} {x1 : Int} {x2 : Int} (h1 : -2147483648 ≤ (x2 + 1) ∧ (x2 + 1) ≤ 2147483647) : ev 146 21 [(2, q0), (0, x1), (0, x2)] [] T V = ev 146 4 [(2, q0), (0, x1), (0, (x2 + 1))] [] T V := by
  refine Eq.trans (ev_inc (show zcode 146 21 = some (10, 24, 2, 1, []) by decide +kernel) rfl h1 (Or.inr (show ¬ (0 : Nat) = 1 by decide))) ?_
  exact ev_goto (show zcode 146 24 = some (53, 27, 4, 0, []) by decide +kernel)
theorem b146_27 {T : zT} {V : zM} {q0 : Int} {x1 : Int} {x2 : Int} : ev 146 27 [(2, q0), (0, x1), (0, x2)] [] T V = some ((0, x1), T, V) := by
  refine Eq.trans (ev_ldi (show zcode 146 27 = some (4, 28, 1, 0, []) by decide +kernel) rfl) ?_
  exact ev_ri (show zcode 146 28 = some (72, 29, 0, 0, []) by decide +kernel)
