/-! printed by blocks.py: the blocks of methods [7, 18, 42, 43, 44, 45, 46, 47, 48, 49, 50, 51, 52, 53, 58, 59, 60, 61, 62, 63, 64, 65, 66, 67, 68, 69, 109, 110, 128] -/
/-! 7: TwoWayWall$TableReader.<init>(LTwoWayWall$Tape;LTwoWayWall$State;)V -/
theorem e7 {T : zT} {V : zM} {q0 : Int} {q1 : Int} {q2 : Int} : zcall 7 [(2, q0), (2, q1), (2, q2)] T V = ev 7 0 [(2, q0), (2, q1), (2, q2)] [] T V := rfl
theorem b7_0 {T : zT} {V : zM} {q0 : Int} {q1 : Int} {q2 : Int} (h1 : (0 : Int) ≤ q0) (h2 : zO T q0 7) : ev 7 0 [(2, q0), (2, q1), (2, q2)] [] T V = ev 7 14 [(2, q0), (2, q1), (2, q2)] [] (zqw T q0 0 q1) (zwr V q0 5 (-1)) := by
  refine Eq.trans (ev_lda (show zcode 7 0 = some (6, 1, 0, 0, []) by decide +kernel) rfl (by decide)) ?_
  refine Eq.trans (ev_obj (show zcode 7 1 = some (78, 4, 0, 0, []) by decide +kernel) ⟨h1, show 0 ≤ 8 by decide⟩) ?_
  refine Eq.trans (ev_lda (show zcode 7 4 = some (6, 5, 0, 0, []) by decide +kernel) rfl (by decide)) ?_
  refine Eq.trans (ev_ci (show zcode 7 5 = some (0, 6, 0, (-1), []) by decide +kernel) (by decide)) ?_
  refine Eq.trans (ev_pi (show zcode 7 6 = some (57, 9, 7, 5, []) by decide +kernel) h2) ?_
  refine Eq.trans (ev_lda (show zcode 7 9 = some (6, 10, 0, 0, []) by decide +kernel) rfl (by decide)) ?_
  refine Eq.trans (ev_lda (show zcode 7 10 = some (6, 11, 1, 0, []) by decide +kernel) rfl (by decide)) ?_
  exact ev_pr (show zcode 7 11 = some (59, 14, 7, 0, []) by decide +kernel) h2
theorem b7_14 {T : zT} {V : zM} {q0 : Int} {q1 : Int} {q2 : Int} (h1 : zO T q0 7) : ev 7 14 [(2, q0), (2, q1), (2, q2)] [] T V = ev 7 19 [(2, q0), (2, q1), (2, q2)] [] (zqw T q0 1 q2) V := by
  refine Eq.trans (ev_lda (show zcode 7 14 = some (6, 15, 0, 0, []) by decide +kernel) rfl (by decide)) ?_
  refine Eq.trans (ev_lda (show zcode 7 15 = some (6, 16, 2, 0, []) by decide +kernel) rfl (by decide)) ?_
  exact ev_pr (show zcode 7 16 = some (59, 19, 7, 1, []) by decide +kernel) h1
theorem b7_19 {T : zT} {V : zM} {q0 : Int} {q1 : Int} {q2 : Int} : ev 7 19 [(2, q0), (2, q1), (2, q2)] [] T V = some ((9, 0), T, V) := by
  exact ev_rn (show zcode 7 19 = some (73, 20, 0, 0, []) by decide +kernel)
/-! 18: java/util/Arrays.fill([II)V -/
theorem e18 {T : zT} {V : zM} {q0 : Int} {x1 : Int} : zcall 18 [(2, q0), (0, x1)] T V = ev 18 0 [(2, q0), (0, x1), (9, 0), (9, 0)] [] T V := rfl
theorem b18_0 {T : zT} {V : zM} {q0 : Int} {x1 : Int} {n1 : Int} (h1 : zAr T q0 0 n1) : ev 18 0 [(2, q0), (0, x1), (9, 0), (9, 0)] [] T V = ev 18 5 [(2, q0), (0, x1), (0, 0), (0, n1)] [] T V := by
  refine Eq.trans (ev_ci (show zcode 18 0 = some (0, 1, 0, 0, []) by decide +kernel) (by decide)) ?_
  refine Eq.trans (ev_sti (show zcode 18 1 = some (7, 2, 2, 0, []) by decide +kernel) ⟨show 2 < 4 by decide, Or.inr (show ¬ (0 : Nat) = 1 by decide)⟩) ?_
  refine Eq.trans (ev_lda (show zcode 18 2 = some (6, 3, 0, 0, []) by decide +kernel) rfl (by decide)) ?_
  refine Eq.trans (ev_len (show zcode 18 3 = some (68, 4, 0, 0, []) by decide +kernel) h1 (by decide)) ?_
  exact ev_sti (show zcode 18 4 = some (7, 5, 3, 0, []) by decide +kernel) ⟨show 3 < 4 by decide, Or.inr (show ¬ (0 : Nat) = 1 by decide)⟩
theorem b18_5 {T : zT} {V : zM} {q0 : Int} {x1 : Int} {x2 : Int} {x3 : Int} : ev 18 5 [(2, q0), (0, x1), (0, x2), (0, x3)] [] T V = if x3 ≤ x2 then ev 18 20 [(2, q0), (0, x1), (0, x2), (0, x3)] [] T V else ev 18 10 [(2, q0), (0, x1), (0, x2), (0, x3)] [] T V := by
  refine Eq.trans (ev_ldi (show zcode 18 5 = some (4, 6, 2, 0, []) by decide +kernel) rfl) ?_
  refine Eq.trans (ev_ldi (show zcode 18 6 = some (4, 7, 3, 0, []) by decide +kernel) rfl) ?_
  exact ev_cge (show zcode 18 7 = some (49, 10, 20, 0, []) by decide +kernel)
theorem b18_10 {T : zT} {V : zM} {q0 : Int} {x1 : Int} {x2 : Int} {x3 : Int} {n1 : Int} (h1 : zAr T q0 0 n1) (h2 : (0 : Int) ≤ x2 ∧ x2 < n1) (h3 : -2147483648 ≤ (x2 + 1) ∧ (x2 + 1) ≤ 2147483647) : ev 18 10 [(2, q0), (0, x1), (0, x2), (0, x3)] [] T V = ev 18 5 [(2, q0), (0, x1), (0, (x2 + 1)), (0, x3)] [] T (zwr V q0 x2 x1) := by
  refine Eq.trans (ev_lda (show zcode 18 10 = some (6, 11, 0, 0, []) by decide +kernel) rfl (by decide)) ?_
  refine Eq.trans (ev_ldi (show zcode 18 11 = some (4, 12, 2, 0, []) by decide +kernel) rfl) ?_
  refine Eq.trans (ev_ldi (show zcode 18 12 = some (4, 13, 1, 0, []) by decide +kernel) rfl) ?_
  refine Eq.trans (ev_is (show zcode 18 13 = some (64, 14, 0, 0, []) by decide +kernel) h1 h2) ?_
  refine Eq.trans (ev_inc (show zcode 18 14 = some (10, 17, 2, 1, []) by decide +kernel) rfl h3 (Or.inr (show ¬ (0 : Nat) = 1 by decide))) ?_
  exact ev_goto (show zcode 18 17 = some (53, 20, 5, 0, []) by decide +kernel)
theorem b18_20 {T : zT} {V : zM} {q0 : Int} {x1 : Int} {x2 : Int} {x3 : Int} : ev 18 20 [(2, q0), (0, x1), (0, x2), (0, x3)] [] T V = some ((9, 0), T, V) := by
  exact ev_rn (show zcode 18 20 = some (73, 21, 0, 0, []) by decide +kernel)
/-! 42: TwoWayWall$TableReader.tell()I -/
theorem e42 {T : zT} {V : zM}  : zcall 42 [(2, 58)] T V = ev 42 0 [(2, 58), (9, 0)] [] T V := rfl
theorem b42_0 {T : zT} {V : zM}  (hS : zStr T)  : ev 42 0 [(2, 58), (9, 0)] [] T V = (zcall 43 [(2, 58)] T (zwr (zwr V 58 3 0) 58 5 (-1))).bind fun x => ev 42 14 [(2, 58), (9, 0)] (z_push x.1 []) x.2.1 x.2.2 := by
  refine Eq.trans (ev_lda (show zcode 42 0 = some (6, 1, 0, 0, []) by decide +kernel) rfl (by decide)) ?_
  refine Eq.trans (ev_ci (show zcode 42 1 = some (0, 2, 0, 0, []) by decide +kernel) (by decide)) ?_
  refine Eq.trans (ev_pi (show zcode 42 2 = some (57, 5, 7, 3, []) by decide +kernel) (so58 hS)) ?_
  refine Eq.trans (ev_lda (show zcode 42 5 = some (6, 6, 0, 0, []) by decide +kernel) rfl (by decide)) ?_
  refine Eq.trans (ev_ci (show zcode 42 6 = some (0, 7, 0, (-1), []) by decide +kernel) (by decide)) ?_
  refine Eq.trans (ev_pi (show zcode 42 7 = some (57, 10, 7, 5, []) by decide +kernel) (so58 hS)) ?_
  refine Eq.trans (ev_lda (show zcode 42 10 = some (6, 11, 0, 0, []) by decide +kernel) rfl (by decide)) ?_
  exact ev_cvirt (show zcode 42 11 = some (76, 14, 43, 1, [7]) by decide +kernel) (args := []) (rest := []) rfl (so58 hS) rfl (show 0 ≤ 8 by decide) ⟨by decide, show 1 ≤ 1 by decide⟩
theorem b42_14 {T : zT} {V : zM}  : ev 42 14 [(2, 58), (9, 0)] [] T V = ev 42 16 [(2, 58), (0, 0)] [] T V := by
  refine Eq.trans (ev_ci (show zcode 42 14 = some (0, 15, 0, 0, []) by decide +kernel) (by decide)) ?_
  exact ev_sti (show zcode 42 15 = some (7, 16, 1, 0, []) by decide +kernel) ⟨show 1 < 2 by decide, Or.inr (show ¬ (2 : Nat) = 1 by decide)⟩
theorem b42_16 {T : zT} {V : zM} {x1 : Int} : ev 42 16 [(2, 58), (0, x1)] [] T V = if 24 ≤ x1 then ev 42 72 [(2, 58), (0, x1)] [] T V else ev 42 22 [(2, 58), (0, x1)] [] T V := by
  refine Eq.trans (ev_ldi (show zcode 42 16 = some (4, 17, 1, 0, []) by decide +kernel) rfl) ?_
  refine Eq.trans (ev_ci (show zcode 42 17 = some (0, 19, 0, 24, []) by decide +kernel) (by decide)) ?_
  exact ev_cge (show zcode 42 19 = some (49, 22, 72, 0, []) by decide +kernel)
theorem b42_22 {T : zT} {V : zM} {x1 : Int} (hS : zStr T)  : ev 42 22 [(2, 58), (0, x1)] [] T V = (zcall 45 [(2, 58)] T V).bind fun x => ev 42 26 [(2, 58), (0, x1)] (z_push x.1 []) x.2.1 x.2.2 := by
  refine Eq.trans (ev_lda (show zcode 42 22 = some (6, 23, 0, 0, []) by decide +kernel) rfl (by decide)) ?_
  exact ev_cvirt (show zcode 42 23 = some (76, 26, 45, 1, [7]) by decide +kernel) (args := []) (rest := []) rfl (so58 hS) rfl (show 0 ≤ 8 by decide) ⟨by decide, show 1 ≤ 1 by decide⟩
theorem b42_26 {T : zT} {V : zM} {x1 : Int} {y0 : Int} : ev 42 26 [(2, 58), (0, x1)] [(0, y0)] T V = if y0 = 0 then ev 42 29 [(2, 58), (0, x1)] [] T V else ev 42 31 [(2, 58), (0, x1)] [] T V := by
  exact ev_ne (show zcode 42 26 = some (41, 29, 31, 0, []) by decide +kernel)
theorem b42_29 {T : zT} {V : zM} {x1 : Int} : ev 42 29 [(2, 58), (0, x1)] [] T V = some ((0, (-1)), T, V) := by
  refine Eq.trans (ev_ci (show zcode 42 29 = some (0, 30, 0, (-1), []) by decide +kernel) (by decide)) ?_
  exact ev_ri (show zcode 42 30 = some (72, 31, 0, 0, []) by decide +kernel)
theorem b42_31 {T : zT} {V : zM} {x1 : Int} (hS : zStr T)  : ev 42 31 [(2, 58), (0, x1)] [] T V = if (V 58 4) = 0 then ev 42 38 [(2, 58), (0, x1)] [] T V else ev 42 42 [(2, 58), (0, x1)] [] T V := by
  refine Eq.trans (ev_lda (show zcode 42 31 = some (6, 32, 0, 0, []) by decide +kernel) rfl (by decide)) ?_
  refine Eq.trans (ev_gi (show zcode 42 32 = some (55, 35, 7, 4, []) by decide +kernel) (so58 hS)) ?_
  exact ev_ne (show zcode 42 35 = some (41, 38, 42, 0, []) by decide +kernel)
theorem b42_38 {T : zT} {V : zM} {x1 : Int} (h1 : -2147483648 ≤ (x1 + 1) ∧ (x1 + 1) ≤ 2147483647) : ev 42 38 [(2, 58), (0, x1)] [] T V = some ((0, (x1 + 1)), T, V) := by
  refine Eq.trans (ev_ldi (show zcode 42 38 = some (4, 39, 1, 0, []) by decide +kernel) rfl) ?_
  refine Eq.trans (ev_ci (show zcode 42 39 = some (0, 40, 0, 1, []) by decide +kernel) (by decide)) ?_
  refine Eq.trans (ev_add (show zcode 42 40 = some (11, 41, 0, 0, []) by decide +kernel) h1) ?_
  exact ev_ri (show zcode 42 41 = some (72, 42, 0, 0, []) by decide +kernel)
theorem b42_42 {T : zT} {V : zM} {x1 : Int} (hS : zStr T)  : ev 42 42 [(2, 58), (0, x1)] [] T V = (zcall 69 [(2, 58), (0, 59)] T V).bind fun x => ev 42 48 [(2, 58), (0, x1)] (z_push x.1 []) x.2.1 x.2.2 := by
  refine Eq.trans (ev_lda (show zcode 42 42 = some (6, 43, 0, 0, []) by decide +kernel) rfl (by decide)) ?_
  refine Eq.trans (ev_ci (show zcode 42 43 = some (0, 45, 0, 59, []) by decide +kernel) (by decide)) ?_
  exact ev_cvirt (show zcode 42 45 = some (76, 48, 69, 2, [7]) by decide +kernel) (args := [(0, 59)]) (rest := []) rfl (so58 hS) rfl (show 0 ≤ 8 by decide) ⟨by decide, show 2 ≤ 2 by decide⟩
theorem b42_48 {T : zT} {V : zM} {x1 : Int} {y0 : Int} : ev 42 48 [(2, 58), (0, x1)] [(0, y0)] T V = if y0 = 0 then ev 42 51 [(2, 58), (0, x1)] [] T V else ev 42 62 [(2, 58), (0, x1)] [] T V := by
  exact ev_ne (show zcode 42 48 = some (41, 51, 62, 0, []) by decide +kernel)
theorem b42_51 {T : zT} {V : zM} {x1 : Int} (hS : zStr T)  : ev 42 51 [(2, 58), (0, x1)] [] T V = (zcall 60 [(2, 58), (0, (V 58 2))] T V).bind fun x => ev 42 59 [(2, 58), (0, x1)] (z_push x.1 []) x.2.1 x.2.2 := by
  refine Eq.trans (ev_lda (show zcode 42 51 = some (6, 52, 0, 0, []) by decide +kernel) rfl (by decide)) ?_
  refine Eq.trans (ev_lda (show zcode 42 52 = some (6, 53, 0, 0, []) by decide +kernel) rfl (by decide)) ?_
  refine Eq.trans (ev_gi (show zcode 42 53 = some (55, 56, 7, 2, []) by decide +kernel) (so58 hS)) ?_
  exact ev_cvirt (show zcode 42 56 = some (76, 59, 60, 2, [7]) by decide +kernel) (args := [(0, (V 58 2))]) (rest := []) rfl (so58 hS) rfl (show 0 ≤ 8 by decide) ⟨by decide, show 2 ≤ 2 by decide⟩
theorem b42_59 {T : zT} {V : zM} {x1 : Int} {y0 : Int} : ev 42 59 [(2, 58), (0, x1)] [(0, y0)] T V = some ((0, (-1)), T, V) := by
  refine Eq.trans (ev_pop (show zcode 42 59 = some (37, 60, 0, 0, []) by decide +kernel) (by decide)) ?_
  refine Eq.trans (ev_ci (show zcode 42 60 = some (0, 61, 0, (-1), []) by decide +kernel) (by decide)) ?_
  exact ev_ri (show zcode 42 61 = some (72, 62, 0, 0, []) by decide +kernel)
theorem b42_62 {T : zT} {V : zM} {x1 : Int} (hS : zStr T)  : ev 42 62 [(2, 58), (0, x1)] [] T V = (zcall 43 [(2, 58)] T V).bind fun x => ev 42 66 [(2, 58), (0, x1)] (z_push x.1 []) x.2.1 x.2.2 := by
  refine Eq.trans (ev_lda (show zcode 42 62 = some (6, 63, 0, 0, []) by decide +kernel) rfl (by decide)) ?_
  exact ev_cvirt (show zcode 42 63 = some (76, 66, 43, 1, [7]) by decide +kernel) (args := []) (rest := []) rfl (so58 hS) rfl (show 0 ≤ 8 by decide) ⟨by decide, show 1 ≤ 1 by decide⟩
theorem b42_66 {T : zT} {V : zM} {x1 : Int} (h1 : -2147483648 ≤ (x1 + 1) ∧ (x1 + 1) ≤ 2147483647) : ev 42 66 [(2, 58), (0, x1)] [] T V = ev 42 16 [(2, 58), (0, (x1 + 1))] [] T V := by
  refine Eq.trans (ev_inc (show zcode 42 66 = some (10, 69, 1, 1, []) by decide +kernel) rfl h1 (Or.inr (show ¬ (2 : Nat) = 1 by decide))) ?_
  exact ev_goto (show zcode 42 69 = some (53, 72, 16, 0, []) by decide +kernel)
theorem b42_72 {T : zT} {V : zM} {x1 : Int} (hS : zStr T)  : ev 42 72 [(2, 58), (0, x1)] [] T V = (zcall 60 [(2, 58), (0, (V 58 2))] T V).bind fun x => ev 42 80 [(2, 58), (0, x1)] (z_push x.1 []) x.2.1 x.2.2 := by
  refine Eq.trans (ev_lda (show zcode 42 72 = some (6, 73, 0, 0, []) by decide +kernel) rfl (by decide)) ?_
  refine Eq.trans (ev_lda (show zcode 42 73 = some (6, 74, 0, 0, []) by decide +kernel) rfl (by decide)) ?_
  refine Eq.trans (ev_gi (show zcode 42 74 = some (55, 77, 7, 2, []) by decide +kernel) (so58 hS)) ?_
  exact ev_cvirt (show zcode 42 77 = some (76, 80, 60, 2, [7]) by decide +kernel) (args := [(0, (V 58 2))]) (rest := []) rfl (so58 hS) rfl (show 0 ≤ 8 by decide) ⟨by decide, show 2 ≤ 2 by decide⟩
theorem b42_80 {T : zT} {V : zM} {x1 : Int} {y0 : Int} : ev 42 80 [(2, 58), (0, x1)] [(0, y0)] T V = some ((0, (-1)), T, V) := by
  refine Eq.trans (ev_pop (show zcode 42 80 = some (37, 81, 0, 0, []) by decide +kernel) (by decide)) ?_
  refine Eq.trans (ev_ci (show zcode 42 81 = some (0, 82, 0, (-1), []) by decide +kernel) (by decide)) ?_
  exact ev_ri (show zcode 42 82 = some (72, 83, 0, 0, []) by decide +kernel)
/-! 43: TwoWayWall$TableReader.step()V -/
theorem e43 {T : zT} {V : zM}  : zcall 43 [(2, 58)] T V = ev 43 0 [(2, 58)] [] T V := rfl
theorem b43_0 {T : zT} {V : zM}  (hS : zStr T)  : ev 43 0 [(2, 58)] [] T V = ev 43 8 [(2, 58)] [] T (zwr V 58 2 (V 58 3)) := by
  refine Eq.trans (ev_lda (show zcode 43 0 = some (6, 1, 0, 0, []) by decide +kernel) rfl (by decide)) ?_
  refine Eq.trans (ev_lda (show zcode 43 1 = some (6, 2, 0, 0, []) by decide +kernel) rfl (by decide)) ?_
  refine Eq.trans (ev_gi (show zcode 43 2 = some (55, 5, 7, 3, []) by decide +kernel) (so58 hS)) ?_
  exact ev_pi (show zcode 43 5 = some (57, 8, 7, 2, []) by decide +kernel) (so58 hS)
theorem b43_8 {T : zT} {V : zM}  (hS : zStr T)  : ev 43 8 [(2, 58)] [] T V = if (V 56 1) ≤ (V 58 2) then ev 43 52 [(2, 58)] [] T V else ev 43 22 [(2, 58)] [] T V := by
  refine Eq.trans (ev_lda (show zcode 43 8 = some (6, 9, 0, 0, []) by decide +kernel) rfl (by decide)) ?_
  refine Eq.trans (ev_gi (show zcode 43 9 = some (55, 12, 7, 2, []) by decide +kernel) (so58 hS)) ?_
  refine Eq.trans (ev_lda (show zcode 43 12 = some (6, 13, 0, 0, []) by decide +kernel) rfl (by decide)) ?_
  refine Eq.trans (ev_gq (show zcode 43 13 = some (56, 16, 7, 0, []) by decide +kernel) (so58 hS) (sp58_0 hS)) ?_
  refine Eq.trans (ev_gi (show zcode 43 16 = some (55, 19, 8, 1, []) by decide +kernel) (so56 hS)) ?_
  exact ev_cge (show zcode 43 19 = some (49, 22, 52, 0, []) by decide +kernel)
theorem b43_22 {T : zT} {V : zM}  (hS : zStr T) (h1 : (0 : Int) ≤ (V 58 2) ∧ (V 58 2) < 400) : ev 43 22 [(2, 58)] [] T V = if (V 57 (V 58 2)) = 32 then ev 43 39 [(2, 58)] [] T V else ev 43 52 [(2, 58)] [] T V := by
  refine Eq.trans (ev_lda (show zcode 43 22 = some (6, 23, 0, 0, []) by decide +kernel) rfl (by decide)) ?_
  refine Eq.trans (ev_gq (show zcode 43 23 = some (56, 26, 7, 0, []) by decide +kernel) (so58 hS) (sp58_0 hS)) ?_
  refine Eq.trans (ev_gq (show zcode 43 26 = some (56, 29, 8, 0, []) by decide +kernel) (so56 hS) (sp56_0 hS)) ?_
  refine Eq.trans (ev_lda (show zcode 43 29 = some (6, 30, 0, 0, []) by decide +kernel) rfl (by decide)) ?_
  refine Eq.trans (ev_gi (show zcode 43 30 = some (55, 33, 7, 2, []) by decide +kernel) (so58 hS)) ?_
  refine Eq.trans (ev_ia (show zcode 43 33 = some (60, 34, 0, 0, []) by decide +kernel) (sa57 hS) h1) ?_
  refine Eq.trans (ev_ci (show zcode 43 34 = some (0, 36, 0, 32, []) by decide +kernel) (by decide)) ?_
  exact ev_cne (show zcode 43 36 = some (47, 39, 52, 0, []) by decide +kernel)
theorem b43_39 {T : zT} {V : zM}  (hS : zStr T) (h1 : -2147483648 ≤ ((V 58 2) + 1) ∧ ((V 58 2) + 1) ≤ 2147483647) : ev 43 39 [(2, 58)] [] T V = ev 43 8 [(2, 58)] [] T (zwr V 58 2 ((V 58 2) + 1)) := by
  refine Eq.trans (ev_lda (show zcode 43 39 = some (6, 40, 0, 0, []) by decide +kernel) rfl (by decide)) ?_
  refine Eq.trans (ev_dup (show zcode 43 40 = some (36, 41, 0, 0, []) by decide +kernel) (by decide)) ?_
  refine Eq.trans (ev_gi (show zcode 43 41 = some (55, 44, 7, 2, []) by decide +kernel) (so58 hS)) ?_
  refine Eq.trans (ev_ci (show zcode 43 44 = some (0, 45, 0, 1, []) by decide +kernel) (by decide)) ?_
  refine Eq.trans (ev_add (show zcode 43 45 = some (11, 46, 0, 0, []) by decide +kernel) h1) ?_
  refine Eq.trans (ev_pi (show zcode 43 46 = some (57, 49, 7, 2, []) by decide +kernel) (so58 hS)) ?_
  exact ev_goto (show zcode 43 49 = some (53, 52, 8, 0, []) by decide +kernel)
theorem b43_52 {T : zT} {V : zM}  (hS : zStr T)  : ev 43 52 [(2, 58)] [] T V = if ((zwr V 58 3 (V 58 2)) 58 2) < ((zwr V 58 3 (V 58 2)) 56 1) then ev 43 80 [(2, 58)] [] T (zwr V 58 3 (V 58 2)) else ev 43 74 [(2, 58)] [] T (zwr V 58 3 (V 58 2)) := by
  refine Eq.trans (ev_lda (show zcode 43 52 = some (6, 53, 0, 0, []) by decide +kernel) rfl (by decide)) ?_
  refine Eq.trans (ev_lda (show zcode 43 53 = some (6, 54, 0, 0, []) by decide +kernel) rfl (by decide)) ?_
  refine Eq.trans (ev_gi (show zcode 43 54 = some (55, 57, 7, 2, []) by decide +kernel) (so58 hS)) ?_
  refine Eq.trans (ev_pi (show zcode 43 57 = some (57, 60, 7, 3, []) by decide +kernel) (so58 hS)) ?_
  refine Eq.trans (ev_lda (show zcode 43 60 = some (6, 61, 0, 0, []) by decide +kernel) rfl (by decide)) ?_
  refine Eq.trans (ev_gi (show zcode 43 61 = some (55, 64, 7, 2, []) by decide +kernel) (so58 hS)) ?_
  refine Eq.trans (ev_lda (show zcode 43 64 = some (6, 65, 0, 0, []) by decide +kernel) rfl (by decide)) ?_
  refine Eq.trans (ev_gq (show zcode 43 65 = some (56, 68, 7, 0, []) by decide +kernel) (so58 hS) (sp58_0 hS)) ?_
  refine Eq.trans (ev_gi (show zcode 43 68 = some (55, 71, 8, 1, []) by decide +kernel) (so56 hS)) ?_
  exact ev_clt (show zcode 43 71 = some (48, 74, 80, 0, []) by decide +kernel)
theorem b43_74 {T : zT} {V : zM}  (hS : zStr T)  : ev 43 74 [(2, 58)] [] T V = some ((9, 0), T, (zwr V 58 4 0)) := by
  refine Eq.trans (ev_lda (show zcode 43 74 = some (6, 75, 0, 0, []) by decide +kernel) rfl (by decide)) ?_
  refine Eq.trans (ev_ci (show zcode 43 75 = some (0, 76, 0, 0, []) by decide +kernel) (by decide)) ?_
  refine Eq.trans (ev_pi (show zcode 43 76 = some (57, 79, 7, 4, []) by decide +kernel) (so58 hS)) ?_
  exact ev_rn (show zcode 43 79 = some (73, 80, 0, 0, []) by decide +kernel)
theorem b43_80 {T : zT} {V : zM}  (hS : zStr T) (h1 : (0 : Int) ≤ (V 58 2) ∧ (V 58 2) < 400) : ev 43 80 [(2, 58)] [] T V = (zcall 44 [(0, (V 57 (V 58 2)))] T V).bind fun x => ev 43 96 [(2, 58)] (z_push x.1 [(2, 58)]) x.2.1 x.2.2 := by
  refine Eq.trans (ev_lda (show zcode 43 80 = some (6, 81, 0, 0, []) by decide +kernel) rfl (by decide)) ?_
  refine Eq.trans (ev_lda (show zcode 43 81 = some (6, 82, 0, 0, []) by decide +kernel) rfl (by decide)) ?_
  refine Eq.trans (ev_gq (show zcode 43 82 = some (56, 85, 7, 0, []) by decide +kernel) (so58 hS) (sp58_0 hS)) ?_
  refine Eq.trans (ev_gq (show zcode 43 85 = some (56, 88, 8, 0, []) by decide +kernel) (so56 hS) (sp56_0 hS)) ?_
  refine Eq.trans (ev_lda (show zcode 43 88 = some (6, 89, 0, 0, []) by decide +kernel) rfl (by decide)) ?_
  refine Eq.trans (ev_gi (show zcode 43 89 = some (55, 92, 7, 2, []) by decide +kernel) (so58 hS)) ?_
  refine Eq.trans (ev_ia (show zcode 43 92 = some (60, 93, 0, 0, []) by decide +kernel) (sa57 hS) h1) ?_
  exact ev_cstat (show zcode 43 93 = some (74, 96, 44, 1, []) by decide +kernel) (args := [(0, (V 57 (V 58 2)))]) (rest := [(2, 58)]) rfl rfl (show 1 ≤ 8 by decide) ⟨by decide, show 1 ≤ 1 by decide⟩
theorem b43_96 {T : zT} {V : zM} {y1 : Int} (hS : zStr T) (h1 : -2147483648 ≤ (((zwr V 58 4 y1) 58 3) + 1) ∧ (((zwr V 58 4 y1) 58 3) + 1) ≤ 2147483647) : ev 43 96 [(2, 58)] [(0, y1), (2, 58)] T V = ev 43 109 [(2, 58)] [] T (zwr (zwr V 58 4 y1) 58 3 (((zwr V 58 4 y1) 58 3) + 1)) := by
  refine Eq.trans (ev_pi (show zcode 43 96 = some (57, 99, 7, 4, []) by decide +kernel) (so58 hS)) ?_
  refine Eq.trans (ev_lda (show zcode 43 99 = some (6, 100, 0, 0, []) by decide +kernel) rfl (by decide)) ?_
  refine Eq.trans (ev_dup (show zcode 43 100 = some (36, 101, 0, 0, []) by decide +kernel) (by decide)) ?_
  refine Eq.trans (ev_gi (show zcode 43 101 = some (55, 104, 7, 3, []) by decide +kernel) (so58 hS)) ?_
  refine Eq.trans (ev_ci (show zcode 43 104 = some (0, 105, 0, 1, []) by decide +kernel) (by decide)) ?_
  refine Eq.trans (ev_add (show zcode 43 105 = some (11, 106, 0, 0, []) by decide +kernel) h1) ?_
  exact ev_pi (show zcode 43 106 = some (57, 109, 7, 3, []) by decide +kernel) (so58 hS)
theorem b43_109 {T : zT} {V : zM}  (hS : zStr T)  : ev 43 109 [(2, 58)] [] T V = if (V 58 4) = 3 then ev 43 166 [(2, 58)] [] T V else ev 43 117 [(2, 58)] [] T V := by
  refine Eq.trans (ev_lda (show zcode 43 109 = some (6, 110, 0, 0, []) by decide +kernel) rfl (by decide)) ?_
  refine Eq.trans (ev_gi (show zcode 43 110 = some (55, 113, 7, 4, []) by decide +kernel) (so58 hS)) ?_
  refine Eq.trans (ev_ci (show zcode 43 113 = some (0, 114, 0, 3, []) by decide +kernel) (by decide)) ?_
  exact ev_ceq (show zcode 43 114 = some (46, 117, 166, 0, []) by decide +kernel)
theorem b43_117 {T : zT} {V : zM}  (hS : zStr T)  : ev 43 117 [(2, 58)] [] T V = if (V 56 1) ≤ (V 58 3) then ev 43 166 [(2, 58)] [] T V else ev 43 131 [(2, 58)] [] T V := by
  refine Eq.trans (ev_lda (show zcode 43 117 = some (6, 118, 0, 0, []) by decide +kernel) rfl (by decide)) ?_
  refine Eq.trans (ev_gi (show zcode 43 118 = some (55, 121, 7, 3, []) by decide +kernel) (so58 hS)) ?_
  refine Eq.trans (ev_lda (show zcode 43 121 = some (6, 122, 0, 0, []) by decide +kernel) rfl (by decide)) ?_
  refine Eq.trans (ev_gq (show zcode 43 122 = some (56, 125, 7, 0, []) by decide +kernel) (so58 hS) (sp58_0 hS)) ?_
  refine Eq.trans (ev_gi (show zcode 43 125 = some (55, 128, 8, 1, []) by decide +kernel) (so56 hS)) ?_
  exact ev_cge (show zcode 43 128 = some (49, 131, 166, 0, []) by decide +kernel)
theorem b43_131 {T : zT} {V : zM}  (hS : zStr T) (h1 : (0 : Int) ≤ (V 58 3) ∧ (V 58 3) < 400) : ev 43 131 [(2, 58)] [] T V = (zcall 44 [(0, (V 57 (V 58 3)))] T V).bind fun x => ev 43 146 [(2, 58)] (z_push x.1 []) x.2.1 x.2.2 := by
  refine Eq.trans (ev_lda (show zcode 43 131 = some (6, 132, 0, 0, []) by decide +kernel) rfl (by decide)) ?_
  refine Eq.trans (ev_gq (show zcode 43 132 = some (56, 135, 7, 0, []) by decide +kernel) (so58 hS) (sp58_0 hS)) ?_
  refine Eq.trans (ev_gq (show zcode 43 135 = some (56, 138, 8, 0, []) by decide +kernel) (so56 hS) (sp56_0 hS)) ?_
  refine Eq.trans (ev_lda (show zcode 43 138 = some (6, 139, 0, 0, []) by decide +kernel) rfl (by decide)) ?_
  refine Eq.trans (ev_gi (show zcode 43 139 = some (55, 142, 7, 3, []) by decide +kernel) (so58 hS)) ?_
  refine Eq.trans (ev_ia (show zcode 43 142 = some (60, 143, 0, 0, []) by decide +kernel) (sa57 hS) h1) ?_
  exact ev_cstat (show zcode 43 143 = some (74, 146, 44, 1, []) by decide +kernel) (args := [(0, (V 57 (V 58 3)))]) (rest := []) rfl rfl (show 0 ≤ 8 by decide) ⟨by decide, show 1 ≤ 1 by decide⟩
theorem b43_146 {T : zT} {V : zM} {y0 : Int} (hS : zStr T)  : ev 43 146 [(2, 58)] [(0, y0)] T V = if y0 = (V 58 4) then ev 43 153 [(2, 58)] [] T V else ev 43 166 [(2, 58)] [] T V := by
  refine Eq.trans (ev_lda (show zcode 43 146 = some (6, 147, 0, 0, []) by decide +kernel) rfl (by decide)) ?_
  refine Eq.trans (ev_gi (show zcode 43 147 = some (55, 150, 7, 4, []) by decide +kernel) (so58 hS)) ?_
  exact ev_cne (show zcode 43 150 = some (47, 153, 166, 0, []) by decide +kernel)
theorem b43_153 {T : zT} {V : zM}  (hS : zStr T) (h1 : -2147483648 ≤ ((V 58 3) + 1) ∧ ((V 58 3) + 1) ≤ 2147483647) : ev 43 153 [(2, 58)] [] T V = ev 43 109 [(2, 58)] [] T (zwr V 58 3 ((V 58 3) + 1)) := by
  refine Eq.trans (ev_lda (show zcode 43 153 = some (6, 154, 0, 0, []) by decide +kernel) rfl (by decide)) ?_
  refine Eq.trans (ev_dup (show zcode 43 154 = some (36, 155, 0, 0, []) by decide +kernel) (by decide)) ?_
  refine Eq.trans (ev_gi (show zcode 43 155 = some (55, 158, 7, 3, []) by decide +kernel) (so58 hS)) ?_
  refine Eq.trans (ev_ci (show zcode 43 158 = some (0, 159, 0, 1, []) by decide +kernel) (by decide)) ?_
  refine Eq.trans (ev_add (show zcode 43 159 = some (11, 160, 0, 0, []) by decide +kernel) h1) ?_
  refine Eq.trans (ev_pi (show zcode 43 160 = some (57, 163, 7, 3, []) by decide +kernel) (so58 hS)) ?_
  exact ev_goto (show zcode 43 163 = some (53, 166, 109, 0, []) by decide +kernel)
theorem b43_166 {T : zT} {V : zM}  : ev 43 166 [(2, 58)] [] T V = some ((9, 0), T, V) := by
  exact ev_rn (show zcode 43 166 = some (73, 167, 0, 0, []) by decide +kernel)
/-! 44: TwoWayWall$TableReader.kindOfByte(I)I -/
theorem e44 {T : zT} {V : zM} {x0 : Int} : zcall 44 [(0, x0)] T V = ev 44 0 [(0, x0)] [] T V := rfl
theorem b44_0 {T : zT} {V : zM} {x0 : Int} : ev 44 0 [(0, x0)] [] T V = if x0 < 97 then ev 44 14 [(0, x0)] [] T V else ev 44 6 [(0, x0)] [] T V := by
  refine Eq.trans (ev_ldi (show zcode 44 0 = some (4, 1, 0, 0, []) by decide +kernel) rfl) ?_
  refine Eq.trans (ev_ci (show zcode 44 1 = some (0, 3, 0, 97, []) by decide +kernel) (by decide)) ?_
  exact ev_clt (show zcode 44 3 = some (48, 6, 14, 0, []) by decide +kernel)
theorem b44_6 {T : zT} {V : zM} {x0 : Int} : ev 44 6 [(0, x0)] [] T V = if 122 < x0 then ev 44 14 [(0, x0)] [] T V else ev 44 12 [(0, x0)] [] T V := by
  refine Eq.trans (ev_ldi (show zcode 44 6 = some (4, 7, 0, 0, []) by decide +kernel) rfl) ?_
  refine Eq.trans (ev_ci (show zcode 44 7 = some (0, 9, 0, 122, []) by decide +kernel) (by decide)) ?_
  exact ev_cgt (show zcode 44 9 = some (50, 12, 14, 0, []) by decide +kernel)
theorem b44_12 {T : zT} {V : zM} {x0 : Int} : ev 44 12 [(0, x0)] [] T V = some ((0, 1), T, V) := by
  refine Eq.trans (ev_ci (show zcode 44 12 = some (0, 13, 0, 1, []) by decide +kernel) (by decide)) ?_
  exact ev_ri (show zcode 44 13 = some (72, 14, 0, 0, []) by decide +kernel)
theorem b44_14 {T : zT} {V : zM} {x0 : Int} : ev 44 14 [(0, x0)] [] T V = if x0 < 48 then ev 44 30 [(0, x0)] [] T V else ev 44 20 [(0, x0)] [] T V := by
  refine Eq.trans (ev_ldi (show zcode 44 14 = some (4, 15, 0, 0, []) by decide +kernel) rfl) ?_
  refine Eq.trans (ev_ci (show zcode 44 15 = some (0, 17, 0, 48, []) by decide +kernel) (by decide)) ?_
  exact ev_clt (show zcode 44 17 = some (48, 20, 30, 0, []) by decide +kernel)
theorem b44_20 {T : zT} {V : zM} {x0 : Int} : ev 44 20 [(0, x0)] [] T V = if 57 < x0 then ev 44 30 [(0, x0)] [] T V else ev 44 26 [(0, x0)] [] T V := by
  refine Eq.trans (ev_ldi (show zcode 44 20 = some (4, 21, 0, 0, []) by decide +kernel) rfl) ?_
  refine Eq.trans (ev_ci (show zcode 44 21 = some (0, 23, 0, 57, []) by decide +kernel) (by decide)) ?_
  exact ev_cgt (show zcode 44 23 = some (50, 26, 30, 0, []) by decide +kernel)
theorem b44_26 {T : zT} {V : zM} {x0 : Int} : ev 44 26 [(0, x0)] [] T V = ev 44 31 [(0, x0)] [(0, 2)] T V := by
  refine Eq.trans (ev_ci (show zcode 44 26 = some (0, 27, 0, 2, []) by decide +kernel) (by decide)) ?_
  exact ev_goto (show zcode 44 27 = some (53, 30, 31, 0, []) by decide +kernel)
theorem b44_30 {T : zT} {V : zM} {x0 : Int} : ev 44 30 [(0, x0)] [] T V = ev 44 31 [(0, x0)] [(0, 3)] T V := by
  exact ev_ci (show zcode 44 30 = some (0, 31, 0, 3, []) by decide +kernel) (by decide)
theorem b44_31 {T : zT} {V : zM} {x0 : Int} {y0 : Int} : ev 44 31 [(0, x0)] [(0, y0)] T V = some ((0, y0), T, V) := by
  exact ev_ri (show zcode 44 31 = some (72, 32, 0, 0, []) by decide +kernel)
/-! 45: TwoWayWall$TableReader.tellClause()Z -/
theorem e45 {T : zT} {V : zM}  : zcall 45 [(2, 58)] T V = ev 45 0 [(2, 58)] [] T V := rfl
theorem b45_0 {T : zT} {V : zM}  (hS : zStr T)  : ev 45 0 [(2, 58)] [] T V = (zcall 46 [(2, 58), (3, 0)] T V).bind fun x => ev 45 6 [(2, 58)] (z_push x.1 []) x.2.1 x.2.2 := by
  refine Eq.trans (ev_lda (show zcode 45 0 = some (6, 1, 0, 0, []) by decide +kernel) rfl (by decide)) ?_
  refine Eq.trans (ev_cs (show zcode 45 1 = some (3, 3, 0, 0, []) by decide +kernel) (by decide)) ?_
  exact ev_cvirt (show zcode 45 3 = some (76, 6, 46, 2, [7]) by decide +kernel) (args := [(3, 0)]) (rest := []) rfl (so58 hS) rfl (show 0 ≤ 8 by decide) ⟨by decide, show 2 ≤ 3 by decide⟩
theorem b45_6 {T : zT} {V : zM} {y0 : Int} : ev 45 6 [(2, 58)] [(0, y0)] T V = if y0 = 0 then ev 45 21 [(2, 58)] [] T V else ev 45 9 [(2, 58)] [] T V := by
  exact ev_eq (show zcode 45 6 = some (40, 9, 21, 0, []) by decide +kernel)
theorem b45_9 {T : zT} {V : zM}  (hS : zStr T)  : ev 45 9 [(2, 58)] [] T V = (zcall 58 [(2, 58), (2, 33)] T V).bind fun x => ev 45 20 [(2, 58)] (z_push x.1 []) x.2.1 x.2.2 := by
  refine Eq.trans (ev_lda (show zcode 45 9 = some (6, 10, 0, 0, []) by decide +kernel) rfl (by decide)) ?_
  refine Eq.trans (ev_lda (show zcode 45 10 = some (6, 11, 0, 0, []) by decide +kernel) rfl (by decide)) ?_
  refine Eq.trans (ev_gq (show zcode 45 11 = some (56, 14, 7, 1, []) by decide +kernel) (so58 hS) (sp58_1 hS)) ?_
  refine Eq.trans (ev_gq (show zcode 45 14 = some (56, 17, 6, 5, []) by decide +kernel) (so28 hS) (sp28_5 hS)) ?_
  exact ev_cvirt (show zcode 45 17 = some (76, 20, 58, 2, [7]) by decide +kernel) (args := [(2, 33)]) (rest := []) rfl (so58 hS) rfl (show 0 ≤ 8 by decide) ⟨by decide, show 2 ≤ 5 by decide⟩
theorem b45_20 {T : zT} {V : zM} {y0 : Int} (h1 : (0 : Int) ≤ y0 ∧ y0 ≤ 1) : ev 45 20 [(2, 58)] [(0, y0)] T V = some ((0, y0), T, V) := by
  exact ev_rz (show zcode 45 20 = some (72, 21, 3, 0, []) by decide +kernel) h1
theorem b45_21 {T : zT} {V : zM}  (hS : zStr T)  : ev 45 21 [(2, 58)] [] T V = (zcall 46 [(2, 58), (3, 1)] T V).bind fun x => ev 45 27 [(2, 58)] (z_push x.1 []) x.2.1 x.2.2 := by
  refine Eq.trans (ev_lda (show zcode 45 21 = some (6, 22, 0, 0, []) by decide +kernel) rfl (by decide)) ?_
  refine Eq.trans (ev_cs (show zcode 45 22 = some (3, 24, 1, 0, []) by decide +kernel) (by decide)) ?_
  exact ev_cvirt (show zcode 45 24 = some (76, 27, 46, 2, [7]) by decide +kernel) (args := [(3, 1)]) (rest := []) rfl (so58 hS) rfl (show 0 ≤ 8 by decide) ⟨by decide, show 2 ≤ 3 by decide⟩
theorem b45_27 {T : zT} {V : zM} {y0 : Int} : ev 45 27 [(2, 58)] [(0, y0)] T V = if y0 = 0 then ev 45 42 [(2, 58)] [] T V else ev 45 30 [(2, 58)] [] T V := by
  exact ev_eq (show zcode 45 27 = some (40, 30, 42, 0, []) by decide +kernel)
theorem b45_30 {T : zT} {V : zM}  (hS : zStr T)  : ev 45 30 [(2, 58)] [] T V = (zcall 58 [(2, 58), (2, 41)] T V).bind fun x => ev 45 41 [(2, 58)] (z_push x.1 []) x.2.1 x.2.2 := by
  refine Eq.trans (ev_lda (show zcode 45 30 = some (6, 31, 0, 0, []) by decide +kernel) rfl (by decide)) ?_
  refine Eq.trans (ev_lda (show zcode 45 31 = some (6, 32, 0, 0, []) by decide +kernel) rfl (by decide)) ?_
  refine Eq.trans (ev_gq (show zcode 45 32 = some (56, 35, 7, 1, []) by decide +kernel) (so58 hS) (sp58_1 hS)) ?_
  refine Eq.trans (ev_gq (show zcode 45 35 = some (56, 38, 6, 6, []) by decide +kernel) (so28 hS) (sp28_6 hS)) ?_
  exact ev_cvirt (show zcode 45 38 = some (76, 41, 58, 2, [7]) by decide +kernel) (args := [(2, 41)]) (rest := []) rfl (so58 hS) rfl (show 0 ≤ 8 by decide) ⟨by decide, show 2 ≤ 5 by decide⟩
theorem b45_41 {T : zT} {V : zM} {y0 : Int} (h1 : (0 : Int) ≤ y0 ∧ y0 ≤ 1) : ev 45 41 [(2, 58)] [(0, y0)] T V = some ((0, y0), T, V) := by
  exact ev_rz (show zcode 45 41 = some (72, 42, 3, 0, []) by decide +kernel) h1
theorem b45_42 {T : zT} {V : zM}  (hS : zStr T)  : ev 45 42 [(2, 58)] [] T V = (zcall 46 [(2, 58), (3, 2)] T V).bind fun x => ev 45 48 [(2, 58)] (z_push x.1 []) x.2.1 x.2.2 := by
  refine Eq.trans (ev_lda (show zcode 45 42 = some (6, 43, 0, 0, []) by decide +kernel) rfl (by decide)) ?_
  refine Eq.trans (ev_cs (show zcode 45 43 = some (3, 45, 2, 0, []) by decide +kernel) (by decide)) ?_
  exact ev_cvirt (show zcode 45 45 = some (76, 48, 46, 2, [7]) by decide +kernel) (args := [(3, 2)]) (rest := []) rfl (so58 hS) rfl (show 0 ≤ 8 by decide) ⟨by decide, show 2 ≤ 3 by decide⟩
theorem b45_48 {T : zT} {V : zM} {y0 : Int} : ev 45 48 [(2, 58)] [(0, y0)] T V = if y0 = 0 then ev 45 56 [(2, 58)] [] T V else ev 45 51 [(2, 58)] [] T V := by
  exact ev_eq (show zcode 45 48 = some (40, 51, 56, 0, []) by decide +kernel)
theorem b45_51 {T : zT} {V : zM}  (hS : zStr T)  : ev 45 51 [(2, 58)] [] T V = (zcall 62 [(2, 58)] T V).bind fun x => ev 45 55 [(2, 58)] (z_push x.1 []) x.2.1 x.2.2 := by
  refine Eq.trans (ev_lda (show zcode 45 51 = some (6, 52, 0, 0, []) by decide +kernel) rfl (by decide)) ?_
  exact ev_cvirt (show zcode 45 52 = some (76, 55, 62, 1, [7]) by decide +kernel) (args := []) (rest := []) rfl (so58 hS) rfl (show 0 ≤ 8 by decide) ⟨by decide, show 1 ≤ 4 by decide⟩
theorem b45_55 {T : zT} {V : zM} {y0 : Int} (h1 : (0 : Int) ≤ y0 ∧ y0 ≤ 1) : ev 45 55 [(2, 58)] [(0, y0)] T V = some ((0, y0), T, V) := by
  exact ev_rz (show zcode 45 55 = some (72, 56, 3, 0, []) by decide +kernel) h1
theorem b45_56 {T : zT} {V : zM}  (hS : zStr T)  : ev 45 56 [(2, 58)] [] T V = (zcall 46 [(2, 58), (3, 3)] T V).bind fun x => ev 45 62 [(2, 58)] (z_push x.1 []) x.2.1 x.2.2 := by
  refine Eq.trans (ev_lda (show zcode 45 56 = some (6, 57, 0, 0, []) by decide +kernel) rfl (by decide)) ?_
  refine Eq.trans (ev_cs (show zcode 45 57 = some (3, 59, 3, 0, []) by decide +kernel) (by decide)) ?_
  exact ev_cvirt (show zcode 45 59 = some (76, 62, 46, 2, [7]) by decide +kernel) (args := [(3, 3)]) (rest := []) rfl (so58 hS) rfl (show 0 ≤ 8 by decide) ⟨by decide, show 2 ≤ 3 by decide⟩
theorem b45_62 {T : zT} {V : zM} {y0 : Int} : ev 45 62 [(2, 58)] [(0, y0)] T V = if y0 = 0 then ev 45 70 [(2, 58)] [] T V else ev 45 65 [(2, 58)] [] T V := by
  exact ev_eq (show zcode 45 62 = some (40, 65, 70, 0, []) by decide +kernel)
theorem b45_65 {T : zT} {V : zM}  (hS : zStr T)  : ev 45 65 [(2, 58)] [] T V = (zcall 66 [(2, 58)] T V).bind fun x => ev 45 69 [(2, 58)] (z_push x.1 []) x.2.1 x.2.2 := by
  refine Eq.trans (ev_lda (show zcode 45 65 = some (6, 66, 0, 0, []) by decide +kernel) rfl (by decide)) ?_
  exact ev_cvirt (show zcode 45 66 = some (76, 69, 66, 1, [7]) by decide +kernel) (args := []) (rest := []) rfl (so58 hS) rfl (show 0 ≤ 8 by decide) ⟨by decide, show 1 ≤ 2 by decide⟩
theorem b45_69 {T : zT} {V : zM} {y0 : Int} (h1 : (0 : Int) ≤ y0 ∧ y0 ≤ 1) : ev 45 69 [(2, 58)] [(0, y0)] T V = some ((0, y0), T, V) := by
  exact ev_rz (show zcode 45 69 = some (72, 70, 3, 0, []) by decide +kernel) h1
theorem b45_70 {T : zT} {V : zM}  (hS : zStr T)  : ev 45 70 [(2, 58)] [] T V = (zcall 46 [(2, 58), (3, 4)] T V).bind fun x => ev 45 76 [(2, 58)] (z_push x.1 []) x.2.1 x.2.2 := by
  refine Eq.trans (ev_lda (show zcode 45 70 = some (6, 71, 0, 0, []) by decide +kernel) rfl (by decide)) ?_
  refine Eq.trans (ev_cs (show zcode 45 71 = some (3, 73, 4, 0, []) by decide +kernel) (by decide)) ?_
  exact ev_cvirt (show zcode 45 73 = some (76, 76, 46, 2, [7]) by decide +kernel) (args := [(3, 4)]) (rest := []) rfl (so58 hS) rfl (show 0 ≤ 8 by decide) ⟨by decide, show 2 ≤ 3 by decide⟩
theorem b45_76 {T : zT} {V : zM} {y0 : Int} : ev 45 76 [(2, 58)] [(0, y0)] T V = if y0 = 0 then ev 45 84 [(2, 58)] [] T V else ev 45 79 [(2, 58)] [] T V := by
  exact ev_eq (show zcode 45 76 = some (40, 79, 84, 0, []) by decide +kernel)
theorem b45_79 {T : zT} {V : zM}  (hS : zStr T)  : ev 45 79 [(2, 58)] [] T V = (zcall 67 [(2, 58)] T V).bind fun x => ev 45 83 [(2, 58)] (z_push x.1 []) x.2.1 x.2.2 := by
  refine Eq.trans (ev_lda (show zcode 45 79 = some (6, 80, 0, 0, []) by decide +kernel) rfl (by decide)) ?_
  exact ev_cvirt (show zcode 45 80 = some (76, 83, 67, 1, [7]) by decide +kernel) (args := []) (rest := []) rfl (so58 hS) rfl (show 0 ≤ 8 by decide) ⟨by decide, show 1 ≤ 3 by decide⟩
theorem b45_83 {T : zT} {V : zM} {y0 : Int} (h1 : (0 : Int) ≤ y0 ∧ y0 ≤ 1) : ev 45 83 [(2, 58)] [(0, y0)] T V = some ((0, y0), T, V) := by
  exact ev_rz (show zcode 45 83 = some (72, 84, 3, 0, []) by decide +kernel) h1
theorem b45_84 {T : zT} {V : zM}  (hS : zStr T)  : ev 45 84 [(2, 58)] [] T V = (zcall 46 [(2, 58), (3, 5)] T V).bind fun x => ev 45 90 [(2, 58)] (z_push x.1 []) x.2.1 x.2.2 := by
  refine Eq.trans (ev_lda (show zcode 45 84 = some (6, 85, 0, 0, []) by decide +kernel) rfl (by decide)) ?_
  refine Eq.trans (ev_cs (show zcode 45 85 = some (3, 87, 5, 0, []) by decide +kernel) (by decide)) ?_
  exact ev_cvirt (show zcode 45 87 = some (76, 90, 46, 2, [7]) by decide +kernel) (args := [(3, 5)]) (rest := []) rfl (so58 hS) rfl (show 0 ≤ 8 by decide) ⟨by decide, show 2 ≤ 3 by decide⟩
theorem b45_90 {T : zT} {V : zM} {y0 : Int} : ev 45 90 [(2, 58)] [(0, y0)] T V = if y0 = 0 then ev 45 100 [(2, 58)] [] T V else ev 45 93 [(2, 58)] [] T V := by
  exact ev_eq (show zcode 45 90 = some (40, 93, 100, 0, []) by decide +kernel)
theorem b45_93 {T : zT} {V : zM}  (hS : zStr T)  : ev 45 93 [(2, 58)] [] T V = (zcall 68 [(2, 58)] T V).bind fun x => ev 45 97 [(2, 58)] (z_push x.1 []) x.2.1 x.2.2 := by
  refine Eq.trans (ev_lda (show zcode 45 93 = some (6, 94, 0, 0, []) by decide +kernel) rfl (by decide)) ?_
  exact ev_cvirt (show zcode 45 94 = some (76, 97, 68, 1, [7]) by decide +kernel) (args := []) (rest := []) rfl (so58 hS) rfl (show 0 ≤ 8 by decide) ⟨by decide, show 1 ≤ 3 by decide⟩
theorem b45_97 {T : zT} {V : zM} {y0 : Int} : ev 45 97 [(2, 58)] [(0, y0)] T V = ev 45 108 [(2, 58)] [(0, y0)] T V := by
  exact ev_goto (show zcode 45 97 = some (53, 100, 108, 0, []) by decide +kernel)
theorem b45_100 {T : zT} {V : zM}  (hS : zStr T)  : ev 45 100 [(2, 58)] [] T V = (zcall 60 [(2, 58), (0, (V 58 2))] T V).bind fun x => ev 45 108 [(2, 58)] (z_push x.1 []) x.2.1 x.2.2 := by
  refine Eq.trans (ev_lda (show zcode 45 100 = some (6, 101, 0, 0, []) by decide +kernel) rfl (by decide)) ?_
  refine Eq.trans (ev_lda (show zcode 45 101 = some (6, 102, 0, 0, []) by decide +kernel) rfl (by decide)) ?_
  refine Eq.trans (ev_gi (show zcode 45 102 = some (55, 105, 7, 2, []) by decide +kernel) (so58 hS)) ?_
  exact ev_cvirt (show zcode 45 105 = some (76, 108, 60, 2, [7]) by decide +kernel) (args := [(0, (V 58 2))]) (rest := []) rfl (so58 hS) rfl (show 0 ≤ 8 by decide) ⟨by decide, show 2 ≤ 2 by decide⟩
theorem b45_108 {T : zT} {V : zM} {y0 : Int} (h1 : (0 : Int) ≤ y0 ∧ y0 ≤ 1) : ev 45 108 [(2, 58)] [(0, y0)] T V = some ((0, y0), T, V) := by
  exact ev_rz (show zcode 45 108 = some (72, 109, 3, 0, []) by decide +kernel) h1
/-! 46: TwoWayWall$TableReader.isName(Ljava/lang/String;)Z -/
theorem e46 {T : zT} {V : zM} {x1 : Int} : zcall 46 [(2, 58), (3, x1)] T V = ev 46 0 [(2, 58), (3, x1), (9, 0)] [] T V := rfl
theorem b46_0 {T : zT} {V : zM} {x1 : Int} (hS : zStr T)  : ev 46 0 [(2, 58), (3, x1), (9, 0)] [] T V = if (V 58 4) = 1 then ev 46 8 [(2, 58), (3, x1), (9, 0)] [] T V else ev 46 24 [(2, 58), (3, x1), (9, 0)] [] T V := by
  refine Eq.trans (ev_lda (show zcode 46 0 = some (6, 1, 0, 0, []) by decide +kernel) rfl (by decide)) ?_
  refine Eq.trans (ev_gi (show zcode 46 1 = some (55, 4, 7, 4, []) by decide +kernel) (so58 hS)) ?_
  refine Eq.trans (ev_ci (show zcode 46 4 = some (0, 5, 0, 1, []) by decide +kernel) (by decide)) ?_
  exact ev_cne (show zcode 46 5 = some (47, 8, 24, 0, []) by decide +kernel)
theorem b46_8 {T : zT} {V : zM} {x1 : Int} (hS : zStr T) (h1 : -2147483648 ≤ ((V 58 3) - (V 58 2)) ∧ ((V 58 3) - (V 58 2)) ≤ 2147483647) (h2 : (0 : Int) ≤ x1 ∧ x1 < 7) : ev 46 8 [(2, 58), (3, x1), (9, 0)] [] T V = (zcall 47 [(3, x1)] T V).bind fun x => ev 46 21 [(2, 58), (3, x1), (9, 0)] (z_push x.1 [(0, ((V 58 3) - (V 58 2)))]) x.2.1 x.2.2 := by
  refine Eq.trans (ev_lda (show zcode 46 8 = some (6, 9, 0, 0, []) by decide +kernel) rfl (by decide)) ?_
  refine Eq.trans (ev_gi (show zcode 46 9 = some (55, 12, 7, 3, []) by decide +kernel) (so58 hS)) ?_
  refine Eq.trans (ev_lda (show zcode 46 12 = some (6, 13, 0, 0, []) by decide +kernel) rfl (by decide)) ?_
  refine Eq.trans (ev_gi (show zcode 46 13 = some (55, 16, 7, 2, []) by decide +kernel) (so58 hS)) ?_
  refine Eq.trans (ev_sub (show zcode 46 16 = some (12, 17, 0, 0, []) by decide +kernel) h1) ?_
  refine Eq.trans (ev_lda (show zcode 46 17 = some (6, 18, 1, 0, []) by decide +kernel) rfl (by decide)) ?_
  exact ev_cstr (show zcode 46 18 = some (77, 21, 47, 1, []) by decide +kernel) (args := []) (rest := [(0, ((V 58 3) - (V 58 2)))]) rfl h2 rfl (show 1 ≤ 8 by decide) ⟨by decide, show 1 ≤ 1 by decide⟩
theorem b46_21 {T : zT} {V : zM} {x1 : Int} {y0 : Int} {y1 : Int} : ev 46 21 [(2, 58), (3, x1), (9, 0)] [(0, y1), (0, y0)] T V = if y0 = y1 then ev 46 26 [(2, 58), (3, x1), (9, 0)] [] T V else ev 46 24 [(2, 58), (3, x1), (9, 0)] [] T V := by
  exact ev_ceq (show zcode 46 21 = some (46, 24, 26, 0, []) by decide +kernel)
theorem b46_24 {T : zT} {V : zM} {x1 : Int} : ev 46 24 [(2, 58), (3, x1), (9, 0)] [] T V = some ((0, 0), T, V) := by
  refine Eq.trans (ev_ci (show zcode 46 24 = some (0, 25, 0, 0, []) by decide +kernel) (by decide)) ?_
  exact ev_rz (show zcode 46 25 = some (72, 26, 3, 0, []) by decide +kernel) (by decide)
theorem b46_26 {T : zT} {V : zM} {x1 : Int} : ev 46 26 [(2, 58), (3, x1), (9, 0)] [] T V = ev 46 28 [(2, 58), (3, x1), (0, 0)] [] T V := by
  refine Eq.trans (ev_ci (show zcode 46 26 = some (0, 27, 0, 0, []) by decide +kernel) (by decide)) ?_
  exact ev_sti (show zcode 46 27 = some (7, 28, 2, 0, []) by decide +kernel) ⟨show 2 < 3 by decide, Or.inr (show ¬ (3 : Nat) = 1 by decide)⟩
theorem b46_28 {T : zT} {V : zM} {x1 : Int} {x2 : Int} (h1 : (0 : Int) ≤ x1 ∧ x1 < 7) : ev 46 28 [(2, 58), (3, x1), (0, x2)] [] T V = (zcall 47 [(3, x1)] T V).bind fun x => ev 46 33 [(2, 58), (3, x1), (0, x2)] (z_push x.1 [(0, x2)]) x.2.1 x.2.2 := by
  refine Eq.trans (ev_ldi (show zcode 46 28 = some (4, 29, 2, 0, []) by decide +kernel) rfl) ?_
  refine Eq.trans (ev_lda (show zcode 46 29 = some (6, 30, 1, 0, []) by decide +kernel) rfl (by decide)) ?_
  exact ev_cstr (show zcode 46 30 = some (77, 33, 47, 1, []) by decide +kernel) (args := []) (rest := [(0, x2)]) rfl h1 rfl (show 1 ≤ 8 by decide) ⟨by decide, show 1 ≤ 1 by decide⟩
theorem b46_33 {T : zT} {V : zM} {x1 : Int} {x2 : Int} {y0 : Int} {y1 : Int} : ev 46 33 [(2, 58), (3, x1), (0, x2)] [(0, y1), (0, y0)] T V = if y1 ≤ y0 then ev 46 66 [(2, 58), (3, x1), (0, x2)] [] T V else ev 46 36 [(2, 58), (3, x1), (0, x2)] [] T V := by
  exact ev_cge (show zcode 46 33 = some (49, 36, 66, 0, []) by decide +kernel)
theorem b46_36 {T : zT} {V : zM} {x1 : Int} {x2 : Int} (hS : zStr T) (h1 : -2147483648 ≤ ((V 58 2) + x2) ∧ ((V 58 2) + x2) ≤ 2147483647) (h2 : (0 : Int) ≤ ((V 58 2) + x2) ∧ ((V 58 2) + x2) < 400) (h3 : (0 : Int) ≤ x1 ∧ x1 < 7) : ev 46 36 [(2, 58), (3, x1), (0, x2)] [] T V = (zcall 49 [(3, x1), (0, x2)] T V).bind fun x => ev 46 55 [(2, 58), (3, x1), (0, x2)] (z_push x.1 [(0, (V 57 ((V 58 2) + x2)))]) x.2.1 x.2.2 := by
  refine Eq.trans (ev_lda (show zcode 46 36 = some (6, 37, 0, 0, []) by decide +kernel) rfl (by decide)) ?_
  refine Eq.trans (ev_gq (show zcode 46 37 = some (56, 40, 7, 0, []) by decide +kernel) (so58 hS) (sp58_0 hS)) ?_
  refine Eq.trans (ev_gq (show zcode 46 40 = some (56, 43, 8, 0, []) by decide +kernel) (so56 hS) (sp56_0 hS)) ?_
  refine Eq.trans (ev_lda (show zcode 46 43 = some (6, 44, 0, 0, []) by decide +kernel) rfl (by decide)) ?_
  refine Eq.trans (ev_gi (show zcode 46 44 = some (55, 47, 7, 2, []) by decide +kernel) (so58 hS)) ?_
  refine Eq.trans (ev_ldi (show zcode 46 47 = some (4, 48, 2, 0, []) by decide +kernel) rfl) ?_
  refine Eq.trans (ev_add (show zcode 46 48 = some (11, 49, 0, 0, []) by decide +kernel) h1) ?_
  refine Eq.trans (ev_ia (show zcode 46 49 = some (60, 50, 0, 0, []) by decide +kernel) (sa57 hS) h2) ?_
  refine Eq.trans (ev_lda (show zcode 46 50 = some (6, 51, 1, 0, []) by decide +kernel) rfl (by decide)) ?_
  refine Eq.trans (ev_ldi (show zcode 46 51 = some (4, 52, 2, 0, []) by decide +kernel) rfl) ?_
  exact ev_cstr (show zcode 46 52 = some (77, 55, 49, 2, []) by decide +kernel) (args := [(0, x2)]) (rest := [(0, (V 57 ((V 58 2) + x2)))]) rfl h3 rfl (show 1 ≤ 8 by decide) ⟨by decide, show 2 ≤ 2 by decide⟩
theorem b46_55 {T : zT} {V : zM} {x1 : Int} {x2 : Int} {y0 : Int} {y1 : Int} : ev 46 55 [(2, 58), (3, x1), (0, x2)] [(0, y1), (0, y0)] T V = if y0 = y1 then ev 46 60 [(2, 58), (3, x1), (0, x2)] [] T V else ev 46 58 [(2, 58), (3, x1), (0, x2)] [] T V := by
  exact ev_ceq (show zcode 46 55 = some (46, 58, 60, 0, []) by decide +kernel)
theorem b46_58 {T : zT} {V : zM} {x1 : Int} {x2 : Int} : ev 46 58 [(2, 58), (3, x1), (0, x2)] [] T V = some ((0, 0), T, V) := by
  refine Eq.trans (ev_ci (show zcode 46 58 = some (0, 59, 0, 0, []) by decide +kernel) (by decide)) ?_
  exact ev_rz (show zcode 46 59 = some (72, 60, 3, 0, []) by decide +kernel) (by decide)
theorem b46_60 {T : zT} {V : zM} {x1 : Int} {x2 : Int} (h1 : -2147483648 ≤ (x2 + 1) ∧ (x2 + 1) ≤ 2147483647) : ev 46 60 [(2, 58), (3, x1), (0, x2)] [] T V = ev 46 28 [(2, 58), (3, x1), (0, (x2 + 1))] [] T V := by
  refine Eq.trans (ev_inc (show zcode 46 60 = some (10, 63, 2, 1, []) by decide +kernel) rfl h1 (Or.inr (show ¬ (3 : Nat) = 1 by decide))) ?_
  exact ev_goto (show zcode 46 63 = some (53, 66, 28, 0, []) by decide +kernel)
theorem b46_66 {T : zT} {V : zM} {x1 : Int} {x2 : Int} : ev 46 66 [(2, 58), (3, x1), (0, x2)] [] T V = some ((0, 1), T, V) := by
  refine Eq.trans (ev_ci (show zcode 46 66 = some (0, 67, 0, 1, []) by decide +kernel) (by decide)) ?_
  exact ev_rz (show zcode 46 67 = some (72, 68, 3, 0, []) by decide +kernel) (by decide)
/-! 47: java/lang/String.length()I -/
theorem e47 {T : zT} {V : zM} {x0 : Int} : zcall 47 [(3, x0)] T V = ev 47 0 [(3, x0)] [] T V := rfl
theorem b47_0 {T : zT} {V : zM} {x0 : Int} (h1 : (0 : Int) ≤ x0 ∧ x0 < 7) : ev 47 0 [(3, x0)] [] T V = (zcall 48 [(3, x0)] T V).bind fun x => ev 47 9 [(3, x0)] (z_push x.1 [(0, ((z_str x0).length : Int))]) x.2.1 x.2.2 := by
  refine Eq.trans (ev_lda (show zcode 47 0 = some (6, 1, 0, 0, []) by decide +kernel) rfl (by decide)) ?_
  refine Eq.trans (ev_strv (show zcode 47 1 = some (82, 4, 0, 0, []) by decide +kernel) h1) ?_
  refine Eq.trans (ev_clen (show zcode 47 4 = some (68, 5, 0, 0, []) by decide +kernel) h1) ?_
  refine Eq.trans (ev_lda (show zcode 47 5 = some (6, 6, 0, 0, []) by decide +kernel) rfl (by decide)) ?_
  exact ev_cstr (show zcode 47 6 = some (77, 9, 48, 1, []) by decide +kernel) (args := []) (rest := [(0, ((z_str x0).length : Int))]) rfl h1 rfl (show 1 ≤ 8 by decide) ⟨by decide, show 1 ≤ 1 by decide⟩
theorem b47_9 {T : zT} {V : zM} {x0 : Int} {y0 : Int} {y1 : Int} (h1 : (0 : Int) ≤ y1 ∧ y1 < 32) : ev 47 9 [(3, x0)] [(0, y1), (0, y0)] T V = some ((0, (y0 / 2 ^ (y1).toNat)), T, V) := by
  refine Eq.trans (ev_shr (show zcode 47 9 = some (21, 10, 0, 0, []) by decide +kernel) h1) ?_
  exact ev_ri (show zcode 47 10 = some (72, 11, 0, 0, []) by decide +kernel)
/-! 48: java/lang/String.coder()B -/
theorem e48 {T : zT} {V : zM} {x0 : Int} : zcall 48 [(3, x0)] T V = ev 48 0 [(3, x0)] [] T V := rfl
theorem b48_0 {T : zT} {V : zM} {x0 : Int} : ev 48 0 [(3, x0)] [] T V = if 1 = 0 then ev 48 13 [(3, x0)] [] T V else ev 48 6 [(3, x0)] [] T V := by
  refine Eq.trans (ev_cst (show zcode 48 0 = some (80, 3, 0, 1, []) by decide +kernel)) ?_
  exact ev_eq (show zcode 48 3 = some (40, 6, 13, 0, []) by decide +kernel)
theorem b48_6 {T : zT} {V : zM} {x0 : Int} (h1 : (0 : Int) ≤ x0 ∧ x0 < 7) : ev 48 6 [(3, x0)] [] T V = ev 48 14 [(3, x0)] [(0, 0)] T V := by
  refine Eq.trans (ev_lda (show zcode 48 6 = some (6, 7, 0, 0, []) by decide +kernel) rfl (by decide)) ?_
  refine Eq.trans (ev_strc (show zcode 48 7 = some (83, 10, 0, 0, []) by decide +kernel) h1) ?_
  exact ev_goto (show zcode 48 10 = some (53, 13, 14, 0, []) by decide +kernel)
theorem b48_13 {T : zT} {V : zM} {x0 : Int} : ev 48 13 [(3, x0)] [] T V = ev 48 14 [(3, x0)] [(0, 1)] T V := by
  exact ev_ci (show zcode 48 13 = some (0, 14, 0, 1, []) by decide +kernel) (by decide)
theorem b48_14 {T : zT} {V : zM} {x0 : Int} {y0 : Int} (h1 : -128 ≤ y0 ∧ y0 ≤ 127) : ev 48 14 [(3, x0)] [(0, y0)] T V = some ((0, y0), T, V) := by
  exact ev_rb (show zcode 48 14 = some (72, 15, 4, 0, []) by decide +kernel) h1
/-! 49: java/lang/String.charAt(I)C -/
theorem e49 {T : zT} {V : zM} {x0 : Int} {x1 : Int} : zcall 49 [(3, x0), (0, x1)] T V = ev 49 0 [(3, x0), (0, x1)] [] T V := rfl
theorem b49_0 {T : zT} {V : zM} {x0 : Int} {x1 : Int} (h1 : (0 : Int) ≤ x0 ∧ x0 < 7) : ev 49 0 [(3, x0), (0, x1)] [] T V = (zcall 50 [(3, x0)] T V).bind fun x => ev 49 4 [(3, x0), (0, x1)] (z_push x.1 []) x.2.1 x.2.2 := by
  refine Eq.trans (ev_lda (show zcode 49 0 = some (6, 1, 0, 0, []) by decide +kernel) rfl (by decide)) ?_
  exact ev_cstr (show zcode 49 1 = some (77, 4, 50, 1, []) by decide +kernel) (args := []) (rest := []) rfl h1 rfl (show 0 ≤ 8 by decide) ⟨by decide, show 1 ≤ 1 by decide⟩
theorem b49_4 {T : zT} {V : zM} {x0 : Int} {x1 : Int} {y0 : Int} : ev 49 4 [(3, x0), (0, x1)] [(0, y0)] T V = if y0 = 0 then ev 49 16 [(3, x0), (0, x1)] [] T V else ev 49 7 [(3, x0), (0, x1)] [] T V := by
  exact ev_eq (show zcode 49 4 = some (40, 7, 16, 0, []) by decide +kernel)
theorem b49_7 {T : zT} {V : zM} {x0 : Int} {x1 : Int} (h1 : (0 : Int) ≤ x0 ∧ x0 < 7) : ev 49 7 [(3, x0), (0, x1)] [] T V = (zcall 51 [(5, x0), (0, x1)] T V).bind fun x => ev 49 15 [(3, x0), (0, x1)] (z_push x.1 []) x.2.1 x.2.2 := by
  refine Eq.trans (ev_lda (show zcode 49 7 = some (6, 8, 0, 0, []) by decide +kernel) rfl (by decide)) ?_
  refine Eq.trans (ev_strv (show zcode 49 8 = some (82, 11, 0, 0, []) by decide +kernel) h1) ?_
  refine Eq.trans (ev_ldi (show zcode 49 11 = some (4, 12, 1, 0, []) by decide +kernel) rfl) ?_
  exact ev_cstat (show zcode 49 12 = some (74, 15, 51, 2, []) by decide +kernel) (args := [(5, x0), (0, x1)]) (rest := []) rfl rfl (show 0 ≤ 8 by decide) ⟨by decide, show 2 ≤ 2 by decide⟩
theorem b49_15 {T : zT} {V : zM} {x0 : Int} {x1 : Int} {y0 : Int} (h1 : (0 : Int) ≤ y0 ∧ y0 ≤ 65535) : ev 49 15 [(3, x0), (0, x1)] [(0, y0)] T V = some ((0, y0), T, V) := by
  exact ev_rc (show zcode 49 15 = some (72, 16, 5, 0, []) by decide +kernel) h1
/-! 50: java/lang/String.isLatin1()Z -/
theorem e50 {T : zT} {V : zM} {x0 : Int} : zcall 50 [(3, x0)] T V = ev 50 0 [(3, x0)] [] T V := rfl
theorem b50_0 {T : zT} {V : zM} {x0 : Int} : ev 50 0 [(3, x0)] [] T V = if 1 = 0 then ev 50 17 [(3, x0)] [] T V else ev 50 6 [(3, x0)] [] T V := by
  refine Eq.trans (ev_cst (show zcode 50 0 = some (80, 3, 0, 1, []) by decide +kernel)) ?_
  exact ev_eq (show zcode 50 3 = some (40, 6, 17, 0, []) by decide +kernel)
theorem b50_6 {T : zT} {V : zM} {x0 : Int} (h1 : (0 : Int) ≤ x0 ∧ x0 < 7) : ev 50 6 [(3, x0)] [] T V = if 0 = 0 then ev 50 13 [(3, x0)] [] T V else ev 50 17 [(3, x0)] [] T V := by
  refine Eq.trans (ev_lda (show zcode 50 6 = some (6, 7, 0, 0, []) by decide +kernel) rfl (by decide)) ?_
  refine Eq.trans (ev_strc (show zcode 50 7 = some (83, 10, 0, 0, []) by decide +kernel) h1) ?_
  exact ev_ne (show zcode 50 10 = some (41, 13, 17, 0, []) by decide +kernel)
theorem b50_13 {T : zT} {V : zM} {x0 : Int} : ev 50 13 [(3, x0)] [] T V = ev 50 18 [(3, x0)] [(0, 1)] T V := by
  refine Eq.trans (ev_ci (show zcode 50 13 = some (0, 14, 0, 1, []) by decide +kernel) (by decide)) ?_
  exact ev_goto (show zcode 50 14 = some (53, 17, 18, 0, []) by decide +kernel)
theorem b50_17 {T : zT} {V : zM} {x0 : Int} : ev 50 17 [(3, x0)] [] T V = ev 50 18 [(3, x0)] [(0, 0)] T V := by
  exact ev_ci (show zcode 50 17 = some (0, 18, 0, 0, []) by decide +kernel) (by decide)
theorem b50_18 {T : zT} {V : zM} {x0 : Int} {y0 : Int} (h1 : (0 : Int) ≤ y0 ∧ y0 ≤ 1) : ev 50 18 [(3, x0)] [(0, y0)] T V = some ((0, y0), T, V) := by
  exact ev_rz (show zcode 50 18 = some (72, 19, 3, 0, []) by decide +kernel) h1
/-! 51: java/lang/StringLatin1.charAt([BI)C -/
theorem e51 {T : zT} {V : zM} {x0 : Int} {x1 : Int} : zcall 51 [(5, x0), (0, x1)] T V = ev 51 0 [(5, x0), (0, x1)] [] T V := rfl
theorem b51_0 {T : zT} {V : zM} {x0 : Int} {x1 : Int} (h1 : (0 : Int) ≤ x0 ∧ x0 < 7) : ev 51 0 [(5, x0), (0, x1)] [] T V = (zcall 52 [(0, x1), (0, ((z_str x0).length : Int))] T V).bind fun x => ev 51 6 [(5, x0), (0, x1)] (z_push x.1 []) x.2.1 x.2.2 := by
  refine Eq.trans (ev_ldi (show zcode 51 0 = some (4, 1, 1, 0, []) by decide +kernel) rfl) ?_
  refine Eq.trans (ev_lda (show zcode 51 1 = some (6, 2, 0, 0, []) by decide +kernel) rfl (by decide)) ?_
  refine Eq.trans (ev_clen (show zcode 51 2 = some (68, 3, 0, 0, []) by decide +kernel) h1) ?_
  exact ev_cstat (show zcode 51 3 = some (74, 6, 52, 2, []) by decide +kernel) (args := [(0, x1), (0, ((z_str x0).length : Int))]) (rest := []) rfl rfl (show 0 ≤ 8 by decide) ⟨by decide, show 2 ≤ 2 by decide⟩
theorem b51_6 {T : zT} {V : zM} {x0 : Int} {x1 : Int} (h1 : (0 : Int) ≤ x0 ∧ x0 < 7) (h2 : (0 : Int) ≤ x1 ∧ x1 < ((z_str x0).length : Int)) (h3 : (0 : Int) ≤ (zand ((z_str x0).getD (x1).toNat 0) 255) ∧ (zand ((z_str x0).getD (x1).toNat 0) 255) ≤ 65535) : ev 51 6 [(5, x0), (0, x1)] [] T V = some ((0, (zand ((z_str x0).getD (x1).toNat 0) 255)), T, V) := by
  refine Eq.trans (ev_lda (show zcode 51 6 = some (6, 7, 0, 0, []) by decide +kernel) rfl (by decide)) ?_
  refine Eq.trans (ev_ldi (show zcode 51 7 = some (4, 8, 1, 0, []) by decide +kernel) rfl) ?_
  refine Eq.trans (ev_ca (show zcode 51 8 = some (62, 9, 0, 0, []) by decide +kernel) h1 h2) ?_
  refine Eq.trans (ev_ci (show zcode 51 9 = some (0, 12, 0, 255, []) by decide +kernel) (by decide)) ?_
  refine Eq.trans (ev_and (show zcode 51 12 = some (14, 13, 0, 0, []) by decide +kernel)) ?_
  refine Eq.trans (ev_i2c (show zcode 51 13 = some (35, 14, 0, 0, []) by decide +kernel) h3) ?_
  exact ev_rc (show zcode 51 14 = some (72, 15, 5, 0, []) by decide +kernel) h3
/-! 52: java/lang/String.checkIndex(II)V -/
theorem e52 {T : zT} {V : zM} {x0 : Int} {x1 : Int} : zcall 52 [(0, x0), (0, x1)] T V = ev 52 0 [(0, x0), (0, x1)] [] T V := rfl
theorem b52_0 {T : zT} {V : zM} {x0 : Int} {x1 : Int} : ev 52 0 [(0, x0), (0, x1)] [] T V = (zcall 53 [(0, x0), (0, x1), (6, 0)] T V).bind fun x => ev 52 8 [(0, x0), (0, x1)] (z_push x.1 []) x.2.1 x.2.2 := by
  refine Eq.trans (ev_ldi (show zcode 52 0 = some (4, 1, 0, 0, []) by decide +kernel) rfl) ?_
  refine Eq.trans (ev_ldi (show zcode 52 1 = some (4, 2, 1, 0, []) by decide +kernel) rfl) ?_
  refine Eq.trans (ev_fst (show zcode 52 2 = some (81, 5, 0, 0, []) by decide +kernel)) ?_
  exact ev_cstat (show zcode 52 5 = some (74, 8, 53, 3, []) by decide +kernel) (args := [(0, x0), (0, x1), (6, 0)]) (rest := []) rfl rfl (show 0 ≤ 8 by decide) ⟨by decide, show 3 ≤ 3 by decide⟩
theorem b52_8 {T : zT} {V : zM} {x0 : Int} {x1 : Int} {y0 : Int} : ev 52 8 [(0, x0), (0, x1)] [(0, y0)] T V = some ((9, 0), T, V) := by
  refine Eq.trans (ev_pop (show zcode 52 8 = some (37, 9, 0, 0, []) by decide +kernel) (by decide)) ?_
  exact ev_rn (show zcode 52 9 = some (73, 10, 0, 0, []) by decide +kernel)
/-! 53: jdk/internal/util/Preconditions.checkIndex(IILjava/util/function/BiFunction;)I -/
theorem e53 {T : zT} {V : zM} {x0 : Int} {x1 : Int} : zcall 53 [(0, x0), (0, x1), (6, 0)] T V = ev 53 0 [(0, x0), (0, x1), (6, 0)] [] T V := rfl
theorem b53_0 {T : zT} {V : zM} {x0 : Int} {x1 : Int} : ev 53 0 [(0, x0), (0, x1), (6, 0)] [] T V = if x0 < 0 then ev 53 9 [(0, x0), (0, x1), (6, 0)] [] T V else ev 53 4 [(0, x0), (0, x1), (6, 0)] [] T V := by
  refine Eq.trans (ev_ldi (show zcode 53 0 = some (4, 1, 0, 0, []) by decide +kernel) rfl) ?_
  exact ev_lt (show zcode 53 1 = some (42, 4, 9, 0, []) by decide +kernel)
theorem b53_4 {T : zT} {V : zM} {x0 : Int} {x1 : Int} : ev 53 4 [(0, x0), (0, x1), (6, 0)] [] T V = if x0 < x1 then ev 53 16 [(0, x0), (0, x1), (6, 0)] [] T V else ev 53 9 [(0, x0), (0, x1), (6, 0)] [] T V := by
  refine Eq.trans (ev_ldi (show zcode 53 4 = some (4, 5, 0, 0, []) by decide +kernel) rfl) ?_
  refine Eq.trans (ev_ldi (show zcode 53 5 = some (4, 6, 1, 0, []) by decide +kernel) rfl) ?_
  exact ev_clt (show zcode 53 6 = some (48, 9, 16, 0, []) by decide +kernel)
theorem b53_16 {T : zT} {V : zM} {x0 : Int} {x1 : Int} : ev 53 16 [(0, x0), (0, x1), (6, 0)] [] T V = some ((0, x0), T, V) := by
  refine Eq.trans (ev_ldi (show zcode 53 16 = some (4, 17, 0, 0, []) by decide +kernel) rfl) ?_
  exact ev_ri (show zcode 53 17 = some (72, 18, 0, 0, []) by decide +kernel)
/-! 58: TwoWayWall$TableReader.tellLetter(LTwoWayWall$Tongue;)Z -/
theorem e58 {T : zT} {V : zM} {q1 : Int} : zcall 58 [(2, 58), (2, q1)] T V = ev 58 0 [(2, 58), (2, q1), (9, 0), (9, 0), (9, 0)] [] T V := rfl
theorem b58_0 {T : zT} {V : zM} {q1 : Int} (hS : zStr T)  : ev 58 0 [(2, 58), (2, q1), (9, 0), (9, 0), (9, 0)] [] T V = (zcall 43 [(2, 58)] T V).bind fun x => ev 58 4 [(2, 58), (2, q1), (9, 0), (9, 0), (9, 0)] (z_push x.1 []) x.2.1 x.2.2 := by
  refine Eq.trans (ev_lda (show zcode 58 0 = some (6, 1, 0, 0, []) by decide +kernel) rfl (by decide)) ?_
  exact ev_cvirt (show zcode 58 1 = some (76, 4, 43, 1, [7]) by decide +kernel) (args := []) (rest := []) rfl (so58 hS) rfl (show 0 ≤ 8 by decide) ⟨by decide, show 1 ≤ 1 by decide⟩
theorem b58_4 {T : zT} {V : zM} {q1 : Int} (hS : zStr T)  : ev 58 4 [(2, 58), (2, q1), (9, 0), (9, 0), (9, 0)] [] T V = (zcall 59 [(2, 58)] T V).bind fun x => ev 58 8 [(2, 58), (2, q1), (9, 0), (9, 0), (9, 0)] (z_push x.1 []) x.2.1 x.2.2 := by
  refine Eq.trans (ev_lda (show zcode 58 4 = some (6, 5, 0, 0, []) by decide +kernel) rfl (by decide)) ?_
  exact ev_cvirt (show zcode 58 5 = some (76, 8, 59, 1, [7]) by decide +kernel) (args := []) (rest := []) rfl (so58 hS) rfl (show 0 ≤ 8 by decide) ⟨by decide, show 1 ≤ 1 by decide⟩
theorem b58_8 {T : zT} {V : zM} {q1 : Int} {y0 : Int} : ev 58 8 [(2, 58), (2, q1), (9, 0), (9, 0), (9, 0)] [(0, y0)] T V = if y0 = (-1) then ev 58 14 [(2, 58), (2, q1), (0, y0), (9, 0), (9, 0)] [] T V else ev 58 23 [(2, 58), (2, q1), (0, y0), (9, 0), (9, 0)] [] T V := by
  refine Eq.trans (ev_sti (show zcode 58 8 = some (7, 9, 2, 0, []) by decide +kernel) ⟨show 2 < 5 by decide, Or.inr (show ¬ (2 : Nat) = 1 by decide)⟩) ?_
  refine Eq.trans (ev_ldi (show zcode 58 9 = some (4, 10, 2, 0, []) by decide +kernel) rfl) ?_
  refine Eq.trans (ev_ci (show zcode 58 10 = some (0, 11, 0, (-1), []) by decide +kernel) (by decide)) ?_
  exact ev_cne (show zcode 58 11 = some (47, 14, 23, 0, []) by decide +kernel)
theorem b58_14 {T : zT} {V : zM} {q1 : Int} {x2 : Int} (hS : zStr T)  : ev 58 14 [(2, 58), (2, q1), (0, x2), (9, 0), (9, 0)] [] T V = (zcall 60 [(2, 58), (0, (V 58 2))] T V).bind fun x => ev 58 22 [(2, 58), (2, q1), (0, x2), (9, 0), (9, 0)] (z_push x.1 []) x.2.1 x.2.2 := by
  refine Eq.trans (ev_lda (show zcode 58 14 = some (6, 15, 0, 0, []) by decide +kernel) rfl (by decide)) ?_
  refine Eq.trans (ev_lda (show zcode 58 15 = some (6, 16, 0, 0, []) by decide +kernel) rfl (by decide)) ?_
  refine Eq.trans (ev_gi (show zcode 58 16 = some (55, 19, 7, 2, []) by decide +kernel) (so58 hS)) ?_
  exact ev_cvirt (show zcode 58 19 = some (76, 22, 60, 2, [7]) by decide +kernel) (args := [(0, (V 58 2))]) (rest := []) rfl (so58 hS) rfl (show 0 ≤ 8 by decide) ⟨by decide, show 2 ≤ 2 by decide⟩
theorem b58_22 {T : zT} {V : zM} {q1 : Int} {x2 : Int} {y0 : Int} (h1 : (0 : Int) ≤ y0 ∧ y0 ≤ 1) : ev 58 22 [(2, 58), (2, q1), (0, x2), (9, 0), (9, 0)] [(0, y0)] T V = some ((0, y0), T, V) := by
  exact ev_rz (show zcode 58 22 = some (72, 23, 3, 0, []) by decide +kernel) h1
theorem b58_23 {T : zT} {V : zM} {q1 : Int} {x2 : Int} (hS : zStr T)  : ev 58 23 [(2, 58), (2, q1), (0, x2), (9, 0), (9, 0)] [] T V = (zcall 43 [(2, 58)] T V).bind fun x => ev 58 27 [(2, 58), (2, q1), (0, x2), (9, 0), (9, 0)] (z_push x.1 []) x.2.1 x.2.2 := by
  refine Eq.trans (ev_lda (show zcode 58 23 = some (6, 24, 0, 0, []) by decide +kernel) rfl (by decide)) ?_
  exact ev_cvirt (show zcode 58 24 = some (76, 27, 43, 1, [7]) by decide +kernel) (args := []) (rest := []) rfl (so58 hS) rfl (show 0 ≤ 8 by decide) ⟨by decide, show 1 ≤ 1 by decide⟩
theorem b58_27 {T : zT} {V : zM} {q1 : Int} {x2 : Int} (hS : zStr T)  : ev 58 27 [(2, 58), (2, q1), (0, x2), (9, 0), (9, 0)] [] T V = (zcall 61 [(2, 58)] T V).bind fun x => ev 58 31 [(2, 58), (2, q1), (0, x2), (9, 0), (9, 0)] (z_push x.1 []) x.2.1 x.2.2 := by
  refine Eq.trans (ev_lda (show zcode 58 27 = some (6, 28, 0, 0, []) by decide +kernel) rfl (by decide)) ?_
  exact ev_cvirt (show zcode 58 28 = some (76, 31, 61, 1, [7]) by decide +kernel) (args := []) (rest := []) rfl (so58 hS) rfl (show 0 ≤ 8 by decide) ⟨by decide, show 1 ≤ 4 by decide⟩
theorem b58_31 {T : zT} {V : zM} {q1 : Int} {x2 : Int} {y0 : Int} : ev 58 31 [(2, 58), (2, q1), (0, x2), (9, 0), (9, 0)] [(0, y0)] T V = if y0 = 0 then ev 58 36 [(2, 58), (2, q1), (0, x2), (0, y0), (9, 0)] [] T V else ev 58 45 [(2, 58), (2, q1), (0, x2), (0, y0), (9, 0)] [] T V := by
  refine Eq.trans (ev_sti (show zcode 58 31 = some (7, 32, 3, 0, []) by decide +kernel) ⟨show 3 < 5 by decide, Or.inr (show ¬ (0 : Nat) = 1 by decide)⟩) ?_
  refine Eq.trans (ev_ldi (show zcode 58 32 = some (4, 33, 3, 0, []) by decide +kernel) rfl) ?_
  exact ev_ne (show zcode 58 33 = some (41, 36, 45, 0, []) by decide +kernel)
theorem b58_36 {T : zT} {V : zM} {q1 : Int} {x2 : Int} {x3 : Int} (hS : zStr T)  : ev 58 36 [(2, 58), (2, q1), (0, x2), (0, x3), (9, 0)] [] T V = (zcall 60 [(2, 58), (0, (V 58 2))] T V).bind fun x => ev 58 44 [(2, 58), (2, q1), (0, x2), (0, x3), (9, 0)] (z_push x.1 []) x.2.1 x.2.2 := by
  refine Eq.trans (ev_lda (show zcode 58 36 = some (6, 37, 0, 0, []) by decide +kernel) rfl (by decide)) ?_
  refine Eq.trans (ev_lda (show zcode 58 37 = some (6, 38, 0, 0, []) by decide +kernel) rfl (by decide)) ?_
  refine Eq.trans (ev_gi (show zcode 58 38 = some (55, 41, 7, 2, []) by decide +kernel) (so58 hS)) ?_
  exact ev_cvirt (show zcode 58 41 = some (76, 44, 60, 2, [7]) by decide +kernel) (args := [(0, (V 58 2))]) (rest := []) rfl (so58 hS) rfl (show 0 ≤ 8 by decide) ⟨by decide, show 2 ≤ 2 by decide⟩
theorem b58_44 {T : zT} {V : zM} {q1 : Int} {x2 : Int} {x3 : Int} {y0 : Int} (h1 : (0 : Int) ≤ y0 ∧ y0 ≤ 1) : ev 58 44 [(2, 58), (2, q1), (0, x2), (0, x3), (9, 0)] [(0, y0)] T V = some ((0, y0), T, V) := by
  exact ev_rz (show zcode 58 44 = some (72, 45, 3, 0, []) by decide +kernel) h1
theorem b58_45 {T : zT} {V : zM} {q1 : Int} {x2 : Int} {x3 : Int} (hS : zStr T)  : ev 58 45 [(2, 58), (2, q1), (0, x2), (0, x3), (9, 0)] [] T V = (zcall 43 [(2, 58)] T V).bind fun x => ev 58 49 [(2, 58), (2, q1), (0, x2), (0, x3), (9, 0)] (z_push x.1 []) x.2.1 x.2.2 := by
  refine Eq.trans (ev_lda (show zcode 58 45 = some (6, 46, 0, 0, []) by decide +kernel) rfl (by decide)) ?_
  exact ev_cvirt (show zcode 58 46 = some (76, 49, 43, 1, [7]) by decide +kernel) (args := []) (rest := []) rfl (so58 hS) rfl (show 0 ≤ 8 by decide) ⟨by decide, show 1 ≤ 1 by decide⟩
theorem b58_49 {T : zT} {V : zM} {q1 : Int} {x2 : Int} {x3 : Int} (hS : zStr T)  : ev 58 49 [(2, 58), (2, q1), (0, x2), (0, x3), (9, 0)] [] T V = (zcall 46 [(2, 58), (3, 6)] T V).bind fun x => ev 58 58 [(2, 58), (2, q1), (0, x2), (0, x3), (0, 0)] (z_push x.1 []) x.2.1 x.2.2 := by
  refine Eq.trans (ev_ci (show zcode 58 49 = some (0, 50, 0, 0, []) by decide +kernel) (by decide)) ?_
  refine Eq.trans (ev_sti (show zcode 58 50 = some (7, 52, 4, 0, []) by decide +kernel) ⟨show 4 < 5 by decide, Or.inr (show ¬ (0 : Nat) = 1 by decide)⟩) ?_
  refine Eq.trans (ev_lda (show zcode 58 52 = some (6, 53, 0, 0, []) by decide +kernel) rfl (by decide)) ?_
  refine Eq.trans (ev_cs (show zcode 58 53 = some (3, 55, 6, 0, []) by decide +kernel) (by decide)) ?_
  exact ev_cvirt (show zcode 58 55 = some (76, 58, 46, 2, [7]) by decide +kernel) (args := [(3, 6)]) (rest := []) rfl (so58 hS) rfl (show 0 ≤ 8 by decide) ⟨by decide, show 2 ≤ 3 by decide⟩
theorem b58_58 {T : zT} {V : zM} {q1 : Int} {x2 : Int} {x3 : Int} {x4 : Int} {y0 : Int} : ev 58 58 [(2, 58), (2, q1), (0, x2), (0, x3), (0, x4)] [(0, y0)] T V = if y0 = 0 then ev 58 96 [(2, 58), (2, q1), (0, x2), (0, x3), (0, x4)] [] T V else ev 58 61 [(2, 58), (2, q1), (0, x2), (0, x3), (0, x4)] [] T V := by
  exact ev_eq (show zcode 58 58 = some (40, 61, 96, 0, []) by decide +kernel)
theorem b58_61 {T : zT} {V : zM} {q1 : Int} {x2 : Int} {x3 : Int} {x4 : Int} (hS : zStr T)  : ev 58 61 [(2, 58), (2, q1), (0, x2), (0, x3), (0, x4)] [] T V = (zcall 43 [(2, 58)] T V).bind fun x => ev 58 65 [(2, 58), (2, q1), (0, x2), (0, x3), (0, x4)] (z_push x.1 []) x.2.1 x.2.2 := by
  refine Eq.trans (ev_lda (show zcode 58 61 = some (6, 62, 0, 0, []) by decide +kernel) rfl (by decide)) ?_
  exact ev_cvirt (show zcode 58 62 = some (76, 65, 43, 1, [7]) by decide +kernel) (args := []) (rest := []) rfl (so58 hS) rfl (show 0 ≤ 8 by decide) ⟨by decide, show 1 ≤ 1 by decide⟩
theorem b58_65 {T : zT} {V : zM} {q1 : Int} {x2 : Int} {x3 : Int} {x4 : Int} (hS : zStr T)  : ev 58 65 [(2, 58), (2, q1), (0, x2), (0, x3), (0, x4)] [] T V = (zcall 61 [(2, 58)] T V).bind fun x => ev 58 69 [(2, 58), (2, q1), (0, x2), (0, x3), (0, x4)] (z_push x.1 []) x.2.1 x.2.2 := by
  refine Eq.trans (ev_lda (show zcode 58 65 = some (6, 66, 0, 0, []) by decide +kernel) rfl (by decide)) ?_
  exact ev_cvirt (show zcode 58 66 = some (76, 69, 61, 1, [7]) by decide +kernel) (args := []) (rest := []) rfl (so58 hS) rfl (show 0 ≤ 8 by decide) ⟨by decide, show 1 ≤ 4 by decide⟩
theorem b58_69 {T : zT} {V : zM} {q1 : Int} {x2 : Int} {x3 : Int} {x4 : Int} {y0 : Int} : ev 58 69 [(2, 58), (2, q1), (0, x2), (0, x3), (0, x4)] [(0, y0)] T V = if y0 = 0 then ev 58 83 [(2, 58), (2, q1), (0, x2), (0, x3), (0, y0)] [] T V else ev 58 76 [(2, 58), (2, q1), (0, x2), (0, x3), (0, y0)] [] T V := by
  refine Eq.trans (ev_sti (show zcode 58 69 = some (7, 71, 4, 0, []) by decide +kernel) ⟨show 4 < 5 by decide, Or.inr (show ¬ (0 : Nat) = 1 by decide)⟩) ?_
  refine Eq.trans (ev_ldi (show zcode 58 71 = some (4, 73, 4, 0, []) by decide +kernel) rfl) ?_
  exact ev_eq (show zcode 58 73 = some (40, 76, 83, 0, []) by decide +kernel)
theorem b58_76 {T : zT} {V : zM} {q1 : Int} {x2 : Int} {x3 : Int} {x4 : Int} : ev 58 76 [(2, 58), (2, q1), (0, x2), (0, x3), (0, x4)] [] T V = if (zand x4 x3) = 0 then ev 58 92 [(2, 58), (2, q1), (0, x2), (0, x3), (0, x4)] [] T V else ev 58 83 [(2, 58), (2, q1), (0, x2), (0, x3), (0, x4)] [] T V := by
  refine Eq.trans (ev_ldi (show zcode 58 76 = some (4, 78, 4, 0, []) by decide +kernel) rfl) ?_
  refine Eq.trans (ev_ldi (show zcode 58 78 = some (4, 79, 3, 0, []) by decide +kernel) rfl) ?_
  refine Eq.trans (ev_and (show zcode 58 79 = some (14, 80, 0, 0, []) by decide +kernel)) ?_
  exact ev_eq (show zcode 58 80 = some (40, 83, 92, 0, []) by decide +kernel)
theorem b58_83 {T : zT} {V : zM} {q1 : Int} {x2 : Int} {x3 : Int} {x4 : Int} (hS : zStr T)  : ev 58 83 [(2, 58), (2, q1), (0, x2), (0, x3), (0, x4)] [] T V = (zcall 60 [(2, 58), (0, (V 58 2))] T V).bind fun x => ev 58 91 [(2, 58), (2, q1), (0, x2), (0, x3), (0, x4)] (z_push x.1 []) x.2.1 x.2.2 := by
  refine Eq.trans (ev_lda (show zcode 58 83 = some (6, 84, 0, 0, []) by decide +kernel) rfl (by decide)) ?_
  refine Eq.trans (ev_lda (show zcode 58 84 = some (6, 85, 0, 0, []) by decide +kernel) rfl (by decide)) ?_
  refine Eq.trans (ev_gi (show zcode 58 85 = some (55, 88, 7, 2, []) by decide +kernel) (so58 hS)) ?_
  exact ev_cvirt (show zcode 58 88 = some (76, 91, 60, 2, [7]) by decide +kernel) (args := [(0, (V 58 2))]) (rest := []) rfl (so58 hS) rfl (show 0 ≤ 8 by decide) ⟨by decide, show 2 ≤ 2 by decide⟩
theorem b58_91 {T : zT} {V : zM} {q1 : Int} {x2 : Int} {x3 : Int} {x4 : Int} {y0 : Int} (h1 : (0 : Int) ≤ y0 ∧ y0 ≤ 1) : ev 58 91 [(2, 58), (2, q1), (0, x2), (0, x3), (0, x4)] [(0, y0)] T V = some ((0, y0), T, V) := by
  exact ev_rz (show zcode 58 91 = some (72, 92, 3, 0, []) by decide +kernel) h1
theorem b58_92 {T : zT} {V : zM} {q1 : Int} {x2 : Int} {x3 : Int} {x4 : Int} (hS : zStr T)  : ev 58 92 [(2, 58), (2, q1), (0, x2), (0, x3), (0, x4)] [] T V = (zcall 43 [(2, 58)] T V).bind fun x => ev 58 96 [(2, 58), (2, q1), (0, x2), (0, x3), (0, x4)] (z_push x.1 []) x.2.1 x.2.2 := by
  refine Eq.trans (ev_lda (show zcode 58 92 = some (6, 93, 0, 0, []) by decide +kernel) rfl (by decide)) ?_
  exact ev_cvirt (show zcode 58 93 = some (76, 96, 43, 1, [7]) by decide +kernel) (args := []) (rest := []) rfl (so58 hS) rfl (show 0 ≤ 8 by decide) ⟨by decide, show 1 ≤ 1 by decide⟩
theorem b58_96 {T : zT} {V : zM} {q1 : Int} {x2 : Int} {x3 : Int} {x4 : Int} (h1 : zTongue T q1) (h2 : (0 : Int) ≤ x2 ∧ x2 < 26) : ev 58 96 [(2, 58), (2, q1), (0, x2), (0, x3), (0, x4)] [] T V = some ((0, 1), T, (zwr (zwr V (q1 + 1) x2 x3) (q1 + 2) x2 x4)) := by
  refine Eq.trans (ev_lda (show zcode 58 96 = some (6, 97, 1, 0, []) by decide +kernel) rfl (by decide)) ?_
  refine Eq.trans (ev_gq (show zcode 58 97 = some (56, 100, 9, 0, []) by decide +kernel) h1.o h1.p0) ?_
  refine Eq.trans (ev_ldi (show zcode 58 100 = some (4, 101, 2, 0, []) by decide +kernel) rfl) ?_
  refine Eq.trans (ev_ldi (show zcode 58 101 = some (4, 102, 3, 0, []) by decide +kernel) rfl) ?_
  refine Eq.trans (ev_is (show zcode 58 102 = some (64, 103, 0, 0, []) by decide +kernel) h1.a1 h2) ?_
  refine Eq.trans (ev_lda (show zcode 58 103 = some (6, 104, 1, 0, []) by decide +kernel) rfl (by decide)) ?_
  refine Eq.trans (ev_gq (show zcode 58 104 = some (56, 107, 9, 1, []) by decide +kernel) h1.o h1.p1) ?_
  refine Eq.trans (ev_ldi (show zcode 58 107 = some (4, 108, 2, 0, []) by decide +kernel) rfl) ?_
  refine Eq.trans (ev_ldi (show zcode 58 108 = some (4, 110, 4, 0, []) by decide +kernel) rfl) ?_
  refine Eq.trans (ev_is (show zcode 58 110 = some (64, 111, 0, 0, []) by decide +kernel) h1.a2 h2) ?_
  refine Eq.trans (ev_ci (show zcode 58 111 = some (0, 112, 0, 1, []) by decide +kernel) (by decide)) ?_
  exact ev_rz (show zcode 58 112 = some (72, 113, 3, 0, []) by decide +kernel) (by decide)
/-! 59: TwoWayWall$TableReader.oneLetter()I -/
theorem e59 {T : zT} {V : zM}  : zcall 59 [(2, 58)] T V = ev 59 0 [(2, 58)] [] T V := rfl
theorem b59_0 {T : zT} {V : zM}  (hS : zStr T)  : ev 59 0 [(2, 58)] [] T V = if (V 58 4) = 1 then ev 59 8 [(2, 58)] [] T V else ev 59 39 [(2, 58)] [] T V := by
  refine Eq.trans (ev_lda (show zcode 59 0 = some (6, 1, 0, 0, []) by decide +kernel) rfl (by decide)) ?_
  refine Eq.trans (ev_gi (show zcode 59 1 = some (55, 4, 7, 4, []) by decide +kernel) (so58 hS)) ?_
  refine Eq.trans (ev_ci (show zcode 59 4 = some (0, 5, 0, 1, []) by decide +kernel) (by decide)) ?_
  exact ev_cne (show zcode 59 5 = some (47, 8, 39, 0, []) by decide +kernel)
theorem b59_8 {T : zT} {V : zM}  (hS : zStr T) (h1 : -2147483648 ≤ ((V 58 3) - (V 58 2)) ∧ ((V 58 3) - (V 58 2)) ≤ 2147483647) : ev 59 8 [(2, 58)] [] T V = if ((V 58 3) - (V 58 2)) = 1 then ev 59 21 [(2, 58)] [] T V else ev 59 39 [(2, 58)] [] T V := by
  refine Eq.trans (ev_lda (show zcode 59 8 = some (6, 9, 0, 0, []) by decide +kernel) rfl (by decide)) ?_
  refine Eq.trans (ev_gi (show zcode 59 9 = some (55, 12, 7, 3, []) by decide +kernel) (so58 hS)) ?_
  refine Eq.trans (ev_lda (show zcode 59 12 = some (6, 13, 0, 0, []) by decide +kernel) rfl (by decide)) ?_
  refine Eq.trans (ev_gi (show zcode 59 13 = some (55, 16, 7, 2, []) by decide +kernel) (so58 hS)) ?_
  refine Eq.trans (ev_sub (show zcode 59 16 = some (12, 17, 0, 0, []) by decide +kernel) h1) ?_
  refine Eq.trans (ev_ci (show zcode 59 17 = some (0, 18, 0, 1, []) by decide +kernel) (by decide)) ?_
  exact ev_cne (show zcode 59 18 = some (47, 21, 39, 0, []) by decide +kernel)
theorem b59_21 {T : zT} {V : zM}  (hS : zStr T) (h1 : (0 : Int) ≤ (V 58 2) ∧ (V 58 2) < 400) (h2 : -2147483648 ≤ ((V 57 (V 58 2)) - 97) ∧ ((V 57 (V 58 2)) - 97) ≤ 2147483647) : ev 59 21 [(2, 58)] [] T V = ev 59 40 [(2, 58)] [(0, ((V 57 (V 58 2)) - 97))] T V := by
  refine Eq.trans (ev_lda (show zcode 59 21 = some (6, 22, 0, 0, []) by decide +kernel) rfl (by decide)) ?_
  refine Eq.trans (ev_gq (show zcode 59 22 = some (56, 25, 7, 0, []) by decide +kernel) (so58 hS) (sp58_0 hS)) ?_
  refine Eq.trans (ev_gq (show zcode 59 25 = some (56, 28, 8, 0, []) by decide +kernel) (so56 hS) (sp56_0 hS)) ?_
  refine Eq.trans (ev_lda (show zcode 59 28 = some (6, 29, 0, 0, []) by decide +kernel) rfl (by decide)) ?_
  refine Eq.trans (ev_gi (show zcode 59 29 = some (55, 32, 7, 2, []) by decide +kernel) (so58 hS)) ?_
  refine Eq.trans (ev_ia (show zcode 59 32 = some (60, 33, 0, 0, []) by decide +kernel) (sa57 hS) h1) ?_
  refine Eq.trans (ev_ci (show zcode 59 33 = some (0, 35, 0, 97, []) by decide +kernel) (by decide)) ?_
  refine Eq.trans (ev_sub (show zcode 59 35 = some (12, 36, 0, 0, []) by decide +kernel) h2) ?_
  exact ev_goto (show zcode 59 36 = some (53, 39, 40, 0, []) by decide +kernel)
theorem b59_39 {T : zT} {V : zM}  : ev 59 39 [(2, 58)] [] T V = ev 59 40 [(2, 58)] [(0, (-1))] T V := by
  exact ev_ci (show zcode 59 39 = some (0, 40, 0, (-1), []) by decide +kernel) (by decide)
theorem b59_40 {T : zT} {V : zM} {y0 : Int} : ev 59 40 [(2, 58)] [(0, y0)] T V = some ((0, y0), T, V) := by
  exact ev_ri (show zcode 59 40 = some (72, 41, 0, 0, []) by decide +kernel)
/-! 60: TwoWayWall$TableReader.failAt(I)Z -/
theorem e60 {T : zT} {V : zM} {x1 : Int} : zcall 60 [(2, 58), (0, x1)] T V = ev 60 0 [(2, 58), (0, x1)] [] T V := rfl
theorem b60_0 {T : zT} {V : zM} {x1 : Int} (hS : zStr T)  : ev 60 0 [(2, 58), (0, x1)] [] T V = some ((0, 0), T, (zwr V 58 5 x1)) := by
  refine Eq.trans (ev_lda (show zcode 60 0 = some (6, 1, 0, 0, []) by decide +kernel) rfl (by decide)) ?_
  refine Eq.trans (ev_ldi (show zcode 60 1 = some (4, 2, 1, 0, []) by decide +kernel) rfl) ?_
  refine Eq.trans (ev_pi (show zcode 60 2 = some (57, 5, 7, 5, []) by decide +kernel) (so58 hS)) ?_
  refine Eq.trans (ev_ci (show zcode 60 5 = some (0, 6, 0, 0, []) by decide +kernel) (by decide)) ?_
  exact ev_rz (show zcode 60 6 = some (72, 7, 3, 0, []) by decide +kernel) (by decide)
/-! 61: TwoWayWall$TableReader.strokeRow()I -/
theorem e61 {T : zT} {V : zM}  : zcall 61 [(2, 58)] T V = ev 61 0 [(2, 58), (9, 0), (9, 0), (9, 0)] [] T V := rfl
theorem b61_0 {T : zT} {V : zM}  (hS : zStr T)  : ev 61 0 [(2, 58), (9, 0), (9, 0), (9, 0)] [] T V = if (V 58 4) = 2 then ev 61 10 [(2, 58), (9, 0), (9, 0), (9, 0)] [] T V else ev 61 8 [(2, 58), (9, 0), (9, 0), (9, 0)] [] T V := by
  refine Eq.trans (ev_lda (show zcode 61 0 = some (6, 1, 0, 0, []) by decide +kernel) rfl (by decide)) ?_
  refine Eq.trans (ev_gi (show zcode 61 1 = some (55, 4, 7, 4, []) by decide +kernel) (so58 hS)) ?_
  refine Eq.trans (ev_ci (show zcode 61 4 = some (0, 5, 0, 2, []) by decide +kernel) (by decide)) ?_
  exact ev_ceq (show zcode 61 5 = some (46, 8, 10, 0, []) by decide +kernel)
theorem b61_8 {T : zT} {V : zM}  : ev 61 8 [(2, 58), (9, 0), (9, 0), (9, 0)] [] T V = some ((0, 0), T, V) := by
  refine Eq.trans (ev_ci (show zcode 61 8 = some (0, 9, 0, 0, []) by decide +kernel) (by decide)) ?_
  exact ev_ri (show zcode 61 9 = some (72, 10, 0, 0, []) by decide +kernel)
theorem b61_10 {T : zT} {V : zM}  (hS : zStr T)  : ev 61 10 [(2, 58), (9, 0), (9, 0), (9, 0)] [] T V = ev 61 17 [(2, 58), (0, 0), (0, (V 58 2)), (9, 0)] [] T V := by
  refine Eq.trans (ev_ci (show zcode 61 10 = some (0, 11, 0, 0, []) by decide +kernel) (by decide)) ?_
  refine Eq.trans (ev_sti (show zcode 61 11 = some (7, 12, 1, 0, []) by decide +kernel) ⟨show 1 < 4 by decide, Or.inr (show ¬ (2 : Nat) = 1 by decide)⟩) ?_
  refine Eq.trans (ev_lda (show zcode 61 12 = some (6, 13, 0, 0, []) by decide +kernel) rfl (by decide)) ?_
  refine Eq.trans (ev_gi (show zcode 61 13 = some (55, 16, 7, 2, []) by decide +kernel) (so58 hS)) ?_
  exact ev_sti (show zcode 61 16 = some (7, 17, 2, 0, []) by decide +kernel) ⟨show 2 < 4 by decide, Or.inr (show ¬ (0 : Nat) = 1 by decide)⟩
theorem b61_17 {T : zT} {V : zM} {x1 : Int} {x2 : Int} {v3 : zV} (hS : zStr T)  : ev 61 17 [(2, 58), (0, x1), (0, x2), v3] [] T V = if (V 58 3) ≤ x2 then ev 61 75 [(2, 58), (0, x1), (0, x2), v3] [] T V else ev 61 25 [(2, 58), (0, x1), (0, x2), v3] [] T V := by
  refine Eq.trans (ev_ldi (show zcode 61 17 = some (4, 18, 2, 0, []) by decide +kernel) rfl) ?_
  refine Eq.trans (ev_lda (show zcode 61 18 = some (6, 19, 0, 0, []) by decide +kernel) rfl (by decide)) ?_
  refine Eq.trans (ev_gi (show zcode 61 19 = some (55, 22, 7, 3, []) by decide +kernel) (so58 hS)) ?_
  exact ev_cge (show zcode 61 22 = some (49, 25, 75, 0, []) by decide +kernel)
theorem b61_25 {T : zT} {V : zM} {x1 : Int} {x2 : Int} {v3 : zV} (hS : zStr T) (h1 : (0 : Int) ≤ x2 ∧ x2 < 400) (h2 : -2147483648 ≤ ((V 57 x2) - 48) ∧ ((V 57 x2) - 48) ≤ 2147483647) : ev 61 25 [(2, 58), (0, x1), (0, x2), v3] [] T V = if ((V 57 x2) - 48) < 1 then ev 61 59 [(2, 58), (0, x1), (0, x2), (0, ((V 57 x2) - 48))] [] T V else ev 61 43 [(2, 58), (0, x1), (0, x2), (0, ((V 57 x2) - 48))] [] T V := by
  refine Eq.trans (ev_lda (show zcode 61 25 = some (6, 26, 0, 0, []) by decide +kernel) rfl (by decide)) ?_
  refine Eq.trans (ev_gq (show zcode 61 26 = some (56, 29, 7, 0, []) by decide +kernel) (so58 hS) (sp58_0 hS)) ?_
  refine Eq.trans (ev_gq (show zcode 61 29 = some (56, 32, 8, 0, []) by decide +kernel) (so56 hS) (sp56_0 hS)) ?_
  refine Eq.trans (ev_ldi (show zcode 61 32 = some (4, 33, 2, 0, []) by decide +kernel) rfl) ?_
  refine Eq.trans (ev_ia (show zcode 61 33 = some (60, 34, 0, 0, []) by decide +kernel) (sa57 hS) h1) ?_
  refine Eq.trans (ev_ci (show zcode 61 34 = some (0, 36, 0, 48, []) by decide +kernel) (by decide)) ?_
  refine Eq.trans (ev_sub (show zcode 61 36 = some (12, 37, 0, 0, []) by decide +kernel) h2) ?_
  refine Eq.trans (ev_sti (show zcode 61 37 = some (7, 38, 3, 0, []) by decide +kernel) ⟨show 3 < 4 by decide, Or.inr (show ¬ (0 : Nat) = 1 by decide)⟩) ?_
  refine Eq.trans (ev_ldi (show zcode 61 38 = some (4, 39, 3, 0, []) by decide +kernel) rfl) ?_
  refine Eq.trans (ev_ci (show zcode 61 39 = some (0, 40, 0, 1, []) by decide +kernel) (by decide)) ?_
  exact ev_clt (show zcode 61 40 = some (48, 43, 59, 0, []) by decide +kernel)
theorem b61_43 {T : zT} {V : zM} {x1 : Int} {x2 : Int} {x3 : Int} : ev 61 43 [(2, 58), (0, x1), (0, x2), (0, x3)] [] T V = if 7 < x3 then ev 61 59 [(2, 58), (0, x1), (0, x2), (0, x3)] [] T V else ev 61 49 [(2, 58), (0, x1), (0, x2), (0, x3)] [] T V := by
  refine Eq.trans (ev_ldi (show zcode 61 43 = some (4, 44, 3, 0, []) by decide +kernel) rfl) ?_
  refine Eq.trans (ev_ci (show zcode 61 44 = some (0, 46, 0, 7, []) by decide +kernel) (by decide)) ?_
  exact ev_cgt (show zcode 61 46 = some (50, 49, 59, 0, []) by decide +kernel)
theorem b61_49 {T : zT} {V : zM} {x1 : Int} {x2 : Int} {x3 : Int} (h1 : -2147483648 ≤ (x3 - 1) ∧ (x3 - 1) ≤ 2147483647) (h2 : (0 : Int) ≤ (x3 - 1) ∧ (x3 - 1) < 32) : ev 61 49 [(2, 58), (0, x1), (0, x2), (0, x3)] [] T V = if (zand (x1 / 2 ^ ((x3 - 1)).toNat) 1) = 0 then ev 61 61 [(2, 58), (0, x1), (0, x2), (0, x3)] [] T V else ev 61 59 [(2, 58), (0, x1), (0, x2), (0, x3)] [] T V := by
  refine Eq.trans (ev_ldi (show zcode 61 49 = some (4, 50, 1, 0, []) by decide +kernel) rfl) ?_
  refine Eq.trans (ev_ldi (show zcode 61 50 = some (4, 51, 3, 0, []) by decide +kernel) rfl) ?_
  refine Eq.trans (ev_ci (show zcode 61 51 = some (0, 52, 0, 1, []) by decide +kernel) (by decide)) ?_
  refine Eq.trans (ev_sub (show zcode 61 52 = some (12, 53, 0, 0, []) by decide +kernel) h1) ?_
  refine Eq.trans (ev_shr (show zcode 61 53 = some (21, 54, 0, 0, []) by decide +kernel) h2) ?_
  refine Eq.trans (ev_ci (show zcode 61 54 = some (0, 55, 0, 1, []) by decide +kernel) (by decide)) ?_
  refine Eq.trans (ev_and (show zcode 61 55 = some (14, 56, 0, 0, []) by decide +kernel)) ?_
  exact ev_eq (show zcode 61 56 = some (40, 59, 61, 0, []) by decide +kernel)
theorem b61_59 {T : zT} {V : zM} {x1 : Int} {x2 : Int} {x3 : Int} : ev 61 59 [(2, 58), (0, x1), (0, x2), (0, x3)] [] T V = some ((0, 0), T, V) := by
  refine Eq.trans (ev_ci (show zcode 61 59 = some (0, 60, 0, 0, []) by decide +kernel) (by decide)) ?_
  exact ev_ri (show zcode 61 60 = some (72, 61, 0, 0, []) by decide +kernel)
theorem b61_61 {T : zT} {V : zM} {x1 : Int} {x2 : Int} {x3 : Int} (h1 : -2147483648 ≤ (x3 - 1) ∧ (x3 - 1) ≤ 2147483647) (h2 : (0 : Int) ≤ (x3 - 1) ∧ (x3 - 1) ≤ 30) (h3 : -2147483648 ≤ (x2 + 1) ∧ (x2 + 1) ≤ 2147483647) : ev 61 61 [(2, 58), (0, x1), (0, x2), (0, x3)] [] T V = ev 61 17 [(2, 58), (0, (zor x1 ((2 : Int) ^ ((x3 - 1)).toNat))), (0, (x2 + 1)), (0, x3)] [] T V := by
  refine Eq.trans (ev_ldi (show zcode 61 61 = some (4, 62, 1, 0, []) by decide +kernel) rfl) ?_
  refine Eq.trans (ev_ci (show zcode 61 62 = some (0, 63, 0, 1, []) by decide +kernel) (by decide)) ?_
  refine Eq.trans (ev_ldi (show zcode 61 63 = some (4, 64, 3, 0, []) by decide +kernel) rfl) ?_
  refine Eq.trans (ev_ci (show zcode 61 64 = some (0, 65, 0, 1, []) by decide +kernel) (by decide)) ?_
  refine Eq.trans (ev_sub (show zcode 61 65 = some (12, 66, 0, 0, []) by decide +kernel) h1) ?_
  refine Eq.trans (ev_shl1 (show zcode 61 66 = some (20, 67, 0, 0, []) by decide +kernel) h2) ?_
  refine Eq.trans (ev_or (show zcode 61 67 = some (15, 68, 0, 0, []) by decide +kernel)) ?_
  refine Eq.trans (ev_sti (show zcode 61 68 = some (7, 69, 1, 0, []) by decide +kernel) ⟨show 1 < 4 by decide, Or.inr (show ¬ (2 : Nat) = 1 by decide)⟩) ?_
  refine Eq.trans (ev_inc (show zcode 61 69 = some (10, 72, 2, 1, []) by decide +kernel) rfl h3 (Or.inr (show ¬ (0 : Nat) = 1 by decide))) ?_
  exact ev_goto (show zcode 61 72 = some (53, 75, 17, 0, []) by decide +kernel)
theorem b61_75 {T : zT} {V : zM} {x1 : Int} {x2 : Int} {v3 : zV} : ev 61 75 [(2, 58), (0, x1), (0, x2), v3] [] T V = some ((0, x1), T, V) := by
  refine Eq.trans (ev_ldi (show zcode 61 75 = some (4, 76, 1, 0, []) by decide +kernel) rfl) ?_
  exact ev_ri (show zcode 61 76 = some (72, 77, 0, 0, []) by decide +kernel)
/-! 62: TwoWayWall$TableReader.tellWord()Z -/
theorem e62 {T : zT} {V : zM}  : zcall 62 [(2, 58)] T V = ev 62 0 [(2, 58), (9, 0), (9, 0), (9, 0)] [] T V := rfl
theorem b62_0 {T : zT} {V : zM}  (hS : zStr T)  : ev 62 0 [(2, 58), (9, 0), (9, 0), (9, 0)] [] T V = (zcall 43 [(2, 58)] T V).bind fun x => ev 62 9 [(2, 58), (0, (V 58 2)), (9, 0), (9, 0)] (z_push x.1 []) x.2.1 x.2.2 := by
  refine Eq.trans (ev_lda (show zcode 62 0 = some (6, 1, 0, 0, []) by decide +kernel) rfl (by decide)) ?_
  refine Eq.trans (ev_gi (show zcode 62 1 = some (55, 4, 7, 2, []) by decide +kernel) (so58 hS)) ?_
  refine Eq.trans (ev_sti (show zcode 62 4 = some (7, 5, 1, 0, []) by decide +kernel) ⟨show 1 < 4 by decide, Or.inr (show ¬ (2 : Nat) = 1 by decide)⟩) ?_
  refine Eq.trans (ev_lda (show zcode 62 5 = some (6, 6, 0, 0, []) by decide +kernel) rfl (by decide)) ?_
  exact ev_cvirt (show zcode 62 6 = some (76, 9, 43, 1, [7]) by decide +kernel) (args := []) (rest := []) rfl (so58 hS) rfl (show 0 ≤ 8 by decide) ⟨by decide, show 1 ≤ 1 by decide⟩
theorem b62_9 {T : zT} {V : zM} {x1 : Int} (hS : zStr T)  : ev 62 9 [(2, 58), (0, x1), (9, 0), (9, 0)] [] T V = (zcall 63 [(2, 58)] T V).bind fun x => ev 62 13 [(2, 58), (0, x1), (9, 0), (9, 0)] (z_push x.1 []) x.2.1 x.2.2 := by
  refine Eq.trans (ev_lda (show zcode 62 9 = some (6, 10, 0, 0, []) by decide +kernel) rfl (by decide)) ?_
  exact ev_cvirt (show zcode 62 10 = some (76, 13, 63, 1, [7]) by decide +kernel) (args := []) (rest := []) rfl (so58 hS) rfl (show 0 ≤ 8 by decide) ⟨by decide, show 1 ≤ 1 by decide⟩
theorem b62_13 {T : zT} {V : zM} {x1 : Int} {p0 : Int} : ev 62 13 [(2, 58), (0, x1), (9, 0), (9, 0)] [(2, p0)] T V = if 0 ≤ p0 then ev 62 27 [(2, 58), (0, x1), (2, p0), (9, 0)] [] T V else ev 62 18 [(2, 58), (0, x1), (2, p0), (9, 0)] [] T V := by
  refine Eq.trans (ev_sta (show zcode 62 13 = some (9, 14, 2, 0, []) by decide +kernel) ⟨show 2 < 4 by decide, Or.inr (show ¬ (0 : Nat) = 1 by decide)⟩) ?_
  refine Eq.trans (ev_lda (show zcode 62 14 = some (6, 15, 2, 0, []) by decide +kernel) rfl (by decide)) ?_
  exact ev_nn (show zcode 62 15 = some (52, 18, 27, 0, []) by decide +kernel)
theorem b62_18 {T : zT} {V : zM} {x1 : Int} {q2 : Int} (hS : zStr T)  : ev 62 18 [(2, 58), (0, x1), (2, q2), (9, 0)] [] T V = (zcall 60 [(2, 58), (0, (V 58 2))] T V).bind fun x => ev 62 26 [(2, 58), (0, x1), (2, q2), (9, 0)] (z_push x.1 []) x.2.1 x.2.2 := by
  refine Eq.trans (ev_lda (show zcode 62 18 = some (6, 19, 0, 0, []) by decide +kernel) rfl (by decide)) ?_
  refine Eq.trans (ev_lda (show zcode 62 19 = some (6, 20, 0, 0, []) by decide +kernel) rfl (by decide)) ?_
  refine Eq.trans (ev_gi (show zcode 62 20 = some (55, 23, 7, 2, []) by decide +kernel) (so58 hS)) ?_
  exact ev_cvirt (show zcode 62 23 = some (76, 26, 60, 2, [7]) by decide +kernel) (args := [(0, (V 58 2))]) (rest := []) rfl (so58 hS) rfl (show 0 ≤ 8 by decide) ⟨by decide, show 2 ≤ 2 by decide⟩
theorem b62_26 {T : zT} {V : zM} {x1 : Int} {q2 : Int} {y0 : Int} (h1 : (0 : Int) ≤ y0 ∧ y0 ≤ 1) : ev 62 26 [(2, 58), (0, x1), (2, q2), (9, 0)] [(0, y0)] T V = some ((0, y0), T, V) := by
  exact ev_rz (show zcode 62 26 = some (72, 27, 3, 0, []) by decide +kernel) h1
theorem b62_27 {T : zT} {V : zM} {x1 : Int} {q2 : Int} (h1 : zTongue T q2) : ev 62 27 [(2, 58), (0, x1), (2, q2), (9, 0)] [] T V = if (V q2 5) < 8 then ev 62 42 [(2, 58), (0, x1), (2, q2), (9, 0)] [] T V else ev 62 36 [(2, 58), (0, x1), (2, q2), (9, 0)] [] T V := by
  refine Eq.trans (ev_lda (show zcode 62 27 = some (6, 28, 2, 0, []) by decide +kernel) rfl (by decide)) ?_
  refine Eq.trans (ev_gi (show zcode 62 28 = some (55, 31, 9, 5, []) by decide +kernel) h1.o) ?_
  refine Eq.trans (ev_ci (show zcode 62 31 = some (0, 33, 0, 8, []) by decide +kernel) (by decide)) ?_
  exact ev_clt (show zcode 62 33 = some (48, 36, 42, 0, []) by decide +kernel)
theorem b62_36 {T : zT} {V : zM} {x1 : Int} {q2 : Int} (hS : zStr T)  : ev 62 36 [(2, 58), (0, x1), (2, q2), (9, 0)] [] T V = (zcall 60 [(2, 58), (0, x1)] T V).bind fun x => ev 62 41 [(2, 58), (0, x1), (2, q2), (9, 0)] (z_push x.1 []) x.2.1 x.2.2 := by
  refine Eq.trans (ev_lda (show zcode 62 36 = some (6, 37, 0, 0, []) by decide +kernel) rfl (by decide)) ?_
  refine Eq.trans (ev_ldi (show zcode 62 37 = some (4, 38, 1, 0, []) by decide +kernel) rfl) ?_
  exact ev_cvirt (show zcode 62 38 = some (76, 41, 60, 2, [7]) by decide +kernel) (args := [(0, x1)]) (rest := []) rfl (so58 hS) rfl (show 0 ≤ 8 by decide) ⟨by decide, show 2 ≤ 2 by decide⟩
theorem b62_41 {T : zT} {V : zM} {x1 : Int} {q2 : Int} {y0 : Int} (h1 : (0 : Int) ≤ y0 ∧ y0 ≤ 1) : ev 62 41 [(2, 58), (0, x1), (2, q2), (9, 0)] [(0, y0)] T V = some ((0, y0), T, V) := by
  exact ev_rz (show zcode 62 41 = some (72, 42, 3, 0, []) by decide +kernel) h1
theorem b62_42 {T : zT} {V : zM} {x1 : Int} {q2 : Int} (hS : zStr T)  : ev 62 42 [(2, 58), (0, x1), (2, q2), (9, 0)] [] T V = (zcall 43 [(2, 58)] T V).bind fun x => ev 62 46 [(2, 58), (0, x1), (2, q2), (9, 0)] (z_push x.1 []) x.2.1 x.2.2 := by
  refine Eq.trans (ev_lda (show zcode 62 42 = some (6, 43, 0, 0, []) by decide +kernel) rfl (by decide)) ?_
  exact ev_cvirt (show zcode 62 43 = some (76, 46, 43, 1, [7]) by decide +kernel) (args := []) (rest := []) rfl (so58 hS) rfl (show 0 ≤ 8 by decide) ⟨by decide, show 1 ≤ 1 by decide⟩
theorem b62_46 {T : zT} {V : zM} {x1 : Int} {q2 : Int} (hS : zStr T)  : ev 62 46 [(2, 58), (0, x1), (2, q2), (9, 0)] [] T V = (zcall 64 [(2, 58)] T V).bind fun x => ev 62 50 [(2, 58), (0, x1), (2, q2), (9, 0)] (z_push x.1 []) x.2.1 x.2.2 := by
  refine Eq.trans (ev_lda (show zcode 62 46 = some (6, 47, 0, 0, []) by decide +kernel) rfl (by decide)) ?_
  exact ev_cvirt (show zcode 62 47 = some (76, 50, 64, 1, [7]) by decide +kernel) (args := []) (rest := []) rfl (so58 hS) rfl (show 0 ≤ 8 by decide) ⟨by decide, show 1 ≤ 3 by decide⟩
theorem b62_50 {T : zT} {V : zM} {x1 : Int} {q2 : Int} {y0 : Int} : ev 62 50 [(2, 58), (0, x1), (2, q2), (9, 0)] [(0, y0)] T V = if y0 < 0 then ev 62 61 [(2, 58), (0, x1), (2, q2), (0, y0)] [] T V else ev 62 55 [(2, 58), (0, x1), (2, q2), (0, y0)] [] T V := by
  refine Eq.trans (ev_sti (show zcode 62 50 = some (7, 51, 3, 0, []) by decide +kernel) ⟨show 3 < 4 by decide, Or.inr (show ¬ (2 : Nat) = 1 by decide)⟩) ?_
  refine Eq.trans (ev_ldi (show zcode 62 51 = some (4, 52, 3, 0, []) by decide +kernel) rfl) ?_
  exact ev_lt (show zcode 62 52 = some (42, 55, 61, 0, []) by decide +kernel)
theorem b62_55 {T : zT} {V : zM} {x1 : Int} {q2 : Int} {x3 : Int} : ev 62 55 [(2, 58), (0, x1), (2, q2), (0, x3)] [] T V = if x3 < 8 then ev 62 70 [(2, 58), (0, x1), (2, q2), (0, x3)] [] T V else ev 62 61 [(2, 58), (0, x1), (2, q2), (0, x3)] [] T V := by
  refine Eq.trans (ev_ldi (show zcode 62 55 = some (4, 56, 3, 0, []) by decide +kernel) rfl) ?_
  refine Eq.trans (ev_ci (show zcode 62 56 = some (0, 58, 0, 8, []) by decide +kernel) (by decide)) ?_
  exact ev_clt (show zcode 62 58 = some (48, 61, 70, 0, []) by decide +kernel)
theorem b62_61 {T : zT} {V : zM} {x1 : Int} {q2 : Int} {x3 : Int} (hS : zStr T)  : ev 62 61 [(2, 58), (0, x1), (2, q2), (0, x3)] [] T V = (zcall 60 [(2, 58), (0, (V 58 2))] T V).bind fun x => ev 62 69 [(2, 58), (0, x1), (2, q2), (0, x3)] (z_push x.1 []) x.2.1 x.2.2 := by
  refine Eq.trans (ev_lda (show zcode 62 61 = some (6, 62, 0, 0, []) by decide +kernel) rfl (by decide)) ?_
  refine Eq.trans (ev_lda (show zcode 62 62 = some (6, 63, 0, 0, []) by decide +kernel) rfl (by decide)) ?_
  refine Eq.trans (ev_gi (show zcode 62 63 = some (55, 66, 7, 2, []) by decide +kernel) (so58 hS)) ?_
  exact ev_cvirt (show zcode 62 66 = some (76, 69, 60, 2, [7]) by decide +kernel) (args := [(0, (V 58 2))]) (rest := []) rfl (so58 hS) rfl (show 0 ≤ 8 by decide) ⟨by decide, show 2 ≤ 2 by decide⟩
theorem b62_69 {T : zT} {V : zM} {x1 : Int} {q2 : Int} {x3 : Int} {y0 : Int} (h1 : (0 : Int) ≤ y0 ∧ y0 ≤ 1) : ev 62 69 [(2, 58), (0, x1), (2, q2), (0, x3)] [(0, y0)] T V = some ((0, y0), T, V) := by
  exact ev_rz (show zcode 62 69 = some (72, 70, 3, 0, []) by decide +kernel) h1
theorem b62_70 {T : zT} {V : zM} {x1 : Int} {q2 : Int} {x3 : Int} (hS : zStr T)  : ev 62 70 [(2, 58), (0, x1), (2, q2), (0, x3)] [] T V = (zcall 43 [(2, 58)] T V).bind fun x => ev 62 74 [(2, 58), (0, x1), (2, q2), (0, x3)] (z_push x.1 []) x.2.1 x.2.2 := by
  refine Eq.trans (ev_lda (show zcode 62 70 = some (6, 71, 0, 0, []) by decide +kernel) rfl (by decide)) ?_
  exact ev_cvirt (show zcode 62 71 = some (76, 74, 43, 1, [7]) by decide +kernel) (args := []) (rest := []) rfl (so58 hS) rfl (show 0 ≤ 8 by decide) ⟨by decide, show 1 ≤ 1 by decide⟩
theorem b62_74 {T : zT} {V : zM} {x1 : Int} {q2 : Int} {x3 : Int} (hS : zStr T)  : ev 62 74 [(2, 58), (0, x1), (2, q2), (0, x3)] [] T V = if (V 58 4) = 1 then ev 62 82 [(2, 58), (0, x1), (2, q2), (0, x3)] [] T V else ev 62 96 [(2, 58), (0, x1), (2, q2), (0, x3)] [] T V := by
  refine Eq.trans (ev_lda (show zcode 62 74 = some (6, 75, 0, 0, []) by decide +kernel) rfl (by decide)) ?_
  refine Eq.trans (ev_gi (show zcode 62 75 = some (55, 78, 7, 4, []) by decide +kernel) (so58 hS)) ?_
  refine Eq.trans (ev_ci (show zcode 62 78 = some (0, 79, 0, 1, []) by decide +kernel) (by decide)) ?_
  exact ev_cne (show zcode 62 79 = some (47, 82, 96, 0, []) by decide +kernel)
theorem b62_82 {T : zT} {V : zM} {x1 : Int} {q2 : Int} {x3 : Int} (hS : zStr T) (h1 : -2147483648 ≤ ((V 58 3) - (V 58 2)) ∧ ((V 58 3) - (V 58 2)) ≤ 2147483647) : ev 62 82 [(2, 58), (0, x1), (2, q2), (0, x3)] [] T V = if ((V 58 3) - (V 58 2)) ≤ 6 then ev 62 105 [(2, 58), (0, x1), (2, q2), (0, x3)] [] T V else ev 62 96 [(2, 58), (0, x1), (2, q2), (0, x3)] [] T V := by
  refine Eq.trans (ev_lda (show zcode 62 82 = some (6, 83, 0, 0, []) by decide +kernel) rfl (by decide)) ?_
  refine Eq.trans (ev_gi (show zcode 62 83 = some (55, 86, 7, 3, []) by decide +kernel) (so58 hS)) ?_
  refine Eq.trans (ev_lda (show zcode 62 86 = some (6, 87, 0, 0, []) by decide +kernel) rfl (by decide)) ?_
  refine Eq.trans (ev_gi (show zcode 62 87 = some (55, 90, 7, 2, []) by decide +kernel) (so58 hS)) ?_
  refine Eq.trans (ev_sub (show zcode 62 90 = some (12, 91, 0, 0, []) by decide +kernel) h1) ?_
  refine Eq.trans (ev_ci (show zcode 62 91 = some (0, 93, 0, 6, []) by decide +kernel) (by decide)) ?_
  exact ev_cle (show zcode 62 93 = some (51, 96, 105, 0, []) by decide +kernel)
theorem b62_96 {T : zT} {V : zM} {x1 : Int} {q2 : Int} {x3 : Int} (hS : zStr T)  : ev 62 96 [(2, 58), (0, x1), (2, q2), (0, x3)] [] T V = (zcall 60 [(2, 58), (0, (V 58 2))] T V).bind fun x => ev 62 104 [(2, 58), (0, x1), (2, q2), (0, x3)] (z_push x.1 []) x.2.1 x.2.2 := by
  refine Eq.trans (ev_lda (show zcode 62 96 = some (6, 97, 0, 0, []) by decide +kernel) rfl (by decide)) ?_
  refine Eq.trans (ev_lda (show zcode 62 97 = some (6, 98, 0, 0, []) by decide +kernel) rfl (by decide)) ?_
  refine Eq.trans (ev_gi (show zcode 62 98 = some (55, 101, 7, 2, []) by decide +kernel) (so58 hS)) ?_
  exact ev_cvirt (show zcode 62 101 = some (76, 104, 60, 2, [7]) by decide +kernel) (args := [(0, (V 58 2))]) (rest := []) rfl (so58 hS) rfl (show 0 ≤ 8 by decide) ⟨by decide, show 2 ≤ 2 by decide⟩
theorem b62_104 {T : zT} {V : zM} {x1 : Int} {q2 : Int} {x3 : Int} {y0 : Int} (h1 : (0 : Int) ≤ y0 ∧ y0 ≤ 1) : ev 62 104 [(2, 58), (0, x1), (2, q2), (0, x3)] [(0, y0)] T V = some ((0, y0), T, V) := by
  exact ev_rz (show zcode 62 104 = some (72, 105, 3, 0, []) by decide +kernel) h1
theorem b62_105 {T : zT} {V : zM} {x1 : Int} {q2 : Int} {x3 : Int} (hS : zStr T)  : ev 62 105 [(2, 58), (0, x1), (2, q2), (0, x3)] [] T V = (zcall 65 [(2, 58), (2, q2), (0, x3)] T V).bind fun x => ev 62 111 [(2, 58), (0, x1), (2, q2), (0, x3)] (z_push x.1 []) x.2.1 x.2.2 := by
  refine Eq.trans (ev_lda (show zcode 62 105 = some (6, 106, 0, 0, []) by decide +kernel) rfl (by decide)) ?_
  refine Eq.trans (ev_lda (show zcode 62 106 = some (6, 107, 2, 0, []) by decide +kernel) rfl (by decide)) ?_
  refine Eq.trans (ev_ldi (show zcode 62 107 = some (4, 108, 3, 0, []) by decide +kernel) rfl) ?_
  exact ev_cvirt (show zcode 62 108 = some (76, 111, 65, 3, [7]) by decide +kernel) (args := [(2, q2), (0, x3)]) (rest := []) rfl (so58 hS) rfl (show 0 ≤ 8 by decide) ⟨by decide, show 3 ≤ 5 by decide⟩
theorem b62_111 {T : zT} {V : zM} {x1 : Int} {q2 : Int} {x3 : Int} (hS : zStr T)  : ev 62 111 [(2, 58), (0, x1), (2, q2), (0, x3)] [] T V = (zcall 43 [(2, 58)] T V).bind fun x => ev 62 115 [(2, 58), (0, x1), (2, q2), (0, x3)] (z_push x.1 []) x.2.1 x.2.2 := by
  refine Eq.trans (ev_lda (show zcode 62 111 = some (6, 112, 0, 0, []) by decide +kernel) rfl (by decide)) ?_
  exact ev_cvirt (show zcode 62 112 = some (76, 115, 43, 1, [7]) by decide +kernel) (args := []) (rest := []) rfl (so58 hS) rfl (show 0 ≤ 8 by decide) ⟨by decide, show 1 ≤ 1 by decide⟩
theorem b62_115 {T : zT} {V : zM} {x1 : Int} {q2 : Int} {x3 : Int} : ev 62 115 [(2, 58), (0, x1), (2, q2), (0, x3)] [] T V = some ((0, 1), T, V) := by
  refine Eq.trans (ev_ci (show zcode 62 115 = some (0, 116, 0, 1, []) by decide +kernel) (by decide)) ?_
  exact ev_rz (show zcode 62 116 = some (72, 117, 3, 0, []) by decide +kernel) (by decide)
/-! 63: TwoWayWall$TableReader.namedTongue()LTwoWayWall$Tongue; -/
theorem e63 {T : zT} {V : zM}  : zcall 63 [(2, 58)] T V = ev 63 0 [(2, 58)] [] T V := rfl
theorem b63_0 {T : zT} {V : zM}  (hS : zStr T)  : ev 63 0 [(2, 58)] [] T V = (zcall 46 [(2, 58), (3, 0)] T V).bind fun x => ev 63 6 [(2, 58)] (z_push x.1 []) x.2.1 x.2.2 := by
  refine Eq.trans (ev_lda (show zcode 63 0 = some (6, 1, 0, 0, []) by decide +kernel) rfl (by decide)) ?_
  refine Eq.trans (ev_cs (show zcode 63 1 = some (3, 3, 0, 0, []) by decide +kernel) (by decide)) ?_
  exact ev_cvirt (show zcode 63 3 = some (76, 6, 46, 2, [7]) by decide +kernel) (args := [(3, 0)]) (rest := []) rfl (so58 hS) rfl (show 0 ≤ 8 by decide) ⟨by decide, show 2 ≤ 3 by decide⟩
theorem b63_6 {T : zT} {V : zM} {y0 : Int} : ev 63 6 [(2, 58)] [(0, y0)] T V = if y0 = 0 then ev 63 17 [(2, 58)] [] T V else ev 63 9 [(2, 58)] [] T V := by
  exact ev_eq (show zcode 63 6 = some (40, 9, 17, 0, []) by decide +kernel)
theorem b63_9 {T : zT} {V : zM}  (hS : zStr T)  : ev 63 9 [(2, 58)] [] T V = some ((2, 33), T, V) := by
  refine Eq.trans (ev_lda (show zcode 63 9 = some (6, 10, 0, 0, []) by decide +kernel) rfl (by decide)) ?_
  refine Eq.trans (ev_gq (show zcode 63 10 = some (56, 13, 7, 1, []) by decide +kernel) (so58 hS) (sp58_1 hS)) ?_
  refine Eq.trans (ev_gq (show zcode 63 13 = some (56, 16, 6, 5, []) by decide +kernel) (so28 hS) (sp28_5 hS)) ?_
  exact ev_rr (show zcode 63 16 = some (72, 17, 2, 0, []) by decide +kernel)
theorem b63_17 {T : zT} {V : zM}  (hS : zStr T)  : ev 63 17 [(2, 58)] [] T V = (zcall 46 [(2, 58), (3, 1)] T V).bind fun x => ev 63 23 [(2, 58)] (z_push x.1 []) x.2.1 x.2.2 := by
  refine Eq.trans (ev_lda (show zcode 63 17 = some (6, 18, 0, 0, []) by decide +kernel) rfl (by decide)) ?_
  refine Eq.trans (ev_cs (show zcode 63 18 = some (3, 20, 1, 0, []) by decide +kernel) (by decide)) ?_
  exact ev_cvirt (show zcode 63 20 = some (76, 23, 46, 2, [7]) by decide +kernel) (args := [(3, 1)]) (rest := []) rfl (so58 hS) rfl (show 0 ≤ 8 by decide) ⟨by decide, show 2 ≤ 3 by decide⟩
theorem b63_23 {T : zT} {V : zM} {y0 : Int} : ev 63 23 [(2, 58)] [(0, y0)] T V = if y0 = 0 then ev 63 36 [(2, 58)] [] T V else ev 63 26 [(2, 58)] [] T V := by
  exact ev_eq (show zcode 63 23 = some (40, 26, 36, 0, []) by decide +kernel)
theorem b63_26 {T : zT} {V : zM}  (hS : zStr T)  : ev 63 26 [(2, 58)] [] T V = ev 63 37 [(2, 58)] [(2, 41)] T V := by
  refine Eq.trans (ev_lda (show zcode 63 26 = some (6, 27, 0, 0, []) by decide +kernel) rfl (by decide)) ?_
  refine Eq.trans (ev_gq (show zcode 63 27 = some (56, 30, 7, 1, []) by decide +kernel) (so58 hS) (sp58_1 hS)) ?_
  refine Eq.trans (ev_gq (show zcode 63 30 = some (56, 33, 6, 6, []) by decide +kernel) (so28 hS) (sp28_6 hS)) ?_
  exact ev_goto (show zcode 63 33 = some (53, 36, 37, 0, []) by decide +kernel)
theorem b63_36 {T : zT} {V : zM}  : ev 63 36 [(2, 58)] [] T V = ev 63 37 [(2, 58)] [(2, (-1))] T V := by
  exact ev_null (show zcode 63 36 = some (2, 37, 0, 0, []) by decide +kernel)
theorem b63_37 {T : zT} {V : zM} {p0 : Int} : ev 63 37 [(2, 58)] [(2, p0)] T V = some ((2, p0), T, V) := by
  exact ev_rr (show zcode 63 37 = some (72, 38, 2, 0, []) by decide +kernel)
/-! 64: TwoWayWall$TableReader.number()I -/
theorem e64 {T : zT} {V : zM}  : zcall 64 [(2, 58)] T V = ev 64 0 [(2, 58), (9, 0), (9, 0)] [] T V := rfl
theorem b64_0 {T : zT} {V : zM}  (hS : zStr T)  : ev 64 0 [(2, 58), (9, 0), (9, 0)] [] T V = if (V 58 4) = 2 then ev 64 10 [(2, 58), (9, 0), (9, 0)] [] T V else ev 64 8 [(2, 58), (9, 0), (9, 0)] [] T V := by
  refine Eq.trans (ev_lda (show zcode 64 0 = some (6, 1, 0, 0, []) by decide +kernel) rfl (by decide)) ?_
  refine Eq.trans (ev_gi (show zcode 64 1 = some (55, 4, 7, 4, []) by decide +kernel) (so58 hS)) ?_
  refine Eq.trans (ev_ci (show zcode 64 4 = some (0, 5, 0, 2, []) by decide +kernel) (by decide)) ?_
  exact ev_ceq (show zcode 64 5 = some (46, 8, 10, 0, []) by decide +kernel)
theorem b64_8 {T : zT} {V : zM}  : ev 64 8 [(2, 58), (9, 0), (9, 0)] [] T V = some ((0, (-1)), T, V) := by
  refine Eq.trans (ev_ci (show zcode 64 8 = some (0, 9, 0, (-1), []) by decide +kernel) (by decide)) ?_
  exact ev_ri (show zcode 64 9 = some (72, 10, 0, 0, []) by decide +kernel)
theorem b64_10 {T : zT} {V : zM}  (hS : zStr T)  : ev 64 10 [(2, 58), (9, 0), (9, 0)] [] T V = ev 64 17 [(2, 58), (0, 0), (0, (V 58 2))] [] T V := by
  refine Eq.trans (ev_ci (show zcode 64 10 = some (0, 11, 0, 0, []) by decide +kernel) (by decide)) ?_
  refine Eq.trans (ev_sti (show zcode 64 11 = some (7, 12, 1, 0, []) by decide +kernel) ⟨show 1 < 3 by decide, Or.inr (show ¬ (2 : Nat) = 1 by decide)⟩) ?_
  refine Eq.trans (ev_lda (show zcode 64 12 = some (6, 13, 0, 0, []) by decide +kernel) rfl (by decide)) ?_
  refine Eq.trans (ev_gi (show zcode 64 13 = some (55, 16, 7, 2, []) by decide +kernel) (so58 hS)) ?_
  exact ev_sti (show zcode 64 16 = some (7, 17, 2, 0, []) by decide +kernel) ⟨show 2 < 3 by decide, Or.inr (show ¬ (0 : Nat) = 1 by decide)⟩
theorem b64_17 {T : zT} {V : zM} {x1 : Int} {x2 : Int} (hS : zStr T)  : ev 64 17 [(2, 58), (0, x1), (0, x2)] [] T V = if (V 58 3) ≤ x2 then ev 64 55 [(2, 58), (0, x1), (0, x2)] [] T V else ev 64 25 [(2, 58), (0, x1), (0, x2)] [] T V := by
  refine Eq.trans (ev_ldi (show zcode 64 17 = some (4, 18, 2, 0, []) by decide +kernel) rfl) ?_
  refine Eq.trans (ev_lda (show zcode 64 18 = some (6, 19, 0, 0, []) by decide +kernel) rfl (by decide)) ?_
  refine Eq.trans (ev_gi (show zcode 64 19 = some (55, 22, 7, 3, []) by decide +kernel) (so58 hS)) ?_
  exact ev_cge (show zcode 64 22 = some (49, 25, 55, 0, []) by decide +kernel)
theorem b64_25 {T : zT} {V : zM} {x1 : Int} {x2 : Int} (hS : zStr T) (h1 : -2147483648 ≤ (x1 * 10) ∧ (x1 * 10) ≤ 2147483647) (h2 : (0 : Int) ≤ x2 ∧ x2 < 400) (h3 : -2147483648 ≤ ((x1 * 10) + (V 57 x2)) ∧ ((x1 * 10) + (V 57 x2)) ≤ 2147483647) (h4 : -2147483648 ≤ (((x1 * 10) + (V 57 x2)) - 48) ∧ (((x1 * 10) + (V 57 x2)) - 48) ≤ 2147483647) (h5 : -2147483648 ≤ (x2 + 1) ∧ (x2 + 1) ≤ 2147483647) : ev 64 25 [(2, 58), (0, x1), (0, x2)] [] T V = ev 64 17 [(2, 58), (0, (min 1000 (((x1 * 10) + (V 57 x2)) - 48))), (0, (x2 + 1))] [] T V := by
  refine Eq.trans (ev_ci (show zcode 64 25 = some (0, 28, 0, 1000, []) by decide +kernel) (by decide)) ?_
  refine Eq.trans (ev_ldi (show zcode 64 28 = some (4, 29, 1, 0, []) by decide +kernel) rfl) ?_
  refine Eq.trans (ev_ci (show zcode 64 29 = some (0, 31, 0, 10, []) by decide +kernel) (by decide)) ?_
  refine Eq.trans (ev_mul (show zcode 64 31 = some (13, 32, 0, 0, []) by decide +kernel) h1) ?_
  refine Eq.trans (ev_lda (show zcode 64 32 = some (6, 33, 0, 0, []) by decide +kernel) rfl (by decide)) ?_
  refine Eq.trans (ev_gq (show zcode 64 33 = some (56, 36, 7, 0, []) by decide +kernel) (so58 hS) (sp58_0 hS)) ?_
  refine Eq.trans (ev_gq (show zcode 64 36 = some (56, 39, 8, 0, []) by decide +kernel) (so56 hS) (sp56_0 hS)) ?_
  refine Eq.trans (ev_ldi (show zcode 64 39 = some (4, 40, 2, 0, []) by decide +kernel) rfl) ?_
  refine Eq.trans (ev_ia (show zcode 64 40 = some (60, 41, 0, 0, []) by decide +kernel) (sa57 hS) h2) ?_
  refine Eq.trans (ev_add (show zcode 64 41 = some (11, 42, 0, 0, []) by decide +kernel) h3) ?_
  refine Eq.trans (ev_ci (show zcode 64 42 = some (0, 44, 0, 48, []) by decide +kernel) (by decide)) ?_
  refine Eq.trans (ev_sub (show zcode 64 44 = some (12, 45, 0, 0, []) by decide +kernel) h4) ?_
  refine Eq.trans (ev_min (show zcode 64 45 = some (85, 48, 0, 0, []) by decide +kernel) (show 0 ≤ 8 by decide)) ?_
  refine Eq.trans (ev_sti (show zcode 64 48 = some (7, 49, 1, 0, []) by decide +kernel) ⟨show 1 < 3 by decide, Or.inr (show ¬ (2 : Nat) = 1 by decide)⟩) ?_
  refine Eq.trans (ev_inc (show zcode 64 49 = some (10, 52, 2, 1, []) by decide +kernel) rfl h5 (Or.inr (show ¬ (0 : Nat) = 1 by decide))) ?_
  exact ev_goto (show zcode 64 52 = some (53, 55, 17, 0, []) by decide +kernel)
theorem b64_55 {T : zT} {V : zM} {x1 : Int} {x2 : Int} : ev 64 55 [(2, 58), (0, x1), (0, x2)] [] T V = some ((0, x1), T, V) := by
  refine Eq.trans (ev_ldi (show zcode 64 55 = some (4, 56, 1, 0, []) by decide +kernel) rfl) ?_
  exact ev_ri (show zcode 64 56 = some (72, 57, 0, 0, []) by decide +kernel)
/-! 65: TwoWayWall$TableReader.addWord(LTwoWayWall$Tongue;I)V -/
theorem e65 {T : zT} {V : zM} {q1 : Int} {x2 : Int} : zcall 65 [(2, 58), (2, q1), (0, x2)] T V = ev 65 0 [(2, 58), (2, q1), (0, x2), (9, 0), (9, 0)] [] T V := rfl
theorem b65_0 {T : zT} {V : zM} {q1 : Int} {x2 : Int} (hS : zStr T) (h1 : zTongue T q1) (h2 : (0 : Int) ≤ (V q1 5) ∧ (V q1 5) < 8) (h3 : -2147483648 ≤ (((zwr V (q1 + 3) (V q1 5) x2) 58 3) - ((zwr V (q1 + 3) (V q1 5) x2) 58 2)) ∧ (((zwr V (q1 + 3) (V q1 5) x2) 58 3) - ((zwr V (q1 + 3) (V q1 5) x2) 58 2)) ≤ 2147483647) : ev 65 0 [(2, 58), (2, q1), (0, x2), (9, 0), (9, 0)] [] T V = ev 65 30 [(2, 58), (2, q1), (0, x2), (0, (V q1 5)), (0, 0)] [] T (zwr (zwr V (q1 + 3) (V q1 5) x2) (q1 + 4) (V q1 5) (((zwr V (q1 + 3) (V q1 5) x2) 58 3) - ((zwr V (q1 + 3) (V q1 5) x2) 58 2))) := by
  refine Eq.trans (ev_lda (show zcode 65 0 = some (6, 1, 1, 0, []) by decide +kernel) rfl (by decide)) ?_
  refine Eq.trans (ev_gi (show zcode 65 1 = some (55, 4, 9, 5, []) by decide +kernel) h1.o) ?_
  refine Eq.trans (ev_sti (show zcode 65 4 = some (7, 5, 3, 0, []) by decide +kernel) ⟨show 3 < 5 by decide, Or.inr (show ¬ (0 : Nat) = 1 by decide)⟩) ?_
  refine Eq.trans (ev_lda (show zcode 65 5 = some (6, 6, 1, 0, []) by decide +kernel) rfl (by decide)) ?_
  refine Eq.trans (ev_gq (show zcode 65 6 = some (56, 9, 9, 2, []) by decide +kernel) h1.o h1.p2) ?_
  refine Eq.trans (ev_ldi (show zcode 65 9 = some (4, 10, 3, 0, []) by decide +kernel) rfl) ?_
  refine Eq.trans (ev_ldi (show zcode 65 10 = some (4, 11, 2, 0, []) by decide +kernel) rfl) ?_
  refine Eq.trans (ev_is (show zcode 65 11 = some (64, 12, 0, 0, []) by decide +kernel) h1.a3 h2) ?_
  refine Eq.trans (ev_lda (show zcode 65 12 = some (6, 13, 1, 0, []) by decide +kernel) rfl (by decide)) ?_
  refine Eq.trans (ev_gq (show zcode 65 13 = some (56, 16, 9, 3, []) by decide +kernel) h1.o h1.p3) ?_
  refine Eq.trans (ev_ldi (show zcode 65 16 = some (4, 17, 3, 0, []) by decide +kernel) rfl) ?_
  refine Eq.trans (ev_lda (show zcode 65 17 = some (6, 18, 0, 0, []) by decide +kernel) rfl (by decide)) ?_
  refine Eq.trans (ev_gi (show zcode 65 18 = some (55, 21, 7, 3, []) by decide +kernel) (so58 hS)) ?_
  refine Eq.trans (ev_lda (show zcode 65 21 = some (6, 22, 0, 0, []) by decide +kernel) rfl (by decide)) ?_
  refine Eq.trans (ev_gi (show zcode 65 22 = some (55, 25, 7, 2, []) by decide +kernel) (so58 hS)) ?_
  refine Eq.trans (ev_sub (show zcode 65 25 = some (12, 26, 0, 0, []) by decide +kernel) h3) ?_
  refine Eq.trans (ev_is (show zcode 65 26 = some (64, 27, 0, 0, []) by decide +kernel) h1.a4 h2) ?_
  refine Eq.trans (ev_ci (show zcode 65 27 = some (0, 28, 0, 0, []) by decide +kernel) (by decide)) ?_
  exact ev_sti (show zcode 65 28 = some (7, 30, 4, 0, []) by decide +kernel) ⟨show 4 < 5 by decide, Or.inr (show ¬ (0 : Nat) = 1 by decide)⟩
theorem b65_30 {T : zT} {V : zM} {q1 : Int} {x2 : Int} {x3 : Int} {x4 : Int} (hS : zStr T) (h1 : -2147483648 ≤ ((V 58 3) - (V 58 2)) ∧ ((V 58 3) - (V 58 2)) ≤ 2147483647) : ev 65 30 [(2, 58), (2, q1), (0, x2), (0, x3), (0, x4)] [] T V = if ((V 58 3) - (V 58 2)) ≤ x4 then ev 65 87 [(2, 58), (2, q1), (0, x2), (0, x3), (0, x4)] [] T V else ev 65 44 [(2, 58), (2, q1), (0, x2), (0, x3), (0, x4)] [] T V := by
  refine Eq.trans (ev_ldi (show zcode 65 30 = some (4, 32, 4, 0, []) by decide +kernel) rfl) ?_
  refine Eq.trans (ev_lda (show zcode 65 32 = some (6, 33, 0, 0, []) by decide +kernel) rfl (by decide)) ?_
  refine Eq.trans (ev_gi (show zcode 65 33 = some (55, 36, 7, 3, []) by decide +kernel) (so58 hS)) ?_
  refine Eq.trans (ev_lda (show zcode 65 36 = some (6, 37, 0, 0, []) by decide +kernel) rfl (by decide)) ?_
  refine Eq.trans (ev_gi (show zcode 65 37 = some (55, 40, 7, 2, []) by decide +kernel) (so58 hS)) ?_
  refine Eq.trans (ev_sub (show zcode 65 40 = some (12, 41, 0, 0, []) by decide +kernel) h1) ?_
  exact ev_cge (show zcode 65 41 = some (49, 44, 87, 0, []) by decide +kernel)
theorem b65_44 {T : zT} {V : zM} {q1 : Int} {x2 : Int} {x3 : Int} {x4 : Int} : ev 65 44 [(2, 58), (2, q1), (0, x2), (0, x3), (0, x4)] [] T V = if 6 ≤ x4 then ev 65 87 [(2, 58), (2, q1), (0, x2), (0, x3), (0, x4)] [] T V else ev 65 51 [(2, 58), (2, q1), (0, x2), (0, x3), (0, x4)] [] T V := by
  refine Eq.trans (ev_ldi (show zcode 65 44 = some (4, 46, 4, 0, []) by decide +kernel) rfl) ?_
  refine Eq.trans (ev_ci (show zcode 65 46 = some (0, 48, 0, 6, []) by decide +kernel) (by decide)) ?_
  exact ev_cge (show zcode 65 48 = some (49, 51, 87, 0, []) by decide +kernel)
theorem b65_51 {T : zT} {V : zM} {q1 : Int} {x2 : Int} {x3 : Int} {x4 : Int} (hS : zStr T) (h1 : zTongue T q1) (h2 : -2147483648 ≤ (x3 * 6) ∧ (x3 * 6) ≤ 2147483647) (h3 : -2147483648 ≤ ((x3 * 6) + x4) ∧ ((x3 * 6) + x4) ≤ 2147483647) (h4 : -2147483648 ≤ ((V 58 2) + x4) ∧ ((V 58 2) + x4) ≤ 2147483647) (h5 : (0 : Int) ≤ ((V 58 2) + x4) ∧ ((V 58 2) + x4) < 400) (h6 : -2147483648 ≤ ((V 57 ((V 58 2) + x4)) - 97) ∧ ((V 57 ((V 58 2) + x4)) - 97) ≤ 2147483647) (h7 : (0 : Int) ≤ ((x3 * 6) + x4) ∧ ((x3 * 6) + x4) < 48) (h8 : -2147483648 ≤ (x4 + 1) ∧ (x4 + 1) ≤ 2147483647) : ev 65 51 [(2, 58), (2, q1), (0, x2), (0, x3), (0, x4)] [] T V = ev 65 30 [(2, 58), (2, q1), (0, x2), (0, x3), (0, (x4 + 1))] [] T (zwr V (q1 + 5) ((x3 * 6) + x4) ((V 57 ((V 58 2) + x4)) - 97)) := by
  refine Eq.trans (ev_lda (show zcode 65 51 = some (6, 52, 1, 0, []) by decide +kernel) rfl (by decide)) ?_
  refine Eq.trans (ev_gq (show zcode 65 52 = some (56, 55, 9, 4, []) by decide +kernel) h1.o h1.p4) ?_
  refine Eq.trans (ev_ldi (show zcode 65 55 = some (4, 56, 3, 0, []) by decide +kernel) rfl) ?_
  refine Eq.trans (ev_ci (show zcode 65 56 = some (0, 58, 0, 6, []) by decide +kernel) (by decide)) ?_
  refine Eq.trans (ev_mul (show zcode 65 58 = some (13, 59, 0, 0, []) by decide +kernel) h2) ?_
  refine Eq.trans (ev_ldi (show zcode 65 59 = some (4, 61, 4, 0, []) by decide +kernel) rfl) ?_
  refine Eq.trans (ev_add (show zcode 65 61 = some (11, 62, 0, 0, []) by decide +kernel) h3) ?_
  refine Eq.trans (ev_lda (show zcode 65 62 = some (6, 63, 0, 0, []) by decide +kernel) rfl (by decide)) ?_
  refine Eq.trans (ev_gq (show zcode 65 63 = some (56, 66, 7, 0, []) by decide +kernel) (so58 hS) (sp58_0 hS)) ?_
  refine Eq.trans (ev_gq (show zcode 65 66 = some (56, 69, 8, 0, []) by decide +kernel) (so56 hS) (sp56_0 hS)) ?_
  refine Eq.trans (ev_lda (show zcode 65 69 = some (6, 70, 0, 0, []) by decide +kernel) rfl (by decide)) ?_
  refine Eq.trans (ev_gi (show zcode 65 70 = some (55, 73, 7, 2, []) by decide +kernel) (so58 hS)) ?_
  refine Eq.trans (ev_ldi (show zcode 65 73 = some (4, 75, 4, 0, []) by decide +kernel) rfl) ?_
  refine Eq.trans (ev_add (show zcode 65 75 = some (11, 76, 0, 0, []) by decide +kernel) h4) ?_
  refine Eq.trans (ev_ia (show zcode 65 76 = some (60, 77, 0, 0, []) by decide +kernel) (sa57 hS) h5) ?_
  refine Eq.trans (ev_ci (show zcode 65 77 = some (0, 79, 0, 97, []) by decide +kernel) (by decide)) ?_
  refine Eq.trans (ev_sub (show zcode 65 79 = some (12, 80, 0, 0, []) by decide +kernel) h6) ?_
  refine Eq.trans (ev_is (show zcode 65 80 = some (64, 81, 0, 0, []) by decide +kernel) h1.a5 h7) ?_
  refine Eq.trans (ev_inc (show zcode 65 81 = some (10, 84, 4, 1, []) by decide +kernel) rfl h8 (Or.inr (show ¬ (0 : Nat) = 1 by decide))) ?_
  exact ev_goto (show zcode 65 84 = some (53, 87, 30, 0, []) by decide +kernel)
theorem b65_87 {T : zT} {V : zM} {q1 : Int} {x2 : Int} {x3 : Int} {x4 : Int} (h1 : zTongue T q1) (h2 : -2147483648 ≤ ((V q1 5) + 1) ∧ ((V q1 5) + 1) ≤ 2147483647) : ev 65 87 [(2, 58), (2, q1), (0, x2), (0, x3), (0, x4)] [] T V = some ((9, 0), T, (zwr V q1 5 ((V q1 5) + 1))) := by
  refine Eq.trans (ev_lda (show zcode 65 87 = some (6, 88, 1, 0, []) by decide +kernel) rfl (by decide)) ?_
  refine Eq.trans (ev_dup (show zcode 65 88 = some (36, 89, 0, 0, []) by decide +kernel) (by decide)) ?_
  refine Eq.trans (ev_gi (show zcode 65 89 = some (55, 92, 9, 5, []) by decide +kernel) h1.o) ?_
  refine Eq.trans (ev_ci (show zcode 65 92 = some (0, 93, 0, 1, []) by decide +kernel) (by decide)) ?_
  refine Eq.trans (ev_add (show zcode 65 93 = some (11, 94, 0, 0, []) by decide +kernel) h2) ?_
  refine Eq.trans (ev_pi (show zcode 65 94 = some (57, 97, 9, 5, []) by decide +kernel) h1.o) ?_
  exact ev_rn (show zcode 65 97 = some (73, 98, 0, 0, []) by decide +kernel)
/-! 66: TwoWayWall$TableReader.tellMirror()Z -/
theorem e66 {T : zT} {V : zM}  : zcall 66 [(2, 58)] T V = ev 66 0 [(2, 58), (9, 0)] [] T V := rfl
theorem b66_0 {T : zT} {V : zM}  (hS : zStr T)  : ev 66 0 [(2, 58), (9, 0)] [] T V = (zcall 43 [(2, 58)] T V).bind fun x => ev 66 4 [(2, 58), (9, 0)] (z_push x.1 []) x.2.1 x.2.2 := by
  refine Eq.trans (ev_lda (show zcode 66 0 = some (6, 1, 0, 0, []) by decide +kernel) rfl (by decide)) ?_
  exact ev_cvirt (show zcode 66 1 = some (76, 4, 43, 1, [7]) by decide +kernel) (args := []) (rest := []) rfl (so58 hS) rfl (show 0 ≤ 8 by decide) ⟨by decide, show 1 ≤ 1 by decide⟩
theorem b66_4 {T : zT} {V : zM}  (hS : zStr T) (h1 : -2147483648 ≤ ((V 58 3) - (V 58 2)) ∧ ((V 58 3) - (V 58 2)) ≤ 2147483647) : ev 66 4 [(2, 58), (9, 0)] [] T V = if ((V 58 3) - (V 58 2)) = 7 then ev 66 18 [(2, 58), (9, 0)] [] T V else ev 66 27 [(2, 58), (9, 0)] [] T V := by
  refine Eq.trans (ev_lda (show zcode 66 4 = some (6, 5, 0, 0, []) by decide +kernel) rfl (by decide)) ?_
  refine Eq.trans (ev_gi (show zcode 66 5 = some (55, 8, 7, 3, []) by decide +kernel) (so58 hS)) ?_
  refine Eq.trans (ev_lda (show zcode 66 8 = some (6, 9, 0, 0, []) by decide +kernel) rfl (by decide)) ?_
  refine Eq.trans (ev_gi (show zcode 66 9 = some (55, 12, 7, 2, []) by decide +kernel) (so58 hS)) ?_
  refine Eq.trans (ev_sub (show zcode 66 12 = some (12, 13, 0, 0, []) by decide +kernel) h1) ?_
  refine Eq.trans (ev_ci (show zcode 66 13 = some (0, 15, 0, 7, []) by decide +kernel) (by decide)) ?_
  exact ev_cne (show zcode 66 15 = some (47, 18, 27, 0, []) by decide +kernel)
theorem b66_18 {T : zT} {V : zM}  (hS : zStr T)  : ev 66 18 [(2, 58), (9, 0)] [] T V = (zcall 61 [(2, 58)] T V).bind fun x => ev 66 22 [(2, 58), (9, 0)] (z_push x.1 []) x.2.1 x.2.2 := by
  refine Eq.trans (ev_lda (show zcode 66 18 = some (6, 19, 0, 0, []) by decide +kernel) rfl (by decide)) ?_
  exact ev_cvirt (show zcode 66 19 = some (76, 22, 61, 1, [7]) by decide +kernel) (args := []) (rest := []) rfl (so58 hS) rfl (show 0 ≤ 8 by decide) ⟨by decide, show 1 ≤ 4 by decide⟩
theorem b66_22 {T : zT} {V : zM} {y0 : Int} : ev 66 22 [(2, 58), (9, 0)] [(0, y0)] T V = if y0 = 127 then ev 66 36 [(2, 58), (9, 0)] [] T V else ev 66 27 [(2, 58), (9, 0)] [] T V := by
  refine Eq.trans (ev_ci (show zcode 66 22 = some (0, 24, 0, 127, []) by decide +kernel) (by decide)) ?_
  exact ev_ceq (show zcode 66 24 = some (46, 27, 36, 0, []) by decide +kernel)
theorem b66_27 {T : zT} {V : zM}  (hS : zStr T)  : ev 66 27 [(2, 58), (9, 0)] [] T V = (zcall 60 [(2, 58), (0, (V 58 2))] T V).bind fun x => ev 66 35 [(2, 58), (9, 0)] (z_push x.1 []) x.2.1 x.2.2 := by
  refine Eq.trans (ev_lda (show zcode 66 27 = some (6, 28, 0, 0, []) by decide +kernel) rfl (by decide)) ?_
  refine Eq.trans (ev_lda (show zcode 66 28 = some (6, 29, 0, 0, []) by decide +kernel) rfl (by decide)) ?_
  refine Eq.trans (ev_gi (show zcode 66 29 = some (55, 32, 7, 2, []) by decide +kernel) (so58 hS)) ?_
  exact ev_cvirt (show zcode 66 32 = some (76, 35, 60, 2, [7]) by decide +kernel) (args := [(0, (V 58 2))]) (rest := []) rfl (so58 hS) rfl (show 0 ≤ 8 by decide) ⟨by decide, show 2 ≤ 2 by decide⟩
theorem b66_35 {T : zT} {V : zM} {y0 : Int} (h1 : (0 : Int) ≤ y0 ∧ y0 ≤ 1) : ev 66 35 [(2, 58), (9, 0)] [(0, y0)] T V = some ((0, y0), T, V) := by
  exact ev_rz (show zcode 66 35 = some (72, 36, 3, 0, []) by decide +kernel) h1
theorem b66_36 {T : zT} {V : zM}  : ev 66 36 [(2, 58), (9, 0)] [] T V = ev 66 38 [(2, 58), (0, 0)] [] T V := by
  refine Eq.trans (ev_ci (show zcode 66 36 = some (0, 37, 0, 0, []) by decide +kernel) (by decide)) ?_
  exact ev_sti (show zcode 66 37 = some (7, 38, 1, 0, []) by decide +kernel) ⟨show 1 < 2 by decide, Or.inr (show ¬ (2 : Nat) = 1 by decide)⟩
theorem b66_38 {T : zT} {V : zM} {x1 : Int} : ev 66 38 [(2, 58), (0, x1)] [] T V = if 7 ≤ x1 then ev 66 76 [(2, 58), (0, x1)] [] T V else ev 66 44 [(2, 58), (0, x1)] [] T V := by
  refine Eq.trans (ev_ldi (show zcode 66 38 = some (4, 39, 1, 0, []) by decide +kernel) rfl) ?_
  refine Eq.trans (ev_ci (show zcode 66 39 = some (0, 41, 0, 7, []) by decide +kernel) (by decide)) ?_
  exact ev_cge (show zcode 66 41 = some (49, 44, 76, 0, []) by decide +kernel)
theorem b66_44 {T : zT} {V : zM} {x1 : Int} (hS : zStr T) (h1 : -2147483648 ≤ ((V 58 2) + x1) ∧ ((V 58 2) + x1) ≤ 2147483647) (h2 : (0 : Int) ≤ ((V 58 2) + x1) ∧ ((V 58 2) + x1) < 400) (h3 : -2147483648 ≤ ((V 57 ((V 58 2) + x1)) - 48) ∧ ((V 57 ((V 58 2) + x1)) - 48) ≤ 2147483647) (h4 : (0 : Int) ≤ x1 ∧ x1 < 7) (h5 : -2147483648 ≤ (x1 + 1) ∧ (x1 + 1) ≤ 2147483647) : ev 66 44 [(2, 58), (0, x1)] [] T V = ev 66 38 [(2, 58), (0, (x1 + 1))] [] T (zwr V 31 x1 ((V 57 ((V 58 2) + x1)) - 48)) := by
  refine Eq.trans (ev_lda (show zcode 66 44 = some (6, 45, 0, 0, []) by decide +kernel) rfl (by decide)) ?_
  refine Eq.trans (ev_gq (show zcode 66 45 = some (56, 48, 7, 1, []) by decide +kernel) (so58 hS) (sp58_1 hS)) ?_
  refine Eq.trans (ev_gq (show zcode 66 48 = some (56, 51, 6, 3, []) by decide +kernel) (so28 hS) (sp28_3 hS)) ?_
  refine Eq.trans (ev_ldi (show zcode 66 51 = some (4, 52, 1, 0, []) by decide +kernel) rfl) ?_
  refine Eq.trans (ev_lda (show zcode 66 52 = some (6, 53, 0, 0, []) by decide +kernel) rfl (by decide)) ?_
  refine Eq.trans (ev_gq (show zcode 66 53 = some (56, 56, 7, 0, []) by decide +kernel) (so58 hS) (sp58_0 hS)) ?_
  refine Eq.trans (ev_gq (show zcode 66 56 = some (56, 59, 8, 0, []) by decide +kernel) (so56 hS) (sp56_0 hS)) ?_
  refine Eq.trans (ev_lda (show zcode 66 59 = some (6, 60, 0, 0, []) by decide +kernel) rfl (by decide)) ?_
  refine Eq.trans (ev_gi (show zcode 66 60 = some (55, 63, 7, 2, []) by decide +kernel) (so58 hS)) ?_
  refine Eq.trans (ev_ldi (show zcode 66 63 = some (4, 64, 1, 0, []) by decide +kernel) rfl) ?_
  refine Eq.trans (ev_add (show zcode 66 64 = some (11, 65, 0, 0, []) by decide +kernel) h1) ?_
  refine Eq.trans (ev_ia (show zcode 66 65 = some (60, 66, 0, 0, []) by decide +kernel) (sa57 hS) h2) ?_
  refine Eq.trans (ev_ci (show zcode 66 66 = some (0, 68, 0, 48, []) by decide +kernel) (by decide)) ?_
  refine Eq.trans (ev_sub (show zcode 66 68 = some (12, 69, 0, 0, []) by decide +kernel) h3) ?_
  refine Eq.trans (ev_is (show zcode 66 69 = some (64, 70, 0, 0, []) by decide +kernel) (sa31 hS) h4) ?_
  refine Eq.trans (ev_inc (show zcode 66 70 = some (10, 73, 1, 1, []) by decide +kernel) rfl h5 (Or.inr (show ¬ (2 : Nat) = 1 by decide))) ?_
  exact ev_goto (show zcode 66 73 = some (53, 76, 38, 0, []) by decide +kernel)
theorem b66_76 {T : zT} {V : zM} {x1 : Int} (hS : zStr T)  : ev 66 76 [(2, 58), (0, x1)] [] T V = (zcall 43 [(2, 58)] T V).bind fun x => ev 66 80 [(2, 58), (0, x1)] (z_push x.1 []) x.2.1 x.2.2 := by
  refine Eq.trans (ev_lda (show zcode 66 76 = some (6, 77, 0, 0, []) by decide +kernel) rfl (by decide)) ?_
  exact ev_cvirt (show zcode 66 77 = some (76, 80, 43, 1, [7]) by decide +kernel) (args := []) (rest := []) rfl (so58 hS) rfl (show 0 ≤ 8 by decide) ⟨by decide, show 1 ≤ 1 by decide⟩
theorem b66_80 {T : zT} {V : zM} {x1 : Int} : ev 66 80 [(2, 58), (0, x1)] [] T V = some ((0, 1), T, V) := by
  refine Eq.trans (ev_ci (show zcode 66 80 = some (0, 81, 0, 1, []) by decide +kernel) (by decide)) ?_
  exact ev_rz (show zcode 66 81 = some (72, 82, 3, 0, []) by decide +kernel) (by decide)
/-! 67: TwoWayWall$TableReader.tellCost()Z -/
theorem e67 {T : zT} {V : zM}  : zcall 67 [(2, 58)] T V = ev 67 0 [(2, 58), (9, 0), (9, 0)] [] T V := rfl
theorem b67_0 {T : zT} {V : zM}  (hS : zStr T)  : ev 67 0 [(2, 58), (9, 0), (9, 0)] [] T V = (zcall 43 [(2, 58)] T V).bind fun x => ev 67 4 [(2, 58), (9, 0), (9, 0)] (z_push x.1 []) x.2.1 x.2.2 := by
  refine Eq.trans (ev_lda (show zcode 67 0 = some (6, 1, 0, 0, []) by decide +kernel) rfl (by decide)) ?_
  exact ev_cvirt (show zcode 67 1 = some (76, 4, 43, 1, [7]) by decide +kernel) (args := []) (rest := []) rfl (so58 hS) rfl (show 0 ≤ 8 by decide) ⟨by decide, show 1 ≤ 1 by decide⟩
theorem b67_4 {T : zT} {V : zM}  (hS : zStr T)  : ev 67 4 [(2, 58), (9, 0), (9, 0)] [] T V = (zcall 64 [(2, 58)] T V).bind fun x => ev 67 8 [(2, 58), (9, 0), (9, 0)] (z_push x.1 []) x.2.1 x.2.2 := by
  refine Eq.trans (ev_lda (show zcode 67 4 = some (6, 5, 0, 0, []) by decide +kernel) rfl (by decide)) ?_
  exact ev_cvirt (show zcode 67 5 = some (76, 8, 64, 1, [7]) by decide +kernel) (args := []) (rest := []) rfl (so58 hS) rfl (show 0 ≤ 8 by decide) ⟨by decide, show 1 ≤ 3 by decide⟩
theorem b67_8 {T : zT} {V : zM} {y0 : Int} : ev 67 8 [(2, 58), (9, 0), (9, 0)] [(0, y0)] T V = if y0 < 1 then ev 67 20 [(2, 58), (0, y0), (9, 0)] [] T V else ev 67 14 [(2, 58), (0, y0), (9, 0)] [] T V := by
  refine Eq.trans (ev_sti (show zcode 67 8 = some (7, 9, 1, 0, []) by decide +kernel) ⟨show 1 < 3 by decide, Or.inr (show ¬ (2 : Nat) = 1 by decide)⟩) ?_
  refine Eq.trans (ev_ldi (show zcode 67 9 = some (4, 10, 1, 0, []) by decide +kernel) rfl) ?_
  refine Eq.trans (ev_ci (show zcode 67 10 = some (0, 11, 0, 1, []) by decide +kernel) (by decide)) ?_
  exact ev_clt (show zcode 67 11 = some (48, 14, 20, 0, []) by decide +kernel)
theorem b67_14 {T : zT} {V : zM} {x1 : Int} : ev 67 14 [(2, 58), (0, x1), (9, 0)] [] T V = if x1 ≤ 7 then ev 67 29 [(2, 58), (0, x1), (9, 0)] [] T V else ev 67 20 [(2, 58), (0, x1), (9, 0)] [] T V := by
  refine Eq.trans (ev_ldi (show zcode 67 14 = some (4, 15, 1, 0, []) by decide +kernel) rfl) ?_
  refine Eq.trans (ev_ci (show zcode 67 15 = some (0, 17, 0, 7, []) by decide +kernel) (by decide)) ?_
  exact ev_cle (show zcode 67 17 = some (51, 20, 29, 0, []) by decide +kernel)
theorem b67_20 {T : zT} {V : zM} {x1 : Int} (hS : zStr T)  : ev 67 20 [(2, 58), (0, x1), (9, 0)] [] T V = (zcall 60 [(2, 58), (0, (V 58 2))] T V).bind fun x => ev 67 28 [(2, 58), (0, x1), (9, 0)] (z_push x.1 []) x.2.1 x.2.2 := by
  refine Eq.trans (ev_lda (show zcode 67 20 = some (6, 21, 0, 0, []) by decide +kernel) rfl (by decide)) ?_
  refine Eq.trans (ev_lda (show zcode 67 21 = some (6, 22, 0, 0, []) by decide +kernel) rfl (by decide)) ?_
  refine Eq.trans (ev_gi (show zcode 67 22 = some (55, 25, 7, 2, []) by decide +kernel) (so58 hS)) ?_
  exact ev_cvirt (show zcode 67 25 = some (76, 28, 60, 2, [7]) by decide +kernel) (args := [(0, (V 58 2))]) (rest := []) rfl (so58 hS) rfl (show 0 ≤ 8 by decide) ⟨by decide, show 2 ≤ 2 by decide⟩
theorem b67_28 {T : zT} {V : zM} {x1 : Int} {y0 : Int} (h1 : (0 : Int) ≤ y0 ∧ y0 ≤ 1) : ev 67 28 [(2, 58), (0, x1), (9, 0)] [(0, y0)] T V = some ((0, y0), T, V) := by
  exact ev_rz (show zcode 67 28 = some (72, 29, 3, 0, []) by decide +kernel) h1
theorem b67_29 {T : zT} {V : zM} {x1 : Int} (hS : zStr T)  : ev 67 29 [(2, 58), (0, x1), (9, 0)] [] T V = (zcall 43 [(2, 58)] T V).bind fun x => ev 67 33 [(2, 58), (0, x1), (9, 0)] (z_push x.1 []) x.2.1 x.2.2 := by
  refine Eq.trans (ev_lda (show zcode 67 29 = some (6, 30, 0, 0, []) by decide +kernel) rfl (by decide)) ?_
  exact ev_cvirt (show zcode 67 30 = some (76, 33, 43, 1, [7]) by decide +kernel) (args := []) (rest := []) rfl (so58 hS) rfl (show 0 ≤ 8 by decide) ⟨by decide, show 1 ≤ 1 by decide⟩
theorem b67_33 {T : zT} {V : zM} {x1 : Int} (hS : zStr T)  : ev 67 33 [(2, 58), (0, x1), (9, 0)] [] T V = (zcall 64 [(2, 58)] T V).bind fun x => ev 67 37 [(2, 58), (0, x1), (9, 0)] (z_push x.1 []) x.2.1 x.2.2 := by
  refine Eq.trans (ev_lda (show zcode 67 33 = some (6, 34, 0, 0, []) by decide +kernel) rfl (by decide)) ?_
  exact ev_cvirt (show zcode 67 34 = some (76, 37, 64, 1, [7]) by decide +kernel) (args := []) (rest := []) rfl (so58 hS) rfl (show 0 ≤ 8 by decide) ⟨by decide, show 1 ≤ 3 by decide⟩
theorem b67_37 {T : zT} {V : zM} {x1 : Int} {y0 : Int} : ev 67 37 [(2, 58), (0, x1), (9, 0)] [(0, y0)] T V = if y0 < 0 then ev 67 48 [(2, 58), (0, x1), (0, y0)] [] T V else ev 67 42 [(2, 58), (0, x1), (0, y0)] [] T V := by
  refine Eq.trans (ev_sti (show zcode 67 37 = some (7, 38, 2, 0, []) by decide +kernel) ⟨show 2 < 3 by decide, Or.inr (show ¬ (0 : Nat) = 1 by decide)⟩) ?_
  refine Eq.trans (ev_ldi (show zcode 67 38 = some (4, 39, 2, 0, []) by decide +kernel) rfl) ?_
  exact ev_lt (show zcode 67 39 = some (42, 42, 48, 0, []) by decide +kernel)
theorem b67_42 {T : zT} {V : zM} {x1 : Int} {x2 : Int} : ev 67 42 [(2, 58), (0, x1), (0, x2)] [] T V = if x2 ≤ 99 then ev 67 57 [(2, 58), (0, x1), (0, x2)] [] T V else ev 67 48 [(2, 58), (0, x1), (0, x2)] [] T V := by
  refine Eq.trans (ev_ldi (show zcode 67 42 = some (4, 43, 2, 0, []) by decide +kernel) rfl) ?_
  refine Eq.trans (ev_ci (show zcode 67 43 = some (0, 45, 0, 99, []) by decide +kernel) (by decide)) ?_
  exact ev_cle (show zcode 67 45 = some (51, 48, 57, 0, []) by decide +kernel)
theorem b67_48 {T : zT} {V : zM} {x1 : Int} {x2 : Int} (hS : zStr T)  : ev 67 48 [(2, 58), (0, x1), (0, x2)] [] T V = (zcall 60 [(2, 58), (0, (V 58 2))] T V).bind fun x => ev 67 56 [(2, 58), (0, x1), (0, x2)] (z_push x.1 []) x.2.1 x.2.2 := by
  refine Eq.trans (ev_lda (show zcode 67 48 = some (6, 49, 0, 0, []) by decide +kernel) rfl (by decide)) ?_
  refine Eq.trans (ev_lda (show zcode 67 49 = some (6, 50, 0, 0, []) by decide +kernel) rfl (by decide)) ?_
  refine Eq.trans (ev_gi (show zcode 67 50 = some (55, 53, 7, 2, []) by decide +kernel) (so58 hS)) ?_
  exact ev_cvirt (show zcode 67 53 = some (76, 56, 60, 2, [7]) by decide +kernel) (args := [(0, (V 58 2))]) (rest := []) rfl (so58 hS) rfl (show 0 ≤ 8 by decide) ⟨by decide, show 2 ≤ 2 by decide⟩
theorem b67_56 {T : zT} {V : zM} {x1 : Int} {x2 : Int} {y0 : Int} (h1 : (0 : Int) ≤ y0 ∧ y0 ≤ 1) : ev 67 56 [(2, 58), (0, x1), (0, x2)] [(0, y0)] T V = some ((0, y0), T, V) := by
  exact ev_rz (show zcode 67 56 = some (72, 57, 3, 0, []) by decide +kernel) h1
theorem b67_57 {T : zT} {V : zM} {x1 : Int} {x2 : Int} (hS : zStr T) (h1 : -2147483648 ≤ (x1 - 1) ∧ (x1 - 1) ≤ 2147483647) (h2 : (0 : Int) ≤ (x1 - 1) ∧ (x1 - 1) < 7) : ev 67 57 [(2, 58), (0, x1), (0, x2)] [] T V = (zcall 43 [(2, 58)] T (zwr V 32 (x1 - 1) x2)).bind fun x => ev 67 73 [(2, 58), (0, x1), (0, x2)] (z_push x.1 []) x.2.1 x.2.2 := by
  refine Eq.trans (ev_lda (show zcode 67 57 = some (6, 58, 0, 0, []) by decide +kernel) rfl (by decide)) ?_
  refine Eq.trans (ev_gq (show zcode 67 58 = some (56, 61, 7, 1, []) by decide +kernel) (so58 hS) (sp58_1 hS)) ?_
  refine Eq.trans (ev_gq (show zcode 67 61 = some (56, 64, 6, 4, []) by decide +kernel) (so28 hS) (sp28_4 hS)) ?_
  refine Eq.trans (ev_ldi (show zcode 67 64 = some (4, 65, 1, 0, []) by decide +kernel) rfl) ?_
  refine Eq.trans (ev_ci (show zcode 67 65 = some (0, 66, 0, 1, []) by decide +kernel) (by decide)) ?_
  refine Eq.trans (ev_sub (show zcode 67 66 = some (12, 67, 0, 0, []) by decide +kernel) h1) ?_
  refine Eq.trans (ev_ldi (show zcode 67 67 = some (4, 68, 2, 0, []) by decide +kernel) rfl) ?_
  refine Eq.trans (ev_is (show zcode 67 68 = some (64, 69, 0, 0, []) by decide +kernel) (sa32 hS) h2) ?_
  refine Eq.trans (ev_lda (show zcode 67 69 = some (6, 70, 0, 0, []) by decide +kernel) rfl (by decide)) ?_
  exact ev_cvirt (show zcode 67 70 = some (76, 73, 43, 1, [7]) by decide +kernel) (args := []) (rest := []) rfl (so58 hS) rfl (show 0 ≤ 8 by decide) ⟨by decide, show 1 ≤ 1 by decide⟩
theorem b67_73 {T : zT} {V : zM} {x1 : Int} {x2 : Int} : ev 67 73 [(2, 58), (0, x1), (0, x2)] [] T V = some ((0, 1), T, V) := by
  refine Eq.trans (ev_ci (show zcode 67 73 = some (0, 74, 0, 1, []) by decide +kernel) (by decide)) ?_
  exact ev_rz (show zcode 67 74 = some (72, 75, 3, 0, []) by decide +kernel) (by decide)
/-! 68: TwoWayWall$TableReader.tellDrop()Z -/
theorem e68 {T : zT} {V : zM}  : zcall 68 [(2, 58)] T V = ev 68 0 [(2, 58), (9, 0), (9, 0)] [] T V := rfl
theorem b68_0 {T : zT} {V : zM}  (hS : zStr T)  : ev 68 0 [(2, 58), (9, 0), (9, 0)] [] T V = (zcall 43 [(2, 58)] T V).bind fun x => ev 68 4 [(2, 58), (9, 0), (9, 0)] (z_push x.1 []) x.2.1 x.2.2 := by
  refine Eq.trans (ev_lda (show zcode 68 0 = some (6, 1, 0, 0, []) by decide +kernel) rfl (by decide)) ?_
  exact ev_cvirt (show zcode 68 1 = some (76, 4, 43, 1, [7]) by decide +kernel) (args := []) (rest := []) rfl (so58 hS) rfl (show 0 ≤ 8 by decide) ⟨by decide, show 1 ≤ 1 by decide⟩
theorem b68_4 {T : zT} {V : zM}  (hS : zStr T)  : ev 68 4 [(2, 58), (9, 0), (9, 0)] [] T V = (zcall 63 [(2, 58)] T V).bind fun x => ev 68 8 [(2, 58), (9, 0), (9, 0)] (z_push x.1 []) x.2.1 x.2.2 := by
  refine Eq.trans (ev_lda (show zcode 68 4 = some (6, 5, 0, 0, []) by decide +kernel) rfl (by decide)) ?_
  exact ev_cvirt (show zcode 68 5 = some (76, 8, 63, 1, [7]) by decide +kernel) (args := []) (rest := []) rfl (so58 hS) rfl (show 0 ≤ 8 by decide) ⟨by decide, show 1 ≤ 1 by decide⟩
theorem b68_8 {T : zT} {V : zM} {p0 : Int} : ev 68 8 [(2, 58), (9, 0), (9, 0)] [(2, p0)] T V = if 0 ≤ p0 then ev 68 22 [(2, 58), (2, p0), (9, 0)] [] T V else ev 68 13 [(2, 58), (2, p0), (9, 0)] [] T V := by
  refine Eq.trans (ev_sta (show zcode 68 8 = some (9, 9, 1, 0, []) by decide +kernel) ⟨show 1 < 3 by decide, Or.inr (show ¬ (2 : Nat) = 1 by decide)⟩) ?_
  refine Eq.trans (ev_lda (show zcode 68 9 = some (6, 10, 1, 0, []) by decide +kernel) rfl (by decide)) ?_
  exact ev_nn (show zcode 68 10 = some (52, 13, 22, 0, []) by decide +kernel)
theorem b68_13 {T : zT} {V : zM} {q1 : Int} (hS : zStr T)  : ev 68 13 [(2, 58), (2, q1), (9, 0)] [] T V = (zcall 60 [(2, 58), (0, (V 58 2))] T V).bind fun x => ev 68 21 [(2, 58), (2, q1), (9, 0)] (z_push x.1 []) x.2.1 x.2.2 := by
  refine Eq.trans (ev_lda (show zcode 68 13 = some (6, 14, 0, 0, []) by decide +kernel) rfl (by decide)) ?_
  refine Eq.trans (ev_lda (show zcode 68 14 = some (6, 15, 0, 0, []) by decide +kernel) rfl (by decide)) ?_
  refine Eq.trans (ev_gi (show zcode 68 15 = some (55, 18, 7, 2, []) by decide +kernel) (so58 hS)) ?_
  exact ev_cvirt (show zcode 68 18 = some (76, 21, 60, 2, [7]) by decide +kernel) (args := [(0, (V 58 2))]) (rest := []) rfl (so58 hS) rfl (show 0 ≤ 8 by decide) ⟨by decide, show 2 ≤ 2 by decide⟩
theorem b68_21 {T : zT} {V : zM} {q1 : Int} {y0 : Int} (h1 : (0 : Int) ≤ y0 ∧ y0 ≤ 1) : ev 68 21 [(2, 58), (2, q1), (9, 0)] [(0, y0)] T V = some ((0, y0), T, V) := by
  exact ev_rz (show zcode 68 21 = some (72, 22, 3, 0, []) by decide +kernel) h1
theorem b68_22 {T : zT} {V : zM} {q1 : Int} (hS : zStr T)  : ev 68 22 [(2, 58), (2, q1), (9, 0)] [] T V = (zcall 43 [(2, 58)] T V).bind fun x => ev 68 26 [(2, 58), (2, q1), (9, 0)] (z_push x.1 []) x.2.1 x.2.2 := by
  refine Eq.trans (ev_lda (show zcode 68 22 = some (6, 23, 0, 0, []) by decide +kernel) rfl (by decide)) ?_
  exact ev_cvirt (show zcode 68 23 = some (76, 26, 43, 1, [7]) by decide +kernel) (args := []) (rest := []) rfl (so58 hS) rfl (show 0 ≤ 8 by decide) ⟨by decide, show 1 ≤ 1 by decide⟩
theorem b68_26 {T : zT} {V : zM} {q1 : Int} (hS : zStr T)  : ev 68 26 [(2, 58), (2, q1), (9, 0)] [] T V = (zcall 59 [(2, 58)] T V).bind fun x => ev 68 30 [(2, 58), (2, q1), (9, 0)] (z_push x.1 []) x.2.1 x.2.2 := by
  refine Eq.trans (ev_lda (show zcode 68 26 = some (6, 27, 0, 0, []) by decide +kernel) rfl (by decide)) ?_
  exact ev_cvirt (show zcode 68 27 = some (76, 30, 59, 1, [7]) by decide +kernel) (args := []) (rest := []) rfl (so58 hS) rfl (show 0 ≤ 8 by decide) ⟨by decide, show 1 ≤ 1 by decide⟩
theorem b68_30 {T : zT} {V : zM} {q1 : Int} {y0 : Int} : ev 68 30 [(2, 58), (2, q1), (9, 0)] [(0, y0)] T V = if y0 = (-1) then ev 68 36 [(2, 58), (2, q1), (0, y0)] [] T V else ev 68 45 [(2, 58), (2, q1), (0, y0)] [] T V := by
  refine Eq.trans (ev_sti (show zcode 68 30 = some (7, 31, 2, 0, []) by decide +kernel) ⟨show 2 < 3 by decide, Or.inr (show ¬ (2 : Nat) = 1 by decide)⟩) ?_
  refine Eq.trans (ev_ldi (show zcode 68 31 = some (4, 32, 2, 0, []) by decide +kernel) rfl) ?_
  refine Eq.trans (ev_ci (show zcode 68 32 = some (0, 33, 0, (-1), []) by decide +kernel) (by decide)) ?_
  exact ev_cne (show zcode 68 33 = some (47, 36, 45, 0, []) by decide +kernel)
theorem b68_36 {T : zT} {V : zM} {q1 : Int} {x2 : Int} (hS : zStr T)  : ev 68 36 [(2, 58), (2, q1), (0, x2)] [] T V = (zcall 60 [(2, 58), (0, (V 58 2))] T V).bind fun x => ev 68 44 [(2, 58), (2, q1), (0, x2)] (z_push x.1 []) x.2.1 x.2.2 := by
  refine Eq.trans (ev_lda (show zcode 68 36 = some (6, 37, 0, 0, []) by decide +kernel) rfl (by decide)) ?_
  refine Eq.trans (ev_lda (show zcode 68 37 = some (6, 38, 0, 0, []) by decide +kernel) rfl (by decide)) ?_
  refine Eq.trans (ev_gi (show zcode 68 38 = some (55, 41, 7, 2, []) by decide +kernel) (so58 hS)) ?_
  exact ev_cvirt (show zcode 68 41 = some (76, 44, 60, 2, [7]) by decide +kernel) (args := [(0, (V 58 2))]) (rest := []) rfl (so58 hS) rfl (show 0 ≤ 8 by decide) ⟨by decide, show 2 ≤ 2 by decide⟩
theorem b68_44 {T : zT} {V : zM} {q1 : Int} {x2 : Int} {y0 : Int} (h1 : (0 : Int) ≤ y0 ∧ y0 ≤ 1) : ev 68 44 [(2, 58), (2, q1), (0, x2)] [(0, y0)] T V = some ((0, y0), T, V) := by
  exact ev_rz (show zcode 68 44 = some (72, 45, 3, 0, []) by decide +kernel) h1
theorem b68_45 {T : zT} {V : zM} {q1 : Int} {x2 : Int} (hS : zStr T) (h1 : zTongue T q1) (h2 : (0 : Int) ≤ x2 ∧ x2 < 26) : ev 68 45 [(2, 58), (2, q1), (0, x2)] [] T V = (zcall 43 [(2, 58)] T (zwr (zwr V (q1 + 1) x2 0) (q1 + 2) x2 0)).bind fun x => ev 68 63 [(2, 58), (2, q1), (0, x2)] (z_push x.1 []) x.2.1 x.2.2 := by
  refine Eq.trans (ev_lda (show zcode 68 45 = some (6, 46, 1, 0, []) by decide +kernel) rfl (by decide)) ?_
  refine Eq.trans (ev_gq (show zcode 68 46 = some (56, 49, 9, 0, []) by decide +kernel) h1.o h1.p0) ?_
  refine Eq.trans (ev_ldi (show zcode 68 49 = some (4, 50, 2, 0, []) by decide +kernel) rfl) ?_
  refine Eq.trans (ev_ci (show zcode 68 50 = some (0, 51, 0, 0, []) by decide +kernel) (by decide)) ?_
  refine Eq.trans (ev_is (show zcode 68 51 = some (64, 52, 0, 0, []) by decide +kernel) h1.a1 h2) ?_
  refine Eq.trans (ev_lda (show zcode 68 52 = some (6, 53, 1, 0, []) by decide +kernel) rfl (by decide)) ?_
  refine Eq.trans (ev_gq (show zcode 68 53 = some (56, 56, 9, 1, []) by decide +kernel) h1.o h1.p1) ?_
  refine Eq.trans (ev_ldi (show zcode 68 56 = some (4, 57, 2, 0, []) by decide +kernel) rfl) ?_
  refine Eq.trans (ev_ci (show zcode 68 57 = some (0, 58, 0, 0, []) by decide +kernel) (by decide)) ?_
  refine Eq.trans (ev_is (show zcode 68 58 = some (64, 59, 0, 0, []) by decide +kernel) h1.a2 h2) ?_
  refine Eq.trans (ev_lda (show zcode 68 59 = some (6, 60, 0, 0, []) by decide +kernel) rfl (by decide)) ?_
  exact ev_cvirt (show zcode 68 60 = some (76, 63, 43, 1, [7]) by decide +kernel) (args := []) (rest := []) rfl (so58 hS) rfl (show 0 ≤ 8 by decide) ⟨by decide, show 1 ≤ 1 by decide⟩
theorem b68_63 {T : zT} {V : zM} {q1 : Int} {x2 : Int} : ev 68 63 [(2, 58), (2, q1), (0, x2)] [] T V = some ((0, 1), T, V) := by
  refine Eq.trans (ev_ci (show zcode 68 63 = some (0, 64, 0, 1, []) by decide +kernel) (by decide)) ?_
  exact ev_rz (show zcode 68 64 = some (72, 65, 3, 0, []) by decide +kernel) (by decide)
/-! 69: TwoWayWall$TableReader.isSign(C)Z -/
theorem e69 {T : zT} {V : zM} {x1 : Int} : zcall 69 [(2, 58), (0, x1)] T V = ev 69 0 [(2, 58), (0, x1)] [] T V := rfl
theorem b69_0 {T : zT} {V : zM} {x1 : Int} (hS : zStr T)  : ev 69 0 [(2, 58), (0, x1)] [] T V = if (V 58 4) = 3 then ev 69 8 [(2, 58), (0, x1)] [] T V else ev 69 28 [(2, 58), (0, x1)] [] T V := by
  refine Eq.trans (ev_lda (show zcode 69 0 = some (6, 1, 0, 0, []) by decide +kernel) rfl (by decide)) ?_
  refine Eq.trans (ev_gi (show zcode 69 1 = some (55, 4, 7, 4, []) by decide +kernel) (so58 hS)) ?_
  refine Eq.trans (ev_ci (show zcode 69 4 = some (0, 5, 0, 3, []) by decide +kernel) (by decide)) ?_
  exact ev_cne (show zcode 69 5 = some (47, 8, 28, 0, []) by decide +kernel)
theorem b69_8 {T : zT} {V : zM} {x1 : Int} (hS : zStr T) (h1 : (0 : Int) ≤ (V 58 2) ∧ (V 58 2) < 400) : ev 69 8 [(2, 58), (0, x1)] [] T V = if (V 57 (V 58 2)) = x1 then ev 69 24 [(2, 58), (0, x1)] [] T V else ev 69 28 [(2, 58), (0, x1)] [] T V := by
  refine Eq.trans (ev_lda (show zcode 69 8 = some (6, 9, 0, 0, []) by decide +kernel) rfl (by decide)) ?_
  refine Eq.trans (ev_gq (show zcode 69 9 = some (56, 12, 7, 0, []) by decide +kernel) (so58 hS) (sp58_0 hS)) ?_
  refine Eq.trans (ev_gq (show zcode 69 12 = some (56, 15, 8, 0, []) by decide +kernel) (so56 hS) (sp56_0 hS)) ?_
  refine Eq.trans (ev_lda (show zcode 69 15 = some (6, 16, 0, 0, []) by decide +kernel) rfl (by decide)) ?_
  refine Eq.trans (ev_gi (show zcode 69 16 = some (55, 19, 7, 2, []) by decide +kernel) (so58 hS)) ?_
  refine Eq.trans (ev_ia (show zcode 69 19 = some (60, 20, 0, 0, []) by decide +kernel) (sa57 hS) h1) ?_
  refine Eq.trans (ev_ldi (show zcode 69 20 = some (4, 21, 1, 0, []) by decide +kernel) rfl) ?_
  exact ev_cne (show zcode 69 21 = some (47, 24, 28, 0, []) by decide +kernel)
theorem b69_24 {T : zT} {V : zM} {x1 : Int} : ev 69 24 [(2, 58), (0, x1)] [] T V = ev 69 29 [(2, 58), (0, x1)] [(0, 1)] T V := by
  refine Eq.trans (ev_ci (show zcode 69 24 = some (0, 25, 0, 1, []) by decide +kernel) (by decide)) ?_
  exact ev_goto (show zcode 69 25 = some (53, 28, 29, 0, []) by decide +kernel)
theorem b69_28 {T : zT} {V : zM} {x1 : Int} : ev 69 28 [(2, 58), (0, x1)] [] T V = ev 69 29 [(2, 58), (0, x1)] [(0, 0)] T V := by
  exact ev_ci (show zcode 69 28 = some (0, 29, 0, 0, []) by decide +kernel) (by decide)
theorem b69_29 {T : zT} {V : zM} {x1 : Int} {y0 : Int} (h1 : (0 : Int) ≤ y0 ∧ y0 ≤ 1) : ev 69 29 [(2, 58), (0, x1)] [(0, y0)] T V = some ((0, y0), T, V) := by
  exact ev_rz (show zcode 69 29 = some (72, 30, 3, 0, []) by decide +kernel) h1
/-! 109: java/util/Arrays.copyOf([II)[I -/
theorem e109 {T : zT} {V : zM} {q0 : Int} {x1 : Int} : zcall 109 [(2, q0), (0, x1)] T V = ev 109 0 [(2, q0), (0, x1), (9, 0)] [] T V := rfl
theorem b109_0 {T : zT} {V : zM} {q0 : Int} {x1 : Int} {n1 : Int} (h1 : zAr T q0 0 n1) : ev 109 0 [(2, q0), (0, x1), (9, 0)] [] T V = if x1 = n1 then ev 109 6 [(2, q0), (0, x1), (9, 0)] [] T V else ev 109 14 [(2, q0), (0, x1), (9, 0)] [] T V := by
  refine Eq.trans (ev_ldi (show zcode 109 0 = some (4, 1, 1, 0, []) by decide +kernel) rfl) ?_
  refine Eq.trans (ev_lda (show zcode 109 1 = some (6, 2, 0, 0, []) by decide +kernel) rfl (by decide)) ?_
  refine Eq.trans (ev_len (show zcode 109 2 = some (68, 3, 0, 0, []) by decide +kernel) h1 (by decide)) ?_
  exact ev_cne (show zcode 109 3 = some (47, 6, 14, 0, []) by decide +kernel)
theorem b109_14 {T : zT} {V : zM} {q0 : Int} {x1 : Int} (h1 : (0 : Int) ≤ x1 ∧ x1 ≤ 1000000) : ev 109 14 [(2, q0), (0, x1), (9, 0)] [] T V = ev 109 17 [(2, q0), (0, x1), (9, 0)] [(2, (zsz T))] (zn T 0 x1) (zs V (zsz T) (fun _ => 0)) := by
  refine Eq.trans (ev_ldi (show zcode 109 14 = some (4, 15, 1, 0, []) by decide +kernel) rfl) ?_
  exact ev_narr (show zcode 109 15 = some (70, 17, 0, 0, []) by decide +kernel) h1
theorem b109_17 {T : zT} {V : zM} {q0 : Int} {x1 : Int} {p0 : Int} {n1 : Int} {n2 : Int} (h1 : zAr T q0 0 n1) (h2 : zAr T p0 0 n2) (h3 : (0 : Int) ≤ (min n1 x1) ∧ (0 : Int) ≤ 0 ∧ (0 : Int) ≤ 0 ∧ 0 + (min n1 x1) ≤ n1 ∧ 0 + (min n1 x1) ≤ n2) (h4 : q0 ≠ p0) : ev 109 17 [(2, q0), (0, x1), (9, 0)] [(2, p0)] T V = some ((2, p0), T, (zcp V p0 q0 0 0 (min n1 x1))) := by
  refine Eq.trans (ev_sta (show zcode 109 17 = some (9, 18, 2, 0, []) by decide +kernel) ⟨show 2 < 3 by decide, Or.inr (show ¬ (0 : Nat) = 1 by decide)⟩) ?_
  refine Eq.trans (ev_lda (show zcode 109 18 = some (6, 19, 0, 0, []) by decide +kernel) rfl (by decide)) ?_
  refine Eq.trans (ev_ci (show zcode 109 19 = some (0, 20, 0, 0, []) by decide +kernel) (by decide)) ?_
  refine Eq.trans (ev_lda (show zcode 109 20 = some (6, 21, 2, 0, []) by decide +kernel) rfl (by decide)) ?_
  refine Eq.trans (ev_ci (show zcode 109 21 = some (0, 22, 0, 0, []) by decide +kernel) (by decide)) ?_
  refine Eq.trans (ev_lda (show zcode 109 22 = some (6, 23, 0, 0, []) by decide +kernel) rfl (by decide)) ?_
  refine Eq.trans (ev_len (show zcode 109 23 = some (68, 24, 0, 0, []) by decide +kernel) h1 (by decide)) ?_
  refine Eq.trans (ev_ldi (show zcode 109 24 = some (4, 25, 1, 0, []) by decide +kernel) rfl) ?_
  refine Eq.trans (ev_min (show zcode 109 25 = some (85, 28, 0, 0, []) by decide +kernel) (show 4 ≤ 8 by decide)) ?_
  refine Eq.trans (ev_cpyi (show zcode 109 28 = some (79, 31, 0, 0, []) by decide +kernel) (c := 0) (by decide) h1 h2 h4 h3 (show 0 ≤ 8 by decide)) ?_
  refine Eq.trans (ev_lda (show zcode 109 31 = some (6, 32, 2, 0, []) by decide +kernel) rfl (by decide)) ?_
  exact ev_rr (show zcode 109 32 = some (72, 33, 2, 0, []) by decide +kernel)
/-! 110: java/util/Arrays.copyOf([JI)[J -/
theorem e110 {T : zT} {V : zM} {q0 : Int} {x1 : Int} : zcall 110 [(2, q0), (0, x1)] T V = ev 110 0 [(2, q0), (0, x1), (9, 0)] [] T V := rfl
theorem b110_0 {T : zT} {V : zM} {q0 : Int} {x1 : Int} {n1 : Int} (h1 : zAr T q0 1 n1) : ev 110 0 [(2, q0), (0, x1), (9, 0)] [] T V = if x1 = n1 then ev 110 6 [(2, q0), (0, x1), (9, 0)] [] T V else ev 110 14 [(2, q0), (0, x1), (9, 0)] [] T V := by
  refine Eq.trans (ev_ldi (show zcode 110 0 = some (4, 1, 1, 0, []) by decide +kernel) rfl) ?_
  refine Eq.trans (ev_lda (show zcode 110 1 = some (6, 2, 0, 0, []) by decide +kernel) rfl (by decide)) ?_
  refine Eq.trans (ev_len (show zcode 110 2 = some (68, 3, 0, 0, []) by decide +kernel) h1 (by decide)) ?_
  exact ev_cne (show zcode 110 3 = some (47, 6, 14, 0, []) by decide +kernel)
theorem b110_14 {T : zT} {V : zM} {q0 : Int} {x1 : Int} (h1 : (0 : Int) ≤ x1 ∧ x1 ≤ 1000000) : ev 110 14 [(2, q0), (0, x1), (9, 0)] [] T V = ev 110 17 [(2, q0), (0, x1), (9, 0)] [(2, (zsz T))] (zn T 1 x1) (zs V (zsz T) (fun _ => 0)) := by
  refine Eq.trans (ev_ldi (show zcode 110 14 = some (4, 15, 1, 0, []) by decide +kernel) rfl) ?_
  exact ev_narr (show zcode 110 15 = some (70, 17, 1, 0, []) by decide +kernel) h1
theorem b110_17 {T : zT} {V : zM} {q0 : Int} {x1 : Int} {p0 : Int} {n1 : Int} {n2 : Int} (h1 : zAr T q0 1 n1) (h2 : zAr T p0 1 n2) (h3 : (0 : Int) ≤ (min n1 x1) ∧ (0 : Int) ≤ 0 ∧ (0 : Int) ≤ 0 ∧ 0 + (min n1 x1) ≤ n1 ∧ 0 + (min n1 x1) ≤ n2) (h4 : q0 ≠ p0) : ev 110 17 [(2, q0), (0, x1), (9, 0)] [(2, p0)] T V = some ((2, p0), T, (zcp V p0 q0 0 0 (min n1 x1))) := by
  refine Eq.trans (ev_sta (show zcode 110 17 = some (9, 18, 2, 0, []) by decide +kernel) ⟨show 2 < 3 by decide, Or.inr (show ¬ (0 : Nat) = 1 by decide)⟩) ?_
  refine Eq.trans (ev_lda (show zcode 110 18 = some (6, 19, 0, 0, []) by decide +kernel) rfl (by decide)) ?_
  refine Eq.trans (ev_ci (show zcode 110 19 = some (0, 20, 0, 0, []) by decide +kernel) (by decide)) ?_
  refine Eq.trans (ev_lda (show zcode 110 20 = some (6, 21, 2, 0, []) by decide +kernel) rfl (by decide)) ?_
  refine Eq.trans (ev_ci (show zcode 110 21 = some (0, 22, 0, 0, []) by decide +kernel) (by decide)) ?_
  refine Eq.trans (ev_lda (show zcode 110 22 = some (6, 23, 0, 0, []) by decide +kernel) rfl (by decide)) ?_
  refine Eq.trans (ev_len (show zcode 110 23 = some (68, 24, 0, 0, []) by decide +kernel) h1 (by decide)) ?_
  refine Eq.trans (ev_ldi (show zcode 110 24 = some (4, 25, 1, 0, []) by decide +kernel) rfl) ?_
  refine Eq.trans (ev_min (show zcode 110 25 = some (85, 28, 0, 0, []) by decide +kernel) (show 4 ≤ 8 by decide)) ?_
  refine Eq.trans (ev_cpyi (show zcode 110 28 = some (79, 31, 0, 0, []) by decide +kernel) (c := 1) (by decide) h1 h2 h4 h3 (show 0 ≤ 8 by decide)) ?_
  refine Eq.trans (ev_lda (show zcode 110 31 = some (6, 32, 2, 0, []) by decide +kernel) rfl (by decide)) ?_
  exact ev_rr (show zcode 110 32 = some (72, 33, 2, 0, []) by decide +kernel)
/-! 128: java/lang/Integer.bitCount(I)I -/
theorem e128 {T : zT} {V : zM} {x0 : Int} : zcall 128 [(0, x0)] T V = ev 128 0 [(0, x0)] [] T V := rfl
theorem b128_0 {T : zT} {V : zM} {x0 : Int} (h1 : -2147483648 ≤ (x0 - (zand (x0 % 4294967296 / 2) 1431655765)) ∧ (x0 - (zand (x0 % 4294967296 / 2) 1431655765)) ≤ 2147483647) (h2 : -2147483648 ≤ ((zand (x0 - (zand (x0 % 4294967296 / 2) 1431655765)) 858993459) + (zand ((x0 - (zand (x0 % 4294967296 / 2) 1431655765)) % 4294967296 / 4) 858993459)) ∧ ((zand (x0 - (zand (x0 % 4294967296 / 2) 1431655765)) 858993459) + (zand ((x0 - (zand (x0 % 4294967296 / 2) 1431655765)) % 4294967296 / 4) 858993459)) ≤ 2147483647) (h3 : -2147483648 ≤ (((zand (x0 - (zand (x0 % 4294967296 / 2) 1431655765)) 858993459) + (zand ((x0 - (zand (x0 % 4294967296 / 2) 1431655765)) % 4294967296 / 4) 858993459)) + (((zand (x0 - (zand (x0 % 4294967296 / 2) 1431655765)) 858993459) + (zand ((x0 - (zand (x0 % 4294967296 / 2) 1431655765)) % 4294967296 / 4) 858993459)) % 4294967296 / 16)) ∧ (((zand (x0 - (zand (x0 % 4294967296 / 2) 1431655765)) 858993459) + (zand ((x0 - (zand (x0 % 4294967296 / 2) 1431655765)) % 4294967296 / 4) 858993459)) + (((zand (x0 - (zand (x0 % 4294967296 / 2) 1431655765)) 858993459) + (zand ((x0 - (zand (x0 % 4294967296 / 2) 1431655765)) % 4294967296 / 4) 858993459)) % 4294967296 / 16)) ≤ 2147483647) (h4 : -2147483648 ≤ ((zand (((zand (x0 - (zand (x0 % 4294967296 / 2) 1431655765)) 858993459) + (zand ((x0 - (zand (x0 % 4294967296 / 2) 1431655765)) % 4294967296 / 4) 858993459)) + (((zand (x0 - (zand (x0 % 4294967296 / 2) 1431655765)) 858993459) + (zand ((x0 - (zand (x0 % 4294967296 / 2) 1431655765)) % 4294967296 / 4) 858993459)) % 4294967296 / 16)) 252645135) + ((zand (((zand (x0 - (zand (x0 % 4294967296 / 2) 1431655765)) 858993459) + (zand ((x0 - (zand (x0 % 4294967296 / 2) 1431655765)) % 4294967296 / 4) 858993459)) + (((zand (x0 - (zand (x0 % 4294967296 / 2) 1431655765)) 858993459) + (zand ((x0 - (zand (x0 % 4294967296 / 2) 1431655765)) % 4294967296 / 4) 858993459)) % 4294967296 / 16)) 252645135) % 4294967296 / 256)) ∧ ((zand (((zand (x0 - (zand (x0 % 4294967296 / 2) 1431655765)) 858993459) + (zand ((x0 - (zand (x0 % 4294967296 / 2) 1431655765)) % 4294967296 / 4) 858993459)) + (((zand (x0 - (zand (x0 % 4294967296 / 2) 1431655765)) 858993459) + (zand ((x0 - (zand (x0 % 4294967296 / 2) 1431655765)) % 4294967296 / 4) 858993459)) % 4294967296 / 16)) 252645135) + ((zand (((zand (x0 - (zand (x0 % 4294967296 / 2) 1431655765)) 858993459) + (zand ((x0 - (zand (x0 % 4294967296 / 2) 1431655765)) % 4294967296 / 4) 858993459)) + (((zand (x0 - (zand (x0 % 4294967296 / 2) 1431655765)) 858993459) + (zand ((x0 - (zand (x0 % 4294967296 / 2) 1431655765)) % 4294967296 / 4) 858993459)) % 4294967296 / 16)) 252645135) % 4294967296 / 256)) ≤ 2147483647) (h5 : -2147483648 ≤ (((zand (((zand (x0 - (zand (x0 % 4294967296 / 2) 1431655765)) 858993459) + (zand ((x0 - (zand (x0 % 4294967296 / 2) 1431655765)) % 4294967296 / 4) 858993459)) + (((zand (x0 - (zand (x0 % 4294967296 / 2) 1431655765)) 858993459) + (zand ((x0 - (zand (x0 % 4294967296 / 2) 1431655765)) % 4294967296 / 4) 858993459)) % 4294967296 / 16)) 252645135) + ((zand (((zand (x0 - (zand (x0 % 4294967296 / 2) 1431655765)) 858993459) + (zand ((x0 - (zand (x0 % 4294967296 / 2) 1431655765)) % 4294967296 / 4) 858993459)) + (((zand (x0 - (zand (x0 % 4294967296 / 2) 1431655765)) 858993459) + (zand ((x0 - (zand (x0 % 4294967296 / 2) 1431655765)) % 4294967296 / 4) 858993459)) % 4294967296 / 16)) 252645135) % 4294967296 / 256)) + (((zand (((zand (x0 - (zand (x0 % 4294967296 / 2) 1431655765)) 858993459) + (zand ((x0 - (zand (x0 % 4294967296 / 2) 1431655765)) % 4294967296 / 4) 858993459)) + (((zand (x0 - (zand (x0 % 4294967296 / 2) 1431655765)) 858993459) + (zand ((x0 - (zand (x0 % 4294967296 / 2) 1431655765)) % 4294967296 / 4) 858993459)) % 4294967296 / 16)) 252645135) + ((zand (((zand (x0 - (zand (x0 % 4294967296 / 2) 1431655765)) 858993459) + (zand ((x0 - (zand (x0 % 4294967296 / 2) 1431655765)) % 4294967296 / 4) 858993459)) + (((zand (x0 - (zand (x0 % 4294967296 / 2) 1431655765)) 858993459) + (zand ((x0 - (zand (x0 % 4294967296 / 2) 1431655765)) % 4294967296 / 4) 858993459)) % 4294967296 / 16)) 252645135) % 4294967296 / 256)) % 4294967296 / 65536)) ∧ (((zand (((zand (x0 - (zand (x0 % 4294967296 / 2) 1431655765)) 858993459) + (zand ((x0 - (zand (x0 % 4294967296 / 2) 1431655765)) % 4294967296 / 4) 858993459)) + (((zand (x0 - (zand (x0 % 4294967296 / 2) 1431655765)) 858993459) + (zand ((x0 - (zand (x0 % 4294967296 / 2) 1431655765)) % 4294967296 / 4) 858993459)) % 4294967296 / 16)) 252645135) + ((zand (((zand (x0 - (zand (x0 % 4294967296 / 2) 1431655765)) 858993459) + (zand ((x0 - (zand (x0 % 4294967296 / 2) 1431655765)) % 4294967296 / 4) 858993459)) + (((zand (x0 - (zand (x0 % 4294967296 / 2) 1431655765)) 858993459) + (zand ((x0 - (zand (x0 % 4294967296 / 2) 1431655765)) % 4294967296 / 4) 858993459)) % 4294967296 / 16)) 252645135) % 4294967296 / 256)) + (((zand (((zand (x0 - (zand (x0 % 4294967296 / 2) 1431655765)) 858993459) + (zand ((x0 - (zand (x0 % 4294967296 / 2) 1431655765)) % 4294967296 / 4) 858993459)) + (((zand (x0 - (zand (x0 % 4294967296 / 2) 1431655765)) 858993459) + (zand ((x0 - (zand (x0 % 4294967296 / 2) 1431655765)) % 4294967296 / 4) 858993459)) % 4294967296 / 16)) 252645135) + ((zand (((zand (x0 - (zand (x0 % 4294967296 / 2) 1431655765)) 858993459) + (zand ((x0 - (zand (x0 % 4294967296 / 2) 1431655765)) % 4294967296 / 4) 858993459)) + (((zand (x0 - (zand (x0 % 4294967296 / 2) 1431655765)) 858993459) + (zand ((x0 - (zand (x0 % 4294967296 / 2) 1431655765)) % 4294967296 / 4) 858993459)) % 4294967296 / 16)) 252645135) % 4294967296 / 256)) % 4294967296 / 65536)) ≤ 2147483647) : ev 128 0 [(0, x0)] [] T V = some ((0, (zand (((zand (((zand (x0 - (zand (x0 % 4294967296 / 2) 1431655765)) 858993459) + (zand ((x0 - (zand (x0 % 4294967296 / 2) 1431655765)) % 4294967296 / 4) 858993459)) + (((zand (x0 - (zand (x0 % 4294967296 / 2) 1431655765)) 858993459) + (zand ((x0 - (zand (x0 % 4294967296 / 2) 1431655765)) % 4294967296 / 4) 858993459)) % 4294967296 / 16)) 252645135) + ((zand (((zand (x0 - (zand (x0 % 4294967296 / 2) 1431655765)) 858993459) + (zand ((x0 - (zand (x0 % 4294967296 / 2) 1431655765)) % 4294967296 / 4) 858993459)) + (((zand (x0 - (zand (x0 % 4294967296 / 2) 1431655765)) 858993459) + (zand ((x0 - (zand (x0 % 4294967296 / 2) 1431655765)) % 4294967296 / 4) 858993459)) % 4294967296 / 16)) 252645135) % 4294967296 / 256)) + (((zand (((zand (x0 - (zand (x0 % 4294967296 / 2) 1431655765)) 858993459) + (zand ((x0 - (zand (x0 % 4294967296 / 2) 1431655765)) % 4294967296 / 4) 858993459)) + (((zand (x0 - (zand (x0 % 4294967296 / 2) 1431655765)) 858993459) + (zand ((x0 - (zand (x0 % 4294967296 / 2) 1431655765)) % 4294967296 / 4) 858993459)) % 4294967296 / 16)) 252645135) + ((zand (((zand (x0 - (zand (x0 % 4294967296 / 2) 1431655765)) 858993459) + (zand ((x0 - (zand (x0 % 4294967296 / 2) 1431655765)) % 4294967296 / 4) 858993459)) + (((zand (x0 - (zand (x0 % 4294967296 / 2) 1431655765)) 858993459) + (zand ((x0 - (zand (x0 % 4294967296 / 2) 1431655765)) % 4294967296 / 4) 858993459)) % 4294967296 / 16)) 252645135) % 4294967296 / 256)) % 4294967296 / 65536)) 63)), T, V) := by
  refine Eq.trans (ev_ldi (show zcode 128 0 = some (4, 1, 0, 0, []) by decide +kernel) rfl) ?_
  refine Eq.trans (ev_ldi (show zcode 128 1 = some (4, 2, 0, 0, []) by decide +kernel) rfl) ?_
  refine Eq.trans (ev_ci (show zcode 128 2 = some (0, 3, 0, 1, []) by decide +kernel) (by decide)) ?_
  refine Eq.trans (ev_ushr2 (show zcode 128 3 = some (22, 4, 0, 0, []) by decide +kernel) (p := 2) (by decide) (by decide)) ?_
  refine Eq.trans (ev_ci (show zcode 128 4 = some (0, 7, 0, 1431655765, []) by decide +kernel) (by decide)) ?_
  refine Eq.trans (ev_and (show zcode 128 7 = some (14, 8, 0, 0, []) by decide +kernel)) ?_
  refine Eq.trans (ev_sub (show zcode 128 8 = some (12, 9, 0, 0, []) by decide +kernel) h1) ?_
  refine Eq.trans (ev_sti (show zcode 128 9 = some (7, 10, 0, 0, []) by decide +kernel) ⟨show 0 < 1 by decide, Or.inl rfl⟩) ?_
  refine Eq.trans (ev_ldi (show zcode 128 10 = some (4, 11, 0, 0, []) by decide +kernel) rfl) ?_
  refine Eq.trans (ev_ci (show zcode 128 11 = some (0, 14, 0, 858993459, []) by decide +kernel) (by decide)) ?_
  refine Eq.trans (ev_and (show zcode 128 14 = some (14, 15, 0, 0, []) by decide +kernel)) ?_
  refine Eq.trans (ev_ldi (show zcode 128 15 = some (4, 16, 0, 0, []) by decide +kernel) rfl) ?_
  refine Eq.trans (ev_ci (show zcode 128 16 = some (0, 17, 0, 2, []) by decide +kernel) (by decide)) ?_
  refine Eq.trans (ev_ushr2 (show zcode 128 17 = some (22, 18, 0, 0, []) by decide +kernel) (p := 4) (by decide) (by decide)) ?_
  refine Eq.trans (ev_ci (show zcode 128 18 = some (0, 21, 0, 858993459, []) by decide +kernel) (by decide)) ?_
  refine Eq.trans (ev_and (show zcode 128 21 = some (14, 22, 0, 0, []) by decide +kernel)) ?_
  refine Eq.trans (ev_add (show zcode 128 22 = some (11, 23, 0, 0, []) by decide +kernel) h2) ?_
  refine Eq.trans (ev_sti (show zcode 128 23 = some (7, 24, 0, 0, []) by decide +kernel) ⟨show 0 < 1 by decide, Or.inl rfl⟩) ?_
  refine Eq.trans (ev_ldi (show zcode 128 24 = some (4, 25, 0, 0, []) by decide +kernel) rfl) ?_
  refine Eq.trans (ev_ldi (show zcode 128 25 = some (4, 26, 0, 0, []) by decide +kernel) rfl) ?_
  refine Eq.trans (ev_ci (show zcode 128 26 = some (0, 27, 0, 4, []) by decide +kernel) (by decide)) ?_
  refine Eq.trans (ev_ushr2 (show zcode 128 27 = some (22, 28, 0, 0, []) by decide +kernel) (p := 16) (by decide) (by decide)) ?_
  refine Eq.trans (ev_add (show zcode 128 28 = some (11, 29, 0, 0, []) by decide +kernel) h3) ?_
  refine Eq.trans (ev_ci (show zcode 128 29 = some (0, 32, 0, 252645135, []) by decide +kernel) (by decide)) ?_
  refine Eq.trans (ev_and (show zcode 128 32 = some (14, 33, 0, 0, []) by decide +kernel)) ?_
  refine Eq.trans (ev_sti (show zcode 128 33 = some (7, 34, 0, 0, []) by decide +kernel) ⟨show 0 < 1 by decide, Or.inl rfl⟩) ?_
  refine Eq.trans (ev_ldi (show zcode 128 34 = some (4, 35, 0, 0, []) by decide +kernel) rfl) ?_
  refine Eq.trans (ev_ldi (show zcode 128 35 = some (4, 36, 0, 0, []) by decide +kernel) rfl) ?_
  refine Eq.trans (ev_ci (show zcode 128 36 = some (0, 38, 0, 8, []) by decide +kernel) (by decide)) ?_
  refine Eq.trans (ev_ushr2 (show zcode 128 38 = some (22, 39, 0, 0, []) by decide +kernel) (p := 256) (by decide) (by decide)) ?_
  refine Eq.trans (ev_add (show zcode 128 39 = some (11, 40, 0, 0, []) by decide +kernel) h4) ?_
  refine Eq.trans (ev_sti (show zcode 128 40 = some (7, 41, 0, 0, []) by decide +kernel) ⟨show 0 < 1 by decide, Or.inl rfl⟩) ?_
  refine Eq.trans (ev_ldi (show zcode 128 41 = some (4, 42, 0, 0, []) by decide +kernel) rfl) ?_
  refine Eq.trans (ev_ldi (show zcode 128 42 = some (4, 43, 0, 0, []) by decide +kernel) rfl) ?_
  refine Eq.trans (ev_ci (show zcode 128 43 = some (0, 45, 0, 16, []) by decide +kernel) (by decide)) ?_
  refine Eq.trans (ev_ushr2 (show zcode 128 45 = some (22, 46, 0, 0, []) by decide +kernel) (p := 65536) (by decide) (by decide)) ?_
  refine Eq.trans (ev_add (show zcode 128 46 = some (11, 47, 0, 0, []) by decide +kernel) h5) ?_
  refine Eq.trans (ev_sti (show zcode 128 47 = some (7, 48, 0, 0, []) by decide +kernel) ⟨show 0 < 1 by decide, Or.inl rfl⟩) ?_
  refine Eq.trans (ev_ldi (show zcode 128 48 = some (4, 49, 0, 0, []) by decide +kernel) rfl) ?_
  refine Eq.trans (ev_ci (show zcode 128 49 = some (0, 51, 0, 63, []) by decide +kernel) (by decide)) ?_
  refine Eq.trans (ev_and (show zcode 128 51 = some (14, 52, 0, 0, []) by decide +kernel)) ?_
  exact ev_ri (show zcode 128 52 = some (72, 53, 0, 0, []) by decide +kernel)
