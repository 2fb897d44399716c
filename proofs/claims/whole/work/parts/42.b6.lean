/-! printed by blocks.py: the blocks of methods [198, 199, 200, 201, 202, 203, 204, 205, 206, 207, 208, 209, 210, 211, 212, 213, 214, 215, 216, 217, 218, 219, 220, 221, 222, 223, 224, 225, 226, 227, 228, 229, 230, 231, 232, 233, 234, 235, 236, 237, 238, 239, 240, 241, 242, 243, 244] -/
/-! 198: TwoWayWallModel.signFor(I)I -/
theorem e198 {T : zT} {V : zM} {x0 : Int} : zcall 198 [(0, x0)] T V = ev 198 0 [(0, x0)] [] T V := rfl
theorem b198_0 {T : zT} {V : zM} {x0 : Int} : ev 198 0 [(0, x0)] [] T V = if x0 = (-1) then ev 198 5 [(0, x0)] [] T V else ev 198 10 [(0, x0)] [] T V := by
  refine Eq.trans (ev_ldi (show zcode 198 0 = some (4, 1, 0, 0, []) by decide +kernel) rfl) ?_
  refine Eq.trans (ev_ci (show zcode 198 1 = some (0, 2, 0, (-1), []) by decide +kernel) (by decide)) ?_
  exact ev_cne (show zcode 198 2 = some (47, 5, 10, 0, []) by decide +kernel)
theorem b198_5 {T : zT} {V : zM} {x0 : Int} : ev 198 5 [(0, x0)] [] T V = ev 198 11 [(0, x0)] [(0, 26)] T V := by
  refine Eq.trans (ev_ci (show zcode 198 5 = some (0, 7, 0, 26, []) by decide +kernel) (by decide)) ?_
  exact ev_goto (show zcode 198 7 = some (53, 10, 11, 0, []) by decide +kernel)
theorem b198_10 {T : zT} {V : zM} {x0 : Int} : ev 198 10 [(0, x0)] [] T V = ev 198 11 [(0, x0)] [(0, x0)] T V := by
  exact ev_ldi (show zcode 198 10 = some (4, 11, 0, 0, []) by decide +kernel) rfl
theorem b198_11 {T : zT} {V : zM} {x0 : Int} {y0 : Int} : ev 198 11 [(0, x0)] [(0, y0)] T V = some ((0, y0), T, V) := by
  exact ev_ri (show zcode 198 11 = some (72, 12, 0, 0, []) by decide +kernel)
/-! 199: TwoWayWallModel.costOf(I)I -/
theorem e199 {T : zT} {V : zM} {x1 : Int} : zcall 199 [(2, 130), (0, x1)] T V = ev 199 0 [(2, 130), (0, x1), (9, 0), (9, 0)] [] T V := rfl
theorem b199_0 {T : zT} {V : zM} {x1 : Int} : ev 199 0 [(2, 130), (0, x1), (9, 0), (9, 0)] [] T V = ev 199 4 [(2, 130), (0, x1), (0, 0), (0, 0)] [] T V := by
  refine Eq.trans (ev_ci (show zcode 199 0 = some (0, 1, 0, 0, []) by decide +kernel) (by decide)) ?_
  refine Eq.trans (ev_sti (show zcode 199 1 = some (7, 2, 2, 0, []) by decide +kernel) ⟨show 2 < 4 by decide, Or.inr (show ¬ (0 : Nat) = 1 by decide)⟩) ?_
  refine Eq.trans (ev_ci (show zcode 199 2 = some (0, 3, 0, 0, []) by decide +kernel) (by decide)) ?_
  exact ev_sti (show zcode 199 3 = some (7, 4, 3, 0, []) by decide +kernel) ⟨show 3 < 4 by decide, Or.inr (show ¬ (0 : Nat) = 1 by decide)⟩
theorem b199_4 {T : zT} {V : zM} {x1 : Int} {x2 : Int} {x3 : Int} : ev 199 4 [(2, 130), (0, x1), (0, x2), (0, x3)] [] T V = if 7 ≤ x3 then ev 199 42 [(2, 130), (0, x1), (0, x2), (0, x3)] [] T V else ev 199 10 [(2, 130), (0, x1), (0, x2), (0, x3)] [] T V := by
  refine Eq.trans (ev_ldi (show zcode 199 4 = some (4, 5, 3, 0, []) by decide +kernel) rfl) ?_
  refine Eq.trans (ev_ci (show zcode 199 5 = some (0, 7, 0, 7, []) by decide +kernel) (by decide)) ?_
  exact ev_cge (show zcode 199 7 = some (49, 10, 42, 0, []) by decide +kernel)
theorem b199_10 {T : zT} {V : zM} {x1 : Int} {x2 : Int} {x3 : Int} (h1 : (0 : Int) ≤ x3 ∧ x3 < 32) : ev 199 10 [(2, 130), (0, x1), (0, x2), (0, x3)] [] T V = if (zand (x1 / 2 ^ (x3).toNat) 1) = 1 then ev 199 20 [(2, 130), (0, x1), (0, x2), (0, x3)] [(0, x2)] T V else ev 199 33 [(2, 130), (0, x1), (0, x2), (0, x3)] [(0, x2)] T V := by
  refine Eq.trans (ev_ldi (show zcode 199 10 = some (4, 11, 2, 0, []) by decide +kernel) rfl) ?_
  refine Eq.trans (ev_ldi (show zcode 199 11 = some (4, 12, 1, 0, []) by decide +kernel) rfl) ?_
  refine Eq.trans (ev_ldi (show zcode 199 12 = some (4, 13, 3, 0, []) by decide +kernel) rfl) ?_
  refine Eq.trans (ev_shr (show zcode 199 13 = some (21, 14, 0, 0, []) by decide +kernel) h1) ?_
  refine Eq.trans (ev_ci (show zcode 199 14 = some (0, 15, 0, 1, []) by decide +kernel) (by decide)) ?_
  refine Eq.trans (ev_and (show zcode 199 15 = some (14, 16, 0, 0, []) by decide +kernel)) ?_
  refine Eq.trans (ev_ci (show zcode 199 16 = some (0, 17, 0, 1, []) by decide +kernel) (by decide)) ?_
  exact ev_cne (show zcode 199 17 = some (47, 20, 33, 0, []) by decide +kernel)
theorem b199_20 {T : zT} {V : zM} {x1 : Int} {x2 : Int} {x3 : Int} {y0 : Int} (hS : zStr T) (h1 : -2147483648 ≤ (293 + x3) ∧ (293 + x3) ≤ 2147483647) (h2 : (0 : Int) ≤ (293 + x3) ∧ (293 + x3) < 428) : ev 199 20 [(2, 130), (0, x1), (0, x2), (0, x3)] [(0, y0)] T V = ev 199 34 [(2, 130), (0, x1), (0, x2), (0, x3)] [(0, (V 132 (293 + x3))), (0, y0)] T V := by
  refine Eq.trans (ev_lda (show zcode 199 20 = some (6, 21, 0, 0, []) by decide +kernel) rfl (by decide)) ?_
  refine Eq.trans (ev_gq (show zcode 199 21 = some (56, 24, 12, 4, []) by decide +kernel) (so130 hS) (sp130_4 hS)) ?_
  refine Eq.trans (ev_ci (show zcode 199 24 = some (0, 27, 0, 293, []) by decide +kernel) (by decide)) ?_
  refine Eq.trans (ev_ldi (show zcode 199 27 = some (4, 28, 3, 0, []) by decide +kernel) rfl) ?_
  refine Eq.trans (ev_add (show zcode 199 28 = some (11, 29, 0, 0, []) by decide +kernel) h1) ?_
  refine Eq.trans (ev_ia (show zcode 199 29 = some (60, 30, 0, 0, []) by decide +kernel) (sa132 hS) h2) ?_
  exact ev_goto (show zcode 199 30 = some (53, 33, 34, 0, []) by decide +kernel)
theorem b199_33 {T : zT} {V : zM} {x1 : Int} {x2 : Int} {x3 : Int} {y0 : Int} : ev 199 33 [(2, 130), (0, x1), (0, x2), (0, x3)] [(0, y0)] T V = ev 199 34 [(2, 130), (0, x1), (0, x2), (0, x3)] [(0, 0), (0, y0)] T V := by
  exact ev_ci (show zcode 199 33 = some (0, 34, 0, 0, []) by decide +kernel) (by decide)
theorem b199_34 {T : zT} {V : zM} {x1 : Int} {x2 : Int} {x3 : Int} {y0 : Int} {y1 : Int} (h1 : -2147483648 ≤ (y0 + y1) ∧ (y0 + y1) ≤ 2147483647) (h2 : -2147483648 ≤ (x3 + 1) ∧ (x3 + 1) ≤ 2147483647) : ev 199 34 [(2, 130), (0, x1), (0, x2), (0, x3)] [(0, y1), (0, y0)] T V = ev 199 4 [(2, 130), (0, x1), (0, (y0 + y1)), (0, (x3 + 1))] [] T V := by
  refine Eq.trans (ev_add (show zcode 199 34 = some (11, 35, 0, 0, []) by decide +kernel) h1) ?_
  refine Eq.trans (ev_sti (show zcode 199 35 = some (7, 36, 2, 0, []) by decide +kernel) ⟨show 2 < 4 by decide, Or.inr (show ¬ (0 : Nat) = 1 by decide)⟩) ?_
  refine Eq.trans (ev_inc (show zcode 199 36 = some (10, 39, 3, 1, []) by decide +kernel) rfl h2 (Or.inr (show ¬ (0 : Nat) = 1 by decide))) ?_
  exact ev_goto (show zcode 199 39 = some (53, 42, 4, 0, []) by decide +kernel)
theorem b199_42 {T : zT} {V : zM} {x1 : Int} {x2 : Int} {x3 : Int} : ev 199 42 [(2, 130), (0, x1), (0, x2), (0, x3)] [] T V = some ((0, x2), T, V) := by
  refine Eq.trans (ev_ldi (show zcode 199 42 = some (4, 43, 2, 0, []) by decide +kernel) rfl) ?_
  exact ev_ri (show zcode 199 43 = some (72, 44, 0, 0, []) by decide +kernel)
/-! 200: TwoWayWallModel.partners(I)I -/
theorem e200 {T : zT} {V : zM} {x1 : Int} : zcall 200 [(2, 130), (0, x1)] T V = ev 200 0 [(2, 130), (0, x1), (9, 0), (9, 0)] [] T V := rfl
theorem b200_0 {T : zT} {V : zM} {x1 : Int} : ev 200 0 [(2, 130), (0, x1), (9, 0), (9, 0)] [] T V = (zcall 196 [(0, x1)] T V).bind fun x => ev 200 4 [(2, 130), (0, x1), (9, 0), (9, 0)] (z_push x.1 []) x.2.1 x.2.2 := by
  refine Eq.trans (ev_ldi (show zcode 200 0 = some (4, 1, 1, 0, []) by decide +kernel) rfl) ?_
  exact ev_cstat (show zcode 200 1 = some (74, 4, 196, 1, []) by decide +kernel) (args := [(0, x1)]) (rest := []) rfl rfl (show 0 ≤ 8 by decide) ⟨by decide, show 1 ≤ 1 by decide⟩
theorem b200_4 {T : zT} {V : zM} {x1 : Int} {y0 : Int} : ev 200 4 [(2, 130), (0, x1), (9, 0), (9, 0)] [(0, y0)] T V = if y0 = 0 then ev 200 7 [(2, 130), (0, x1), (9, 0), (9, 0)] [] T V else ev 200 9 [(2, 130), (0, x1), (9, 0), (9, 0)] [] T V := by
  exact ev_ne (show zcode 200 4 = some (41, 7, 9, 0, []) by decide +kernel)
theorem b200_7 {T : zT} {V : zM} {x1 : Int} : ev 200 7 [(2, 130), (0, x1), (9, 0), (9, 0)] [] T V = some ((0, (-1)), T, V) := by
  refine Eq.trans (ev_ci (show zcode 200 7 = some (0, 8, 0, (-1), []) by decide +kernel) (by decide)) ?_
  exact ev_ri (show zcode 200 8 = some (72, 9, 0, 0, []) by decide +kernel)
theorem b200_9 {T : zT} {V : zM} {x1 : Int} (hS : zStr T)  : ev 200 9 [(2, 130), (0, x1), (9, 0), (9, 0)] [] T V = (zcall 197 [(2, 130)] T V).bind fun x => ev 200 13 [(2, 130), (0, x1), (9, 0), (9, 0)] (z_push x.1 []) x.2.1 x.2.2 := by
  refine Eq.trans (ev_lda (show zcode 200 9 = some (6, 10, 0, 0, []) by decide +kernel) rfl (by decide)) ?_
  exact ev_cvirt (show zcode 200 10 = some (76, 13, 197, 1, [12]) by decide +kernel) (args := []) (rest := []) rfl (so130 hS) rfl (show 0 ≤ 8 by decide) ⟨by decide, show 1 ≤ 2 by decide⟩
theorem b200_13 {T : zT} {V : zM} {x1 : Int} : ev 200 13 [(2, 130), (0, x1), (9, 0), (9, 0)] [] T V = ev 200 17 [(2, 130), (0, x1), (0, 0), (0, 0)] [] T V := by
  refine Eq.trans (ev_ci (show zcode 200 13 = some (0, 14, 0, 0, []) by decide +kernel) (by decide)) ?_
  refine Eq.trans (ev_sti (show zcode 200 14 = some (7, 15, 2, 0, []) by decide +kernel) ⟨show 2 < 4 by decide, Or.inr (show ¬ (0 : Nat) = 1 by decide)⟩) ?_
  refine Eq.trans (ev_ci (show zcode 200 15 = some (0, 16, 0, 0, []) by decide +kernel) (by decide)) ?_
  exact ev_sti (show zcode 200 16 = some (7, 17, 3, 0, []) by decide +kernel) ⟨show 3 < 4 by decide, Or.inr (show ¬ (0 : Nat) = 1 by decide)⟩
theorem b200_17 {T : zT} {V : zM} {x1 : Int} {x2 : Int} {x3 : Int} : ev 200 17 [(2, 130), (0, x1), (0, x2), (0, x3)] [] T V = if 128 ≤ x3 then ev 200 54 [(2, 130), (0, x1), (0, x2), (0, x3)] [] T V else ev 200 24 [(2, 130), (0, x1), (0, x2), (0, x3)] [] T V := by
  refine Eq.trans (ev_ldi (show zcode 200 17 = some (4, 18, 3, 0, []) by decide +kernel) rfl) ?_
  refine Eq.trans (ev_ci (show zcode 200 18 = some (0, 21, 0, 128, []) by decide +kernel) (by decide)) ?_
  exact ev_cge (show zcode 200 21 = some (49, 24, 54, 0, []) by decide +kernel)
theorem b200_24 {T : zT} {V : zM} {x1 : Int} {x2 : Int} {x3 : Int} (hS : zStr T) (h1 : (0 : Int) ≤ x3 ∧ x3 < 128) : ev 200 24 [(2, 130), (0, x1), (0, x2), (0, x3)] [] T V = (zcall 198 [(0, x1)] T V).bind fun x => ev 200 34 [(2, 130), (0, x1), (0, x2), (0, x3)] (z_push x.1 [(0, (V 142 x3))]) x.2.1 x.2.2 := by
  refine Eq.trans (ev_lda (show zcode 200 24 = some (6, 25, 0, 0, []) by decide +kernel) rfl (by decide)) ?_
  refine Eq.trans (ev_gq (show zcode 200 25 = some (56, 28, 12, 22, []) by decide +kernel) (so130 hS) (sp130_22 hS)) ?_
  refine Eq.trans (ev_ldi (show zcode 200 28 = some (4, 29, 3, 0, []) by decide +kernel) rfl) ?_
  refine Eq.trans (ev_ia (show zcode 200 29 = some (60, 30, 0, 0, []) by decide +kernel) (sa142 hS) h1) ?_
  refine Eq.trans (ev_ldi (show zcode 200 30 = some (4, 31, 1, 0, []) by decide +kernel) rfl) ?_
  exact ev_cstat (show zcode 200 31 = some (74, 34, 198, 1, []) by decide +kernel) (args := [(0, x1)]) (rest := [(0, (V 142 x3))]) rfl rfl (show 1 ≤ 8 by decide) ⟨by decide, show 1 ≤ 1 by decide⟩
theorem b200_34 {T : zT} {V : zM} {x1 : Int} {x2 : Int} {x3 : Int} {y0 : Int} {y1 : Int} : ev 200 34 [(2, 130), (0, x1), (0, x2), (0, x3)] [(0, y1), (0, y0)] T V = if y0 = y1 then ev 200 37 [(2, 130), (0, x1), (0, x2), (0, x3)] [] T V else ev 200 48 [(2, 130), (0, x1), (0, x2), (0, x3)] [] T V := by
  exact ev_cne (show zcode 200 34 = some (47, 37, 48, 0, []) by decide +kernel)
theorem b200_37 {T : zT} {V : zM} {x1 : Int} {x2 : Int} {x3 : Int} (hS : zStr T) (h1 : (0 : Int) ≤ x3 ∧ x3 < 128) (h2 : (0 : Int) ≤ (V 143 x3) ∧ (V 143 x3) ≤ 30) : ev 200 37 [(2, 130), (0, x1), (0, x2), (0, x3)] [] T V = ev 200 48 [(2, 130), (0, x1), (0, (zor x2 ((2 : Int) ^ ((V 143 x3)).toNat))), (0, x3)] [] T V := by
  refine Eq.trans (ev_ldi (show zcode 200 37 = some (4, 38, 2, 0, []) by decide +kernel) rfl) ?_
  refine Eq.trans (ev_ci (show zcode 200 38 = some (0, 39, 0, 1, []) by decide +kernel) (by decide)) ?_
  refine Eq.trans (ev_lda (show zcode 200 39 = some (6, 40, 0, 0, []) by decide +kernel) rfl (by decide)) ?_
  refine Eq.trans (ev_gq (show zcode 200 40 = some (56, 43, 12, 23, []) by decide +kernel) (so130 hS) (sp130_23 hS)) ?_
  refine Eq.trans (ev_ldi (show zcode 200 43 = some (4, 44, 3, 0, []) by decide +kernel) rfl) ?_
  refine Eq.trans (ev_ia (show zcode 200 44 = some (60, 45, 0, 0, []) by decide +kernel) (sa143 hS) h1) ?_
  refine Eq.trans (ev_shl1 (show zcode 200 45 = some (20, 46, 0, 0, []) by decide +kernel) h2) ?_
  refine Eq.trans (ev_or (show zcode 200 46 = some (15, 47, 0, 0, []) by decide +kernel)) ?_
  exact ev_sti (show zcode 200 47 = some (7, 48, 2, 0, []) by decide +kernel) ⟨show 2 < 4 by decide, Or.inr (show ¬ (0 : Nat) = 1 by decide)⟩
theorem b200_48 {T : zT} {V : zM} {x1 : Int} {x2 : Int} {x3 : Int} (h1 : -2147483648 ≤ (x3 + 1) ∧ (x3 + 1) ≤ 2147483647) : ev 200 48 [(2, 130), (0, x1), (0, x2), (0, x3)] [] T V = ev 200 17 [(2, 130), (0, x1), (0, x2), (0, (x3 + 1))] [] T V := by
  refine Eq.trans (ev_inc (show zcode 200 48 = some (10, 51, 3, 1, []) by decide +kernel) rfl h1 (Or.inr (show ¬ (0 : Nat) = 1 by decide))) ?_
  exact ev_goto (show zcode 200 51 = some (53, 54, 17, 0, []) by decide +kernel)
theorem b200_54 {T : zT} {V : zM} {x1 : Int} {x2 : Int} {x3 : Int} : ev 200 54 [(2, 130), (0, x1), (0, x2), (0, x3)] [] T V = some ((0, x2), T, V) := by
  refine Eq.trans (ev_ldi (show zcode 200 54 = some (4, 55, 2, 0, []) by decide +kernel) rfl) ?_
  exact ev_ri (show zcode 200 55 = some (72, 56, 0, 0, []) by decide +kernel)
/-! 201: TwoWayWallModel.pairs()I -/
theorem e201 {T : zT} {V : zM}  : zcall 201 [(2, 130)] T V = ev 201 0 [(2, 130), (9, 0), (9, 0), (9, 0)] [] T V := rfl
theorem b201_0 {T : zT} {V : zM}  (hS : zStr T)  : ev 201 0 [(2, 130), (9, 0), (9, 0), (9, 0)] [] T V = (zcall 197 [(2, 130)] T V).bind fun x => ev 201 4 [(2, 130), (9, 0), (9, 0), (9, 0)] (z_push x.1 []) x.2.1 x.2.2 := by
  refine Eq.trans (ev_lda (show zcode 201 0 = some (6, 1, 0, 0, []) by decide +kernel) rfl (by decide)) ?_
  exact ev_cvirt (show zcode 201 1 = some (76, 4, 197, 1, [12]) by decide +kernel) (args := []) (rest := []) rfl (so130 hS) rfl (show 0 ≤ 8 by decide) ⟨by decide, show 1 ≤ 2 by decide⟩
theorem b201_4 {T : zT} {V : zM}  : ev 201 4 [(2, 130), (9, 0), (9, 0), (9, 0)] [] T V = ev 201 6 [(2, 130), (0, 0), (9, 0), (9, 0)] [] T V := by
  refine Eq.trans (ev_ci (show zcode 201 4 = some (0, 5, 0, 0, []) by decide +kernel) (by decide)) ?_
  exact ev_sti (show zcode 201 5 = some (7, 6, 1, 0, []) by decide +kernel) ⟨show 1 < 4 by decide, Or.inr (show ¬ (2 : Nat) = 1 by decide)⟩
theorem b201_6 {T : zT} {V : zM} {x1 : Int} : ev 201 6 [(2, 130), (0, x1), (9, 0), (9, 0)] [] T V = if 729 ≤ x1 then ev 201 26 [(2, 130), (0, x1), (9, 0), (9, 0)] [] T V else ev 201 13 [(2, 130), (0, x1), (9, 0), (9, 0)] [] T V := by
  refine Eq.trans (ev_ldi (show zcode 201 6 = some (4, 7, 1, 0, []) by decide +kernel) rfl) ?_
  refine Eq.trans (ev_ci (show zcode 201 7 = some (0, 10, 0, 729, []) by decide +kernel) (by decide)) ?_
  exact ev_cge (show zcode 201 10 = some (49, 13, 26, 0, []) by decide +kernel)
theorem b201_13 {T : zT} {V : zM} {x1 : Int} (hS : zStr T) (h1 : (0 : Int) ≤ x1 ∧ x1 < 729) (h2 : -2147483648 ≤ (x1 + 1) ∧ (x1 + 1) ≤ 2147483647) : ev 201 13 [(2, 130), (0, x1), (9, 0), (9, 0)] [] T V = ev 201 6 [(2, 130), (0, (x1 + 1)), (9, 0), (9, 0)] [] T (zwr V 144 x1 0) := by
  refine Eq.trans (ev_lda (show zcode 201 13 = some (6, 14, 0, 0, []) by decide +kernel) rfl (by decide)) ?_
  refine Eq.trans (ev_gq (show zcode 201 14 = some (56, 17, 12, 24, []) by decide +kernel) (so130 hS) (sp130_24 hS)) ?_
  refine Eq.trans (ev_ldi (show zcode 201 17 = some (4, 18, 1, 0, []) by decide +kernel) rfl) ?_
  refine Eq.trans (ev_ci (show zcode 201 18 = some (0, 19, 0, 0, []) by decide +kernel) (by decide)) ?_
  refine Eq.trans (ev_zs (show zcode 201 19 = some (66, 20, 0, 0, []) by decide +kernel) (sa144 hS) h1 (by decide)) ?_
  refine Eq.trans (ev_inc (show zcode 201 20 = some (10, 23, 1, 1, []) by decide +kernel) rfl h2 (Or.inr (show ¬ (2 : Nat) = 1 by decide))) ?_
  exact ev_goto (show zcode 201 23 = some (53, 26, 6, 0, []) by decide +kernel)
theorem b201_26 {T : zT} {V : zM} {x1 : Int} : ev 201 26 [(2, 130), (0, x1), (9, 0), (9, 0)] [] T V = ev 201 28 [(2, 130), (0, 0), (9, 0), (9, 0)] [] T V := by
  refine Eq.trans (ev_ci (show zcode 201 26 = some (0, 27, 0, 0, []) by decide +kernel) (by decide)) ?_
  exact ev_sti (show zcode 201 27 = some (7, 28, 1, 0, []) by decide +kernel) ⟨show 1 < 4 by decide, Or.inr (show ¬ (2 : Nat) = 1 by decide)⟩
theorem b201_28 {T : zT} {V : zM} {x1 : Int} : ev 201 28 [(2, 130), (0, x1), (9, 0), (9, 0)] [] T V = if 128 ≤ x1 then ev 201 63 [(2, 130), (0, x1), (9, 0), (9, 0)] [] T V else ev 201 35 [(2, 130), (0, x1), (9, 0), (9, 0)] [] T V := by
  refine Eq.trans (ev_ldi (show zcode 201 28 = some (4, 29, 1, 0, []) by decide +kernel) rfl) ?_
  refine Eq.trans (ev_ci (show zcode 201 29 = some (0, 32, 0, 128, []) by decide +kernel) (by decide)) ?_
  exact ev_cge (show zcode 201 32 = some (49, 35, 63, 0, []) by decide +kernel)
theorem b201_35 {T : zT} {V : zM} {x1 : Int} (hS : zStr T) (h1 : (0 : Int) ≤ x1 ∧ x1 < 128) (h2 : -2147483648 ≤ (27 * (V 142 x1)) ∧ (27 * (V 142 x1)) ≤ 2147483647) (h3 : -2147483648 ≤ ((27 * (V 142 x1)) + (V 143 x1)) ∧ ((27 * (V 142 x1)) + (V 143 x1)) ≤ 2147483647) (h4 : (0 : Int) ≤ ((27 * (V 142 x1)) + (V 143 x1)) ∧ ((27 * (V 142 x1)) + (V 143 x1)) < 729) (h5 : -2147483648 ≤ (x1 + 1) ∧ (x1 + 1) ≤ 2147483647) : ev 201 35 [(2, 130), (0, x1), (9, 0), (9, 0)] [] T V = ev 201 28 [(2, 130), (0, (x1 + 1)), (9, 0), (9, 0)] [] T (zwr V 144 ((27 * (V 142 x1)) + (V 143 x1)) 1) := by
  refine Eq.trans (ev_lda (show zcode 201 35 = some (6, 36, 0, 0, []) by decide +kernel) rfl (by decide)) ?_
  refine Eq.trans (ev_gq (show zcode 201 36 = some (56, 39, 12, 24, []) by decide +kernel) (so130 hS) (sp130_24 hS)) ?_
  refine Eq.trans (ev_ci (show zcode 201 39 = some (0, 41, 0, 27, []) by decide +kernel) (by decide)) ?_
  refine Eq.trans (ev_lda (show zcode 201 41 = some (6, 42, 0, 0, []) by decide +kernel) rfl (by decide)) ?_
  refine Eq.trans (ev_gq (show zcode 201 42 = some (56, 45, 12, 22, []) by decide +kernel) (so130 hS) (sp130_22 hS)) ?_
  refine Eq.trans (ev_ldi (show zcode 201 45 = some (4, 46, 1, 0, []) by decide +kernel) rfl) ?_
  refine Eq.trans (ev_ia (show zcode 201 46 = some (60, 47, 0, 0, []) by decide +kernel) (sa142 hS) h1) ?_
  refine Eq.trans (ev_mul (show zcode 201 47 = some (13, 48, 0, 0, []) by decide +kernel) h2) ?_
  refine Eq.trans (ev_lda (show zcode 201 48 = some (6, 49, 0, 0, []) by decide +kernel) rfl (by decide)) ?_
  refine Eq.trans (ev_gq (show zcode 201 49 = some (56, 52, 12, 23, []) by decide +kernel) (so130 hS) (sp130_23 hS)) ?_
  refine Eq.trans (ev_ldi (show zcode 201 52 = some (4, 53, 1, 0, []) by decide +kernel) rfl) ?_
  refine Eq.trans (ev_ia (show zcode 201 53 = some (60, 54, 0, 0, []) by decide +kernel) (sa143 hS) h1) ?_
  refine Eq.trans (ev_add (show zcode 201 54 = some (11, 55, 0, 0, []) by decide +kernel) h3) ?_
  refine Eq.trans (ev_ci (show zcode 201 55 = some (0, 56, 0, 1, []) by decide +kernel) (by decide)) ?_
  refine Eq.trans (ev_zs (show zcode 201 56 = some (66, 57, 0, 0, []) by decide +kernel) (sa144 hS) h4 (by decide)) ?_
  refine Eq.trans (ev_inc (show zcode 201 57 = some (10, 60, 1, 1, []) by decide +kernel) rfl h5 (Or.inr (show ¬ (2 : Nat) = 1 by decide))) ?_
  exact ev_goto (show zcode 201 60 = some (53, 63, 28, 0, []) by decide +kernel)
theorem b201_63 {T : zT} {V : zM} {x1 : Int} : ev 201 63 [(2, 130), (0, x1), (9, 0), (9, 0)] [] T V = ev 201 67 [(2, 130), (0, 0), (0, 0), (9, 0)] [] T V := by
  refine Eq.trans (ev_ci (show zcode 201 63 = some (0, 64, 0, 0, []) by decide +kernel) (by decide)) ?_
  refine Eq.trans (ev_sti (show zcode 201 64 = some (7, 65, 1, 0, []) by decide +kernel) ⟨show 1 < 4 by decide, Or.inr (show ¬ (2 : Nat) = 1 by decide)⟩) ?_
  refine Eq.trans (ev_ci (show zcode 201 65 = some (0, 66, 0, 0, []) by decide +kernel) (by decide)) ?_
  exact ev_sti (show zcode 201 66 = some (7, 67, 2, 0, []) by decide +kernel) ⟨show 2 < 4 by decide, Or.inr (show ¬ (0 : Nat) = 1 by decide)⟩
theorem b201_67 {T : zT} {V : zM} {x1 : Int} {x2 : Int} {v3 : zV} : ev 201 67 [(2, 130), (0, x1), (0, x2), v3] [] T V = if 26 ≤ x2 then ev 201 115 [(2, 130), (0, x1), (0, x2), v3] [] T V else ev 201 73 [(2, 130), (0, x1), (0, x2), v3] [] T V := by
  refine Eq.trans (ev_ldi (show zcode 201 67 = some (4, 68, 2, 0, []) by decide +kernel) rfl) ?_
  refine Eq.trans (ev_ci (show zcode 201 68 = some (0, 70, 0, 26, []) by decide +kernel) (by decide)) ?_
  exact ev_cge (show zcode 201 70 = some (49, 73, 115, 0, []) by decide +kernel)
theorem b201_73 {T : zT} {V : zM} {x1 : Int} {x2 : Int} {v3 : zV} : ev 201 73 [(2, 130), (0, x1), (0, x2), v3] [] T V = ev 201 75 [(2, 130), (0, x1), (0, x2), (0, 0)] [] T V := by
  refine Eq.trans (ev_ci (show zcode 201 73 = some (0, 74, 0, 0, []) by decide +kernel) (by decide)) ?_
  exact ev_sti (show zcode 201 74 = some (7, 75, 3, 0, []) by decide +kernel) ⟨show 3 < 4 by decide, Or.inr (show ¬ (0 : Nat) = 1 by decide)⟩
theorem b201_75 {T : zT} {V : zM} {x1 : Int} {x2 : Int} {x3 : Int} : ev 201 75 [(2, 130), (0, x1), (0, x2), (0, x3)] [] T V = if 26 ≤ x3 then ev 201 109 [(2, 130), (0, x1), (0, x2), (0, x3)] [] T V else ev 201 81 [(2, 130), (0, x1), (0, x2), (0, x3)] [] T V := by
  refine Eq.trans (ev_ldi (show zcode 201 75 = some (4, 76, 3, 0, []) by decide +kernel) rfl) ?_
  refine Eq.trans (ev_ci (show zcode 201 76 = some (0, 78, 0, 26, []) by decide +kernel) (by decide)) ?_
  exact ev_cge (show zcode 201 78 = some (49, 81, 109, 0, []) by decide +kernel)
theorem b201_81 {T : zT} {V : zM} {x1 : Int} {x2 : Int} {x3 : Int} (hS : zStr T) (h1 : -2147483648 ≤ (27 * x2) ∧ (27 * x2) ≤ 2147483647) (h2 : -2147483648 ≤ ((27 * x2) + x3) ∧ ((27 * x2) + x3) ≤ 2147483647) (h3 : (0 : Int) ≤ ((27 * x2) + x3) ∧ ((27 * x2) + x3) < 729) : ev 201 81 [(2, 130), (0, x1), (0, x2), (0, x3)] [] T V = if (V 144 ((27 * x2) + x3)) = 0 then ev 201 100 [(2, 130), (0, x1), (0, x2), (0, x3)] [(0, x1)] T V else ev 201 96 [(2, 130), (0, x1), (0, x2), (0, x3)] [(0, x1)] T V := by
  refine Eq.trans (ev_ldi (show zcode 201 81 = some (4, 82, 1, 0, []) by decide +kernel) rfl) ?_
  refine Eq.trans (ev_lda (show zcode 201 82 = some (6, 83, 0, 0, []) by decide +kernel) rfl (by decide)) ?_
  refine Eq.trans (ev_gq (show zcode 201 83 = some (56, 86, 12, 24, []) by decide +kernel) (so130 hS) (sp130_24 hS)) ?_
  refine Eq.trans (ev_ci (show zcode 201 86 = some (0, 88, 0, 27, []) by decide +kernel) (by decide)) ?_
  refine Eq.trans (ev_ldi (show zcode 201 88 = some (4, 89, 2, 0, []) by decide +kernel) rfl) ?_
  refine Eq.trans (ev_mul (show zcode 201 89 = some (13, 90, 0, 0, []) by decide +kernel) h1) ?_
  refine Eq.trans (ev_ldi (show zcode 201 90 = some (4, 91, 3, 0, []) by decide +kernel) rfl) ?_
  refine Eq.trans (ev_add (show zcode 201 91 = some (11, 92, 0, 0, []) by decide +kernel) h2) ?_
  refine Eq.trans (ev_za (show zcode 201 92 = some (62, 93, 0, 0, []) by decide +kernel) (sa144 hS) h3) ?_
  exact ev_eq (show zcode 201 93 = some (40, 96, 100, 0, []) by decide +kernel)
theorem b201_96 {T : zT} {V : zM} {x1 : Int} {x2 : Int} {x3 : Int} {y0 : Int} : ev 201 96 [(2, 130), (0, x1), (0, x2), (0, x3)] [(0, y0)] T V = ev 201 101 [(2, 130), (0, x1), (0, x2), (0, x3)] [(0, 1), (0, y0)] T V := by
  refine Eq.trans (ev_ci (show zcode 201 96 = some (0, 97, 0, 1, []) by decide +kernel) (by decide)) ?_
  exact ev_goto (show zcode 201 97 = some (53, 100, 101, 0, []) by decide +kernel)
theorem b201_100 {T : zT} {V : zM} {x1 : Int} {x2 : Int} {x3 : Int} {y0 : Int} : ev 201 100 [(2, 130), (0, x1), (0, x2), (0, x3)] [(0, y0)] T V = ev 201 101 [(2, 130), (0, x1), (0, x2), (0, x3)] [(0, 0), (0, y0)] T V := by
  exact ev_ci (show zcode 201 100 = some (0, 101, 0, 0, []) by decide +kernel) (by decide)
theorem b201_101 {T : zT} {V : zM} {x1 : Int} {x2 : Int} {x3 : Int} {y0 : Int} {y1 : Int} (h1 : -2147483648 ≤ (y0 + y1) ∧ (y0 + y1) ≤ 2147483647) (h2 : -2147483648 ≤ (x3 + 1) ∧ (x3 + 1) ≤ 2147483647) : ev 201 101 [(2, 130), (0, x1), (0, x2), (0, x3)] [(0, y1), (0, y0)] T V = ev 201 75 [(2, 130), (0, (y0 + y1)), (0, x2), (0, (x3 + 1))] [] T V := by
  refine Eq.trans (ev_add (show zcode 201 101 = some (11, 102, 0, 0, []) by decide +kernel) h1) ?_
  refine Eq.trans (ev_sti (show zcode 201 102 = some (7, 103, 1, 0, []) by decide +kernel) ⟨show 1 < 4 by decide, Or.inr (show ¬ (2 : Nat) = 1 by decide)⟩) ?_
  refine Eq.trans (ev_inc (show zcode 201 103 = some (10, 106, 3, 1, []) by decide +kernel) rfl h2 (Or.inr (show ¬ (0 : Nat) = 1 by decide))) ?_
  exact ev_goto (show zcode 201 106 = some (53, 109, 75, 0, []) by decide +kernel)
theorem b201_109 {T : zT} {V : zM} {x1 : Int} {x2 : Int} {x3 : Int} (h1 : -2147483648 ≤ (x2 + 1) ∧ (x2 + 1) ≤ 2147483647) : ev 201 109 [(2, 130), (0, x1), (0, x2), (0, x3)] [] T V = ev 201 67 [(2, 130), (0, x1), (0, (x2 + 1)), (0, x3)] [] T V := by
  refine Eq.trans (ev_inc (show zcode 201 109 = some (10, 112, 2, 1, []) by decide +kernel) rfl h1 (Or.inr (show ¬ (0 : Nat) = 1 by decide))) ?_
  exact ev_goto (show zcode 201 112 = some (53, 115, 67, 0, []) by decide +kernel)
theorem b201_115 {T : zT} {V : zM} {x1 : Int} {x2 : Int} {v3 : zV} : ev 201 115 [(2, 130), (0, x1), (0, x2), v3] [] T V = some ((0, x1), T, V) := by
  refine Eq.trans (ev_ldi (show zcode 201 115 = some (4, 116, 1, 0, []) by decide +kernel) rfl) ?_
  exact ev_ri (show zcode 201 116 = some (72, 117, 0, 0, []) by decide +kernel)
/-! 202: TwoWayWallModel.say(II)I -/
theorem e202 {T : zT} {V : zM} {x1 : Int} {x2 : Int} : zcall 202 [(2, 130), (0, x1), (0, x2)] T V = ev 202 0 [(2, 130), (0, x1), (0, x2), (9, 0)] [] T V := rfl
theorem b202_0 {T : zT} {V : zM} {x1 : Int} {x2 : Int} : ev 202 0 [(2, 130), (0, x1), (0, x2), (9, 0)] [] T V = (zcall 183 [(0, x1)] T V).bind fun x => ev 202 4 [(2, 130), (0, x1), (0, x2), (9, 0)] (z_push x.1 []) x.2.1 x.2.2 := by
  refine Eq.trans (ev_ldi (show zcode 202 0 = some (4, 1, 1, 0, []) by decide +kernel) rfl) ?_
  exact ev_cstat (show zcode 202 1 = some (74, 4, 183, 1, []) by decide +kernel) (args := [(0, x1)]) (rest := []) rfl rfl (show 0 ≤ 8 by decide) ⟨by decide, show 1 ≤ 1 by decide⟩
theorem b202_4 {T : zT} {V : zM} {x1 : Int} {x2 : Int} {y0 : Int} : ev 202 4 [(2, 130), (0, x1), (0, x2), (9, 0)] [(0, y0)] T V = if y0 = 0 then ev 202 14 [(2, 130), (0, x1), (0, x2), (9, 0)] [] T V else ev 202 7 [(2, 130), (0, x1), (0, x2), (9, 0)] [] T V := by
  exact ev_eq (show zcode 202 4 = some (40, 7, 14, 0, []) by decide +kernel)
theorem b202_7 {T : zT} {V : zM} {x1 : Int} {x2 : Int} : ev 202 7 [(2, 130), (0, x1), (0, x2), (9, 0)] [] T V = (zcall 196 [(0, x2)] T V).bind fun x => ev 202 11 [(2, 130), (0, x1), (0, x2), (9, 0)] (z_push x.1 []) x.2.1 x.2.2 := by
  refine Eq.trans (ev_ldi (show zcode 202 7 = some (4, 8, 2, 0, []) by decide +kernel) rfl) ?_
  exact ev_cstat (show zcode 202 8 = some (74, 11, 196, 1, []) by decide +kernel) (args := [(0, x2)]) (rest := []) rfl rfl (show 0 ≤ 8 by decide) ⟨by decide, show 1 ≤ 1 by decide⟩
theorem b202_11 {T : zT} {V : zM} {x1 : Int} {x2 : Int} {y0 : Int} : ev 202 11 [(2, 130), (0, x1), (0, x2), (9, 0)] [(0, y0)] T V = if y0 = 0 then ev 202 14 [(2, 130), (0, x1), (0, x2), (9, 0)] [] T V else ev 202 20 [(2, 130), (0, x1), (0, x2), (9, 0)] [] T V := by
  exact ev_ne (show zcode 202 11 = some (41, 14, 20, 0, []) by decide +kernel)
theorem b202_14 {T : zT} {V : zM} {x1 : Int} {x2 : Int} (hS : zStr T)  : ev 202 14 [(2, 130), (0, x1), (0, x2), (9, 0)] [] T V = (zcall 151 [(2, 130), (0, (-1))] T V).bind fun x => ev 202 19 [(2, 130), (0, x1), (0, x2), (9, 0)] (z_push x.1 []) x.2.1 x.2.2 := by
  refine Eq.trans (ev_lda (show zcode 202 14 = some (6, 15, 0, 0, []) by decide +kernel) rfl (by decide)) ?_
  refine Eq.trans (ev_ci (show zcode 202 15 = some (0, 16, 0, (-1), []) by decide +kernel) (by decide)) ?_
  exact ev_cvirt (show zcode 202 16 = some (76, 19, 151, 2, [12]) by decide +kernel) (args := [(0, (-1))]) (rest := []) rfl (so130 hS) rfl (show 0 ≤ 8 by decide) ⟨by decide, show 2 ≤ 2 by decide⟩
theorem b202_19 {T : zT} {V : zM} {x1 : Int} {x2 : Int} {y0 : Int} : ev 202 19 [(2, 130), (0, x1), (0, x2), (9, 0)] [(0, y0)] T V = some ((0, y0), T, V) := by
  exact ev_ri (show zcode 202 19 = some (72, 20, 0, 0, []) by decide +kernel)
theorem b202_20 {T : zT} {V : zM} {x1 : Int} {x2 : Int} (hS : zStr T) (h1 : -2147483648 ≤ (364 + x1) ∧ (364 + x1) ≤ 2147483647) (h2 : (0 : Int) ≤ (364 + x1) ∧ (364 + x1) < 428) : ev 202 20 [(2, 130), (0, x1), (0, x2), (9, 0)] [] T V = if (V 132 (364 + x1)) = 16 then ev 202 37 [(2, 130), (0, x1), (0, x2), (0, (V 132 (364 + x1)))] [] T V else ev 202 44 [(2, 130), (0, x1), (0, x2), (0, (V 132 (364 + x1)))] [] T V := by
  refine Eq.trans (ev_lda (show zcode 202 20 = some (6, 21, 0, 0, []) by decide +kernel) rfl (by decide)) ?_
  refine Eq.trans (ev_gq (show zcode 202 21 = some (56, 24, 12, 4, []) by decide +kernel) (so130 hS) (sp130_4 hS)) ?_
  refine Eq.trans (ev_ci (show zcode 202 24 = some (0, 27, 0, 364, []) by decide +kernel) (by decide)) ?_
  refine Eq.trans (ev_ldi (show zcode 202 27 = some (4, 28, 1, 0, []) by decide +kernel) rfl) ?_
  refine Eq.trans (ev_add (show zcode 202 28 = some (11, 29, 0, 0, []) by decide +kernel) h1) ?_
  refine Eq.trans (ev_ia (show zcode 202 29 = some (60, 30, 0, 0, []) by decide +kernel) (sa132 hS) h2) ?_
  refine Eq.trans (ev_sti (show zcode 202 30 = some (7, 31, 3, 0, []) by decide +kernel) ⟨show 3 < 4 by decide, Or.inr (show ¬ (0 : Nat) = 1 by decide)⟩) ?_
  refine Eq.trans (ev_ldi (show zcode 202 31 = some (4, 32, 3, 0, []) by decide +kernel) rfl) ?_
  refine Eq.trans (ev_ci (show zcode 202 32 = some (0, 34, 0, 16, []) by decide +kernel) (by decide)) ?_
  exact ev_cne (show zcode 202 34 = some (47, 37, 44, 0, []) by decide +kernel)
theorem b202_37 {T : zT} {V : zM} {x1 : Int} {x2 : Int} {x3 : Int} (hS : zStr T)  : ev 202 37 [(2, 130), (0, x1), (0, x2), (0, x3)] [] T V = (zcall 151 [(2, 130), (0, (-5))] T V).bind fun x => ev 202 43 [(2, 130), (0, x1), (0, x2), (0, x3)] (z_push x.1 []) x.2.1 x.2.2 := by
  refine Eq.trans (ev_lda (show zcode 202 37 = some (6, 38, 0, 0, []) by decide +kernel) rfl (by decide)) ?_
  refine Eq.trans (ev_ci (show zcode 202 38 = some (0, 40, 0, (-5), []) by decide +kernel) (by decide)) ?_
  exact ev_cvirt (show zcode 202 40 = some (76, 43, 151, 2, [12]) by decide +kernel) (args := [(0, (-5))]) (rest := []) rfl (so130 hS) rfl (show 0 ≤ 8 by decide) ⟨by decide, show 2 ≤ 2 by decide⟩
theorem b202_43 {T : zT} {V : zM} {x1 : Int} {x2 : Int} {x3 : Int} {y0 : Int} : ev 202 43 [(2, 130), (0, x1), (0, x2), (0, x3)] [(0, y0)] T V = some ((0, y0), T, V) := by
  exact ev_ri (show zcode 202 43 = some (72, 44, 0, 0, []) by decide +kernel)
theorem b202_44 {T : zT} {V : zM} {x1 : Int} {x2 : Int} {x3 : Int} (hS : zStr T) (h1 : -2147483648 ≤ (16 * x1) ∧ (16 * x1) ≤ 2147483647) (h2 : -2147483648 ≤ (332 + (16 * x1)) ∧ (332 + (16 * x1)) ≤ 2147483647) (h3 : -2147483648 ≤ ((332 + (16 * x1)) + x3) ∧ ((332 + (16 * x1)) + x3) ≤ 2147483647) : ev 202 44 [(2, 130), (0, x1), (0, x2), (0, x3)] [] T V = (zcall 198 [(0, x2)] T V).bind fun x => ev 202 62 [(2, 130), (0, x1), (0, x2), (0, x3)] (z_push x.1 [(0, ((332 + (16 * x1)) + x3)), (2, 132)]) x.2.1 x.2.2 := by
  refine Eq.trans (ev_lda (show zcode 202 44 = some (6, 45, 0, 0, []) by decide +kernel) rfl (by decide)) ?_
  refine Eq.trans (ev_gq (show zcode 202 45 = some (56, 48, 12, 4, []) by decide +kernel) (so130 hS) (sp130_4 hS)) ?_
  refine Eq.trans (ev_ci (show zcode 202 48 = some (0, 51, 0, 332, []) by decide +kernel) (by decide)) ?_
  refine Eq.trans (ev_ci (show zcode 202 51 = some (0, 53, 0, 16, []) by decide +kernel) (by decide)) ?_
  refine Eq.trans (ev_ldi (show zcode 202 53 = some (4, 54, 1, 0, []) by decide +kernel) rfl) ?_
  refine Eq.trans (ev_mul (show zcode 202 54 = some (13, 55, 0, 0, []) by decide +kernel) h1) ?_
  refine Eq.trans (ev_add (show zcode 202 55 = some (11, 56, 0, 0, []) by decide +kernel) h2) ?_
  refine Eq.trans (ev_ldi (show zcode 202 56 = some (4, 57, 3, 0, []) by decide +kernel) rfl) ?_
  refine Eq.trans (ev_add (show zcode 202 57 = some (11, 58, 0, 0, []) by decide +kernel) h3) ?_
  refine Eq.trans (ev_ldi (show zcode 202 58 = some (4, 59, 2, 0, []) by decide +kernel) rfl) ?_
  exact ev_cstat (show zcode 202 59 = some (74, 62, 198, 1, []) by decide +kernel) (args := [(0, x2)]) (rest := [(0, ((332 + (16 * x1)) + x3)), (2, 132)]) rfl rfl (show 2 ≤ 8 by decide) ⟨by decide, show 1 ≤ 1 by decide⟩
theorem b202_62 {T : zT} {V : zM} {x1 : Int} {x2 : Int} {x3 : Int} {y1 : Int} {y2 : Int} (hS : zStr T) (h1 : (0 : Int) ≤ y1 ∧ y1 < 428) (h2 : -2147483648 ≤ (364 + x1) ∧ (364 + x1) ≤ 2147483647) (h3 : (0 : Int) ≤ (364 + x1) ∧ (364 + x1) < 428) (h4 : -2147483648 ≤ (((zwr V 132 y1 y2) 132 (364 + x1)) + 1) ∧ (((zwr V 132 y1 y2) 132 (364 + x1)) + 1) ≤ 2147483647) (h5 : -2147483648 ≤ (x3 + 1) ∧ (x3 + 1) ≤ 2147483647) : ev 202 62 [(2, 130), (0, x1), (0, x2), (0, x3)] [(0, y2), (0, y1), (2, 132)] T V = (zcall 152 [(2, 130), (0, (x3 + 1))] T (zwr (zwr V 132 y1 y2) 132 (364 + x1) (((zwr V 132 y1 y2) 132 (364 + x1)) + 1))).bind fun x => ev 202 84 [(2, 130), (0, x1), (0, x2), (0, x3)] (z_push x.1 []) x.2.1 x.2.2 := by
  refine Eq.trans (ev_is (show zcode 202 62 = some (64, 63, 0, 0, []) by decide +kernel) (sa132 hS) h1) ?_
  refine Eq.trans (ev_lda (show zcode 202 63 = some (6, 64, 0, 0, []) by decide +kernel) rfl (by decide)) ?_
  refine Eq.trans (ev_gq (show zcode 202 64 = some (56, 67, 12, 4, []) by decide +kernel) (so130 hS) (sp130_4 hS)) ?_
  refine Eq.trans (ev_ci (show zcode 202 67 = some (0, 70, 0, 364, []) by decide +kernel) (by decide)) ?_
  refine Eq.trans (ev_ldi (show zcode 202 70 = some (4, 71, 1, 0, []) by decide +kernel) rfl) ?_
  refine Eq.trans (ev_add (show zcode 202 71 = some (11, 72, 0, 0, []) by decide +kernel) h2) ?_
  refine Eq.trans (ev_dup2 (show zcode 202 72 = some (38, 73, 0, 0, []) by decide +kernel) (by decide)) ?_
  refine Eq.trans (ev_ia (show zcode 202 73 = some (60, 74, 0, 0, []) by decide +kernel) (sa132 hS) h3) ?_
  refine Eq.trans (ev_ci (show zcode 202 74 = some (0, 75, 0, 1, []) by decide +kernel) (by decide)) ?_
  refine Eq.trans (ev_add (show zcode 202 75 = some (11, 76, 0, 0, []) by decide +kernel) h4) ?_
  refine Eq.trans (ev_is (show zcode 202 76 = some (64, 77, 0, 0, []) by decide +kernel) (sa132 hS) h3) ?_
  refine Eq.trans (ev_lda (show zcode 202 77 = some (6, 78, 0, 0, []) by decide +kernel) rfl (by decide)) ?_
  refine Eq.trans (ev_ldi (show zcode 202 78 = some (4, 79, 3, 0, []) by decide +kernel) rfl) ?_
  refine Eq.trans (ev_ci (show zcode 202 79 = some (0, 80, 0, 1, []) by decide +kernel) (by decide)) ?_
  refine Eq.trans (ev_add (show zcode 202 80 = some (11, 81, 0, 0, []) by decide +kernel) h5) ?_
  exact ev_cvirt (show zcode 202 81 = some (76, 84, 152, 2, [12]) by decide +kernel) (args := [(0, (x3 + 1))]) (rest := []) rfl (so130 hS) rfl (show 0 ≤ 8 by decide) ⟨by decide, show 2 ≤ 2 by decide⟩
theorem b202_84 {T : zT} {V : zM} {x1 : Int} {x2 : Int} {x3 : Int} {y0 : Int} : ev 202 84 [(2, 130), (0, x1), (0, x2), (0, x3)] [(0, y0)] T V = some ((0, y0), T, V) := by
  exact ev_ri (show zcode 202 84 = some (72, 85, 0, 0, []) by decide +kernel)
/-! 203: TwoWayWallModel.hush(I)I -/
theorem e203 {T : zT} {V : zM} {x1 : Int} : zcall 203 [(2, 130), (0, x1)] T V = ev 203 0 [(2, 130), (0, x1), (9, 0)] [] T V := rfl
theorem b203_0 {T : zT} {V : zM} {x1 : Int} : ev 203 0 [(2, 130), (0, x1), (9, 0)] [] T V = (zcall 183 [(0, x1)] T V).bind fun x => ev 203 4 [(2, 130), (0, x1), (9, 0)] (z_push x.1 []) x.2.1 x.2.2 := by
  refine Eq.trans (ev_ldi (show zcode 203 0 = some (4, 1, 1, 0, []) by decide +kernel) rfl) ?_
  exact ev_cstat (show zcode 203 1 = some (74, 4, 183, 1, []) by decide +kernel) (args := [(0, x1)]) (rest := []) rfl rfl (show 0 ≤ 8 by decide) ⟨by decide, show 1 ≤ 1 by decide⟩
theorem b203_4 {T : zT} {V : zM} {x1 : Int} {y0 : Int} : ev 203 4 [(2, 130), (0, x1), (9, 0)] [(0, y0)] T V = if y0 = 0 then ev 203 7 [(2, 130), (0, x1), (9, 0)] [] T V else ev 203 13 [(2, 130), (0, x1), (9, 0)] [] T V := by
  exact ev_ne (show zcode 203 4 = some (41, 7, 13, 0, []) by decide +kernel)
theorem b203_7 {T : zT} {V : zM} {x1 : Int} (hS : zStr T)  : ev 203 7 [(2, 130), (0, x1), (9, 0)] [] T V = (zcall 151 [(2, 130), (0, (-1))] T V).bind fun x => ev 203 12 [(2, 130), (0, x1), (9, 0)] (z_push x.1 []) x.2.1 x.2.2 := by
  refine Eq.trans (ev_lda (show zcode 203 7 = some (6, 8, 0, 0, []) by decide +kernel) rfl (by decide)) ?_
  refine Eq.trans (ev_ci (show zcode 203 8 = some (0, 9, 0, (-1), []) by decide +kernel) (by decide)) ?_
  exact ev_cvirt (show zcode 203 9 = some (76, 12, 151, 2, [12]) by decide +kernel) (args := [(0, (-1))]) (rest := []) rfl (so130 hS) rfl (show 0 ≤ 8 by decide) ⟨by decide, show 2 ≤ 2 by decide⟩
theorem b203_12 {T : zT} {V : zM} {x1 : Int} {y0 : Int} : ev 203 12 [(2, 130), (0, x1), (9, 0)] [(0, y0)] T V = some ((0, y0), T, V) := by
  exact ev_ri (show zcode 203 12 = some (72, 13, 0, 0, []) by decide +kernel)
theorem b203_13 {T : zT} {V : zM} {x1 : Int} (hS : zStr T) (h1 : -2147483648 ≤ (364 + x1) ∧ (364 + x1) ≤ 2147483647) (h2 : (0 : Int) ≤ (364 + x1) ∧ (364 + x1) < 428) : ev 203 13 [(2, 130), (0, x1), (9, 0)] [] T V = (zcall 152 [(2, 130), (0, (V 132 (364 + x1)))] T (zwr V 132 (364 + x1) 0)).bind fun x => ev 203 40 [(2, 130), (0, x1), (0, (V 132 (364 + x1)))] (z_push x.1 []) x.2.1 x.2.2 := by
  refine Eq.trans (ev_lda (show zcode 203 13 = some (6, 14, 0, 0, []) by decide +kernel) rfl (by decide)) ?_
  refine Eq.trans (ev_gq (show zcode 203 14 = some (56, 17, 12, 4, []) by decide +kernel) (so130 hS) (sp130_4 hS)) ?_
  refine Eq.trans (ev_ci (show zcode 203 17 = some (0, 20, 0, 364, []) by decide +kernel) (by decide)) ?_
  refine Eq.trans (ev_ldi (show zcode 203 20 = some (4, 21, 1, 0, []) by decide +kernel) rfl) ?_
  refine Eq.trans (ev_add (show zcode 203 21 = some (11, 22, 0, 0, []) by decide +kernel) h1) ?_
  refine Eq.trans (ev_ia (show zcode 203 22 = some (60, 23, 0, 0, []) by decide +kernel) (sa132 hS) h2) ?_
  refine Eq.trans (ev_sti (show zcode 203 23 = some (7, 24, 2, 0, []) by decide +kernel) ⟨show 2 < 3 by decide, Or.inr (show ¬ (0 : Nat) = 1 by decide)⟩) ?_
  refine Eq.trans (ev_lda (show zcode 203 24 = some (6, 25, 0, 0, []) by decide +kernel) rfl (by decide)) ?_
  refine Eq.trans (ev_gq (show zcode 203 25 = some (56, 28, 12, 4, []) by decide +kernel) (so130 hS) (sp130_4 hS)) ?_
  refine Eq.trans (ev_ci (show zcode 203 28 = some (0, 31, 0, 364, []) by decide +kernel) (by decide)) ?_
  refine Eq.trans (ev_ldi (show zcode 203 31 = some (4, 32, 1, 0, []) by decide +kernel) rfl) ?_
  refine Eq.trans (ev_add (show zcode 203 32 = some (11, 33, 0, 0, []) by decide +kernel) h1) ?_
  refine Eq.trans (ev_ci (show zcode 203 33 = some (0, 34, 0, 0, []) by decide +kernel) (by decide)) ?_
  refine Eq.trans (ev_is (show zcode 203 34 = some (64, 35, 0, 0, []) by decide +kernel) (sa132 hS) h2) ?_
  refine Eq.trans (ev_lda (show zcode 203 35 = some (6, 36, 0, 0, []) by decide +kernel) rfl (by decide)) ?_
  refine Eq.trans (ev_ldi (show zcode 203 36 = some (4, 37, 2, 0, []) by decide +kernel) rfl) ?_
  exact ev_cvirt (show zcode 203 37 = some (76, 40, 152, 2, [12]) by decide +kernel) (args := [(0, (V 132 (364 + x1)))]) (rest := []) rfl (so130 hS) rfl (show 0 ≤ 8 by decide) ⟨by decide, show 2 ≤ 2 by decide⟩
theorem b203_40 {T : zT} {V : zM} {x1 : Int} {x2 : Int} {y0 : Int} : ev 203 40 [(2, 130), (0, x1), (0, x2)] [(0, y0)] T V = some ((0, y0), T, V) := by
  exact ev_ri (show zcode 203 40 = some (72, 41, 0, 0, []) by decide +kernel)
/-! 204: TwoWayWallModel.near(I)I -/
theorem e204 {T : zT} {V : zM} {x1 : Int} : zcall 204 [(2, 130), (0, x1)] T V = ev 204 0 [(2, 130), (0, x1), (9, 0), (9, 0), (9, 0), (9, 0), (9, 0)] [] T V := rfl
theorem b204_0 {T : zT} {V : zM} {x1 : Int} : ev 204 0 [(2, 130), (0, x1), (9, 0), (9, 0), (9, 0), (9, 0), (9, 0)] [] T V = (zcall 150 [(0, x1), (0, 0), (0, 2)] T V).bind fun x => ev 204 6 [(2, 130), (0, x1), (9, 0), (9, 0), (9, 0), (9, 0), (9, 0)] (z_push x.1 []) x.2.1 x.2.2 := by
  refine Eq.trans (ev_ldi (show zcode 204 0 = some (4, 1, 1, 0, []) by decide +kernel) rfl) ?_
  refine Eq.trans (ev_ci (show zcode 204 1 = some (0, 2, 0, 0, []) by decide +kernel) (by decide)) ?_
  refine Eq.trans (ev_ci (show zcode 204 2 = some (0, 3, 0, 2, []) by decide +kernel) (by decide)) ?_
  exact ev_cstat (show zcode 204 3 = some (74, 6, 150, 3, []) by decide +kernel) (args := [(0, x1), (0, 0), (0, 2)]) (rest := []) rfl rfl (show 0 ≤ 8 by decide) ⟨by decide, show 3 ≤ 3 by decide⟩
theorem b204_6 {T : zT} {V : zM} {x1 : Int} {y0 : Int} : ev 204 6 [(2, 130), (0, x1), (9, 0), (9, 0), (9, 0), (9, 0), (9, 0)] [(0, y0)] T V = if y0 = 0 then ev 204 16 [(2, 130), (0, x1), (9, 0), (9, 0), (9, 0), (9, 0), (9, 0)] [] T V else ev 204 9 [(2, 130), (0, x1), (9, 0), (9, 0), (9, 0), (9, 0), (9, 0)] [] T V := by
  exact ev_eq (show zcode 204 6 = some (40, 9, 16, 0, []) by decide +kernel)
theorem b204_9 {T : zT} {V : zM} {x1 : Int} (hS : zStr T)  : ev 204 9 [(2, 130), (0, x1), (9, 0), (9, 0), (9, 0), (9, 0), (9, 0)] [] T V = (zcall 205 [(2, 130)] T V).bind fun x => ev 204 13 [(2, 130), (0, x1), (9, 0), (9, 0), (9, 0), (9, 0), (9, 0)] (z_push x.1 []) x.2.1 x.2.2 := by
  refine Eq.trans (ev_lda (show zcode 204 9 = some (6, 10, 0, 0, []) by decide +kernel) rfl (by decide)) ?_
  exact ev_cvirt (show zcode 204 10 = some (76, 13, 205, 1, [12]) by decide +kernel) (args := []) (rest := []) rfl (so130 hS) rfl (show 0 ≤ 8 by decide) ⟨by decide, show 1 ≤ 1 by decide⟩
theorem b204_13 {T : zT} {V : zM} {x1 : Int} {y0 : Int} : ev 204 13 [(2, 130), (0, x1), (9, 0), (9, 0), (9, 0), (9, 0), (9, 0)] [(0, y0)] T V = if y0 = 0 then ev 204 16 [(2, 130), (0, x1), (9, 0), (9, 0), (9, 0), (9, 0), (9, 0)] [] T V else ev 204 18 [(2, 130), (0, x1), (9, 0), (9, 0), (9, 0), (9, 0), (9, 0)] [] T V := by
  exact ev_ne (show zcode 204 13 = some (41, 16, 18, 0, []) by decide +kernel)
theorem b204_16 {T : zT} {V : zM} {x1 : Int} : ev 204 16 [(2, 130), (0, x1), (9, 0), (9, 0), (9, 0), (9, 0), (9, 0)] [] T V = some ((0, (-1)), T, V) := by
  refine Eq.trans (ev_ci (show zcode 204 16 = some (0, 17, 0, (-1), []) by decide +kernel) (by decide)) ?_
  exact ev_ri (show zcode 204 17 = some (72, 18, 0, 0, []) by decide +kernel)
theorem b204_18 {T : zT} {V : zM} {x1 : Int} (hS : zStr T)  : ev 204 18 [(2, 130), (0, x1), (9, 0), (9, 0), (9, 0), (9, 0), (9, 0)] [] T V = (zcall 197 [(2, 130)] T V).bind fun x => ev 204 22 [(2, 130), (0, x1), (9, 0), (9, 0), (9, 0), (9, 0), (9, 0)] (z_push x.1 []) x.2.1 x.2.2 := by
  refine Eq.trans (ev_lda (show zcode 204 18 = some (6, 19, 0, 0, []) by decide +kernel) rfl (by decide)) ?_
  exact ev_cvirt (show zcode 204 19 = some (76, 22, 197, 1, [12]) by decide +kernel) (args := []) (rest := []) rfl (so130 hS) rfl (show 0 ≤ 8 by decide) ⟨by decide, show 1 ≤ 2 by decide⟩
theorem b204_22 {T : zT} {V : zM} {x1 : Int} : ev 204 22 [(2, 130), (0, x1), (9, 0), (9, 0), (9, 0), (9, 0), (9, 0)] [] T V = ev 204 32 [(2, 130), (0, x1), (0, 0), (0, 0), (1, 1), (9, 0), (0, 0)] [] T V := by
  refine Eq.trans (ev_ci (show zcode 204 22 = some (0, 23, 0, 0, []) by decide +kernel) (by decide)) ?_
  refine Eq.trans (ev_sti (show zcode 204 23 = some (7, 24, 2, 0, []) by decide +kernel) ⟨show 2 < 7 by decide, Or.inr (show ¬ (0 : Nat) = 1 by decide)⟩) ?_
  refine Eq.trans (ev_ci (show zcode 204 24 = some (0, 25, 0, 0, []) by decide +kernel) (by decide)) ?_
  refine Eq.trans (ev_sti (show zcode 204 25 = some (7, 26, 3, 0, []) by decide +kernel) ⟨show 3 < 7 by decide, Or.inr (show ¬ (0 : Nat) = 1 by decide)⟩) ?_
  refine Eq.trans (ev_cl (show zcode 204 26 = some (1, 27, 0, 1, []) by decide +kernel) (by decide)) ?_
  refine Eq.trans (ev_stl (show zcode 204 27 = some (8, 29, 4, 0, []) by decide +kernel) ⟨show 5 < 7 by decide, Or.inr (show ¬ (0 : Nat) = 1 by decide)⟩) ?_
  refine Eq.trans (ev_ci (show zcode 204 29 = some (0, 30, 0, 0, []) by decide +kernel) (by decide)) ?_
  exact ev_sti (show zcode 204 30 = some (7, 32, 6, 0, []) by decide +kernel) ⟨show 6 < 7 by decide, Or.inr (show ¬ (9 : Nat) = 1 by decide)⟩
theorem b204_32 {T : zT} {V : zM} {x1 : Int} {x2 : Int} {x3 : Int} {x4 : Int} {x6 : Int} (hS : zStr T)  : ev 204 32 [(2, 130), (0, x1), (0, x2), (0, x3), (1, x4), (9, 0), (0, x6)] [] T V = if (V 132 364) ≤ x6 then ev 204 106 [(2, 130), (0, x1), (0, x2), (0, x3), (1, x4), (9, 0), (0, x6)] [] T V else ev 204 45 [(2, 130), (0, x1), (0, x2), (0, x3), (1, x4), (9, 0), (0, x6)] [] T V := by
  refine Eq.trans (ev_ldi (show zcode 204 32 = some (4, 34, 6, 0, []) by decide +kernel) rfl) ?_
  refine Eq.trans (ev_lda (show zcode 204 34 = some (6, 35, 0, 0, []) by decide +kernel) rfl (by decide)) ?_
  refine Eq.trans (ev_gq (show zcode 204 35 = some (56, 38, 12, 4, []) by decide +kernel) (so130 hS) (sp130_4 hS)) ?_
  refine Eq.trans (ev_ci (show zcode 204 38 = some (0, 41, 0, 364, []) by decide +kernel) (by decide)) ?_
  refine Eq.trans (ev_ia (show zcode 204 41 = some (60, 42, 0, 0, []) by decide +kernel) (sa132 hS) (by decide)) ?_
  exact ev_cge (show zcode 204 42 = some (49, 45, 106, 0, []) by decide +kernel)
theorem b204_45 {T : zT} {V : zM} {x1 : Int} {x2 : Int} {x3 : Int} {x4 : Int} {x6 : Int} (hS : zStr T)  : ev 204 45 [(2, 130), (0, x1), (0, x2), (0, x3), (1, x4), (9, 0), (0, x6)] [] T V = (zcall 206 [(2, 130), (0, x6)] T V).bind fun x => ev 204 51 [(2, 130), (0, x1), (0, x2), (0, x3), (1, x4), (9, 0), (0, x6)] (z_push x.1 []) x.2.1 x.2.2 := by
  refine Eq.trans (ev_lda (show zcode 204 45 = some (6, 46, 0, 0, []) by decide +kernel) rfl (by decide)) ?_
  refine Eq.trans (ev_ldi (show zcode 204 46 = some (4, 48, 6, 0, []) by decide +kernel) rfl) ?_
  exact ev_cvirt (show zcode 204 48 = some (76, 51, 206, 2, [12]) by decide +kernel) (args := [(0, x6)]) (rest := []) rfl (so130 hS) rfl (show 0 ≤ 8 by decide) ⟨by decide, show 2 ≤ 6 by decide⟩
theorem b204_51 {T : zT} {V : zM} {x1 : Int} {x2 : Int} {x3 : Int} {x4 : Int} {x6 : Int} (hS : zStr T) (h1 : -2147483648 ≤ (x2 + (V 130 25)) ∧ (x2 + (V 130 25)) ≤ 2147483647) : ev 204 51 [(2, 130), (0, x1), (0, x2), (0, x3), (1, x4), (9, 0), (0, x6)] [] T V = (zcall 199 [(2, 130), (0, (V 130 26))] T V).bind fun x => ev 204 67 [(2, 130), (0, x1), (0, (x2 + (V 130 25))), (0, x3), (1, x4), (9, 0), (0, x6)] (z_push x.1 [(0, x3)]) x.2.1 x.2.2 := by
  refine Eq.trans (ev_ldi (show zcode 204 51 = some (4, 52, 2, 0, []) by decide +kernel) rfl) ?_
  refine Eq.trans (ev_lda (show zcode 204 52 = some (6, 53, 0, 0, []) by decide +kernel) rfl (by decide)) ?_
  refine Eq.trans (ev_gi (show zcode 204 53 = some (55, 56, 12, 25, []) by decide +kernel) (so130 hS)) ?_
  refine Eq.trans (ev_add (show zcode 204 56 = some (11, 57, 0, 0, []) by decide +kernel) h1) ?_
  refine Eq.trans (ev_sti (show zcode 204 57 = some (7, 58, 2, 0, []) by decide +kernel) ⟨show 2 < 7 by decide, Or.inr (show ¬ (0 : Nat) = 1 by decide)⟩) ?_
  refine Eq.trans (ev_ldi (show zcode 204 58 = some (4, 59, 3, 0, []) by decide +kernel) rfl) ?_
  refine Eq.trans (ev_lda (show zcode 204 59 = some (6, 60, 0, 0, []) by decide +kernel) rfl (by decide)) ?_
  refine Eq.trans (ev_lda (show zcode 204 60 = some (6, 61, 0, 0, []) by decide +kernel) rfl (by decide)) ?_
  refine Eq.trans (ev_gi (show zcode 204 61 = some (55, 64, 12, 26, []) by decide +kernel) (so130 hS)) ?_
  exact ev_cvirt (show zcode 204 64 = some (76, 67, 199, 2, [12]) by decide +kernel) (args := [(0, (V 130 26))]) (rest := [(0, x3)]) rfl (so130 hS) rfl (show 1 ≤ 8 by decide) ⟨by decide, show 2 ≤ 4 by decide⟩
theorem b204_67 {T : zT} {V : zM} {x1 : Int} {x2 : Int} {x3 : Int} {x4 : Int} {x6 : Int} {y0 : Int} {y1 : Int} (hS : zStr T) (h1 : -2147483648 ≤ (y0 + y1) ∧ (y0 + y1) ≤ 2147483647) (h2 : -9223372036854775808 ≤ (x4 * (V 130 27)) ∧ (x4 * (V 130 27)) ≤ 9223372036854775807) : ev 204 67 [(2, 130), (0, x1), (0, x2), (0, x3), (1, x4), (9, 0), (0, x6)] [(0, y1), (0, y0)] T V = if (x4 * (V 130 27)) ≤ 1000000000 then ev 204 90 [(2, 130), (0, x1), (0, x2), (0, (y0 + y1)), (1, x4), (9, 0), (0, x6)] [] T V else ev 204 84 [(2, 130), (0, x1), (0, x2), (0, (y0 + y1)), (1, x4), (9, 0), (0, x6)] [] T V := by
  refine Eq.trans (ev_add (show zcode 204 67 = some (11, 68, 0, 0, []) by decide +kernel) h1) ?_
  refine Eq.trans (ev_sti (show zcode 204 68 = some (7, 69, 3, 0, []) by decide +kernel) ⟨show 3 < 7 by decide, Or.inr (show ¬ (0 : Nat) = 1 by decide)⟩) ?_
  refine Eq.trans (ev_ldl (show zcode 204 69 = some (5, 71, 4, 0, []) by decide +kernel) rfl) ?_
  refine Eq.trans (ev_lda (show zcode 204 71 = some (6, 72, 0, 0, []) by decide +kernel) rfl (by decide)) ?_
  refine Eq.trans (ev_gi (show zcode 204 72 = some (55, 75, 12, 27, []) by decide +kernel) (so130 hS)) ?_
  refine Eq.trans (ev_i2l (show zcode 204 75 = some (32, 76, 0, 0, []) by decide +kernel)) ?_
  refine Eq.trans (ev_lmul (show zcode 204 76 = some (25, 77, 0, 0, []) by decide +kernel) h2) ?_
  refine Eq.trans (ev_cl (show zcode 204 77 = some (1, 80, 0, 1000000000, []) by decide +kernel) (by decide)) ?_
  exact ev_lle (show zcode 204 80 = some (31, 81, 0, 0, []) by decide +kernel) (show zcode 204 81 = some (45, 84, 90, 0, []) by decide +kernel)
theorem b204_84 {T : zT} {V : zM} {x1 : Int} {x2 : Int} {x3 : Int} {x4 : Int} {x6 : Int} : ev 204 84 [(2, 130), (0, x1), (0, x2), (0, x3), (1, x4), (9, 0), (0, x6)] [] T V = ev 204 98 [(2, 130), (0, x1), (0, x2), (0, x3), (1, x4), (9, 0), (0, x6)] [(1, 1000000000)] T V := by
  refine Eq.trans (ev_cl (show zcode 204 84 = some (1, 87, 0, 1000000000, []) by decide +kernel) (by decide)) ?_
  exact ev_goto (show zcode 204 87 = some (53, 90, 98, 0, []) by decide +kernel)
theorem b204_90 {T : zT} {V : zM} {x1 : Int} {x2 : Int} {x3 : Int} {x4 : Int} {x6 : Int} (hS : zStr T) (h1 : -9223372036854775808 ≤ (x4 * (V 130 27)) ∧ (x4 * (V 130 27)) ≤ 9223372036854775807) : ev 204 90 [(2, 130), (0, x1), (0, x2), (0, x3), (1, x4), (9, 0), (0, x6)] [] T V = ev 204 98 [(2, 130), (0, x1), (0, x2), (0, x3), (1, x4), (9, 0), (0, x6)] [(1, (x4 * (V 130 27)))] T V := by
  refine Eq.trans (ev_ldl (show zcode 204 90 = some (5, 92, 4, 0, []) by decide +kernel) rfl) ?_
  refine Eq.trans (ev_lda (show zcode 204 92 = some (6, 93, 0, 0, []) by decide +kernel) rfl (by decide)) ?_
  refine Eq.trans (ev_gi (show zcode 204 93 = some (55, 96, 12, 27, []) by decide +kernel) (so130 hS)) ?_
  refine Eq.trans (ev_i2l (show zcode 204 96 = some (32, 97, 0, 0, []) by decide +kernel)) ?_
  exact ev_lmul (show zcode 204 97 = some (25, 98, 0, 0, []) by decide +kernel) h1
theorem b204_98 {T : zT} {V : zM} {x1 : Int} {x2 : Int} {x3 : Int} {x4 : Int} {x6 : Int} {y0 : Int} (h1 : -2147483648 ≤ (x6 + 1) ∧ (x6 + 1) ≤ 2147483647) : ev 204 98 [(2, 130), (0, x1), (0, x2), (0, x3), (1, x4), (9, 0), (0, x6)] [(1, y0)] T V = ev 204 32 [(2, 130), (0, x1), (0, x2), (0, x3), (1, y0), (9, 0), (0, (x6 + 1))] [] T V := by
  refine Eq.trans (ev_stl (show zcode 204 98 = some (8, 100, 4, 0, []) by decide +kernel) ⟨show 5 < 7 by decide, Or.inr (show ¬ (0 : Nat) = 1 by decide)⟩) ?_
  refine Eq.trans (ev_inc (show zcode 204 100 = some (10, 103, 6, 1, []) by decide +kernel) rfl h1 (Or.inr (show ¬ (9 : Nat) = 1 by decide))) ?_
  exact ev_goto (show zcode 204 103 = some (53, 106, 32, 0, []) by decide +kernel)
theorem b204_106 {T : zT} {V : zM} {x1 : Int} {x2 : Int} {x3 : Int} {x4 : Int} {x6 : Int} : ev 204 106 [(2, 130), (0, x1), (0, x2), (0, x3), (1, x4), (9, 0), (0, x6)] [] T V = if x1 = 0 then ev 204 110 [(2, 130), (0, x1), (0, x2), (0, x3), (1, x4), (9, 0), (0, x6)] [] T V else ev 204 114 [(2, 130), (0, x1), (0, x2), (0, x3), (1, x4), (9, 0), (0, x6)] [] T V := by
  refine Eq.trans (ev_ldi (show zcode 204 106 = some (4, 107, 1, 0, []) by decide +kernel) rfl) ?_
  exact ev_ne (show zcode 204 107 = some (41, 110, 114, 0, []) by decide +kernel)
theorem b204_110 {T : zT} {V : zM} {x1 : Int} {x2 : Int} {x3 : Int} {x4 : Int} {x6 : Int} : ev 204 110 [(2, 130), (0, x1), (0, x2), (0, x3), (1, x4), (9, 0), (0, x6)] [] T V = ev 204 126 [(2, 130), (0, x1), (0, x2), (0, x3), (1, x4), (9, 0), (0, x6)] [(0, x2)] T V := by
  refine Eq.trans (ev_ldi (show zcode 204 110 = some (4, 111, 2, 0, []) by decide +kernel) rfl) ?_
  exact ev_goto (show zcode 204 111 = some (53, 114, 126, 0, []) by decide +kernel)
theorem b204_114 {T : zT} {V : zM} {x1 : Int} {x2 : Int} {x3 : Int} {x4 : Int} {x6 : Int} : ev 204 114 [(2, 130), (0, x1), (0, x2), (0, x3), (1, x4), (9, 0), (0, x6)] [] T V = if x1 = 1 then ev 204 119 [(2, 130), (0, x1), (0, x2), (0, x3), (1, x4), (9, 0), (0, x6)] [] T V else ev 204 123 [(2, 130), (0, x1), (0, x2), (0, x3), (1, x4), (9, 0), (0, x6)] [] T V := by
  refine Eq.trans (ev_ldi (show zcode 204 114 = some (4, 115, 1, 0, []) by decide +kernel) rfl) ?_
  refine Eq.trans (ev_ci (show zcode 204 115 = some (0, 116, 0, 1, []) by decide +kernel) (by decide)) ?_
  exact ev_cne (show zcode 204 116 = some (47, 119, 123, 0, []) by decide +kernel)
theorem b204_119 {T : zT} {V : zM} {x1 : Int} {x2 : Int} {x3 : Int} {x4 : Int} {x6 : Int} : ev 204 119 [(2, 130), (0, x1), (0, x2), (0, x3), (1, x4), (9, 0), (0, x6)] [] T V = ev 204 126 [(2, 130), (0, x1), (0, x2), (0, x3), (1, x4), (9, 0), (0, x6)] [(0, x3)] T V := by
  refine Eq.trans (ev_ldi (show zcode 204 119 = some (4, 120, 3, 0, []) by decide +kernel) rfl) ?_
  exact ev_goto (show zcode 204 120 = some (53, 123, 126, 0, []) by decide +kernel)
theorem b204_123 {T : zT} {V : zM} {x1 : Int} {x2 : Int} {x3 : Int} {x4 : Int} {x6 : Int} (h1 : -2147483648 ≤ x4 ∧ x4 ≤ 2147483647) : ev 204 123 [(2, 130), (0, x1), (0, x2), (0, x3), (1, x4), (9, 0), (0, x6)] [] T V = ev 204 126 [(2, 130), (0, x1), (0, x2), (0, x3), (1, x4), (9, 0), (0, x6)] [(0, x4)] T V := by
  refine Eq.trans (ev_ldl (show zcode 204 123 = some (5, 125, 4, 0, []) by decide +kernel) rfl) ?_
  exact ev_l2i (show zcode 204 125 = some (33, 126, 0, 0, []) by decide +kernel) h1
theorem b204_126 {T : zT} {V : zM} {x1 : Int} {x2 : Int} {x3 : Int} {x4 : Int} {x6 : Int} {y0 : Int} : ev 204 126 [(2, 130), (0, x1), (0, x2), (0, x3), (1, x4), (9, 0), (0, x6)] [(0, y0)] T V = some ((0, y0), T, V) := by
  exact ev_ri (show zcode 204 126 = some (72, 127, 0, 0, []) by decide +kernel)
/-! 205: TwoWayWallModel.areAsLong()Z -/
theorem e205 {T : zT} {V : zM}  : zcall 205 [(2, 130)] T V = ev 205 0 [(2, 130)] [] T V := rfl
theorem b205_0 {T : zT} {V : zM}  (hS : zStr T)  : ev 205 0 [(2, 130)] [] T V = if (V 132 364) = (V 132 365) then ev 205 19 [(2, 130)] [] T V else ev 205 23 [(2, 130)] [] T V := by
  refine Eq.trans (ev_lda (show zcode 205 0 = some (6, 1, 0, 0, []) by decide +kernel) rfl (by decide)) ?_
  refine Eq.trans (ev_gq (show zcode 205 1 = some (56, 4, 12, 4, []) by decide +kernel) (so130 hS) (sp130_4 hS)) ?_
  refine Eq.trans (ev_ci (show zcode 205 4 = some (0, 7, 0, 364, []) by decide +kernel) (by decide)) ?_
  refine Eq.trans (ev_ia (show zcode 205 7 = some (60, 8, 0, 0, []) by decide +kernel) (sa132 hS) (by decide)) ?_
  refine Eq.trans (ev_lda (show zcode 205 8 = some (6, 9, 0, 0, []) by decide +kernel) rfl (by decide)) ?_
  refine Eq.trans (ev_gq (show zcode 205 9 = some (56, 12, 12, 4, []) by decide +kernel) (so130 hS) (sp130_4 hS)) ?_
  refine Eq.trans (ev_ci (show zcode 205 12 = some (0, 15, 0, 365, []) by decide +kernel) (by decide)) ?_
  refine Eq.trans (ev_ia (show zcode 205 15 = some (60, 16, 0, 0, []) by decide +kernel) (sa132 hS) (by decide)) ?_
  exact ev_cne (show zcode 205 16 = some (47, 19, 23, 0, []) by decide +kernel)
theorem b205_19 {T : zT} {V : zM}  : ev 205 19 [(2, 130)] [] T V = ev 205 24 [(2, 130)] [(0, 1)] T V := by
  refine Eq.trans (ev_ci (show zcode 205 19 = some (0, 20, 0, 1, []) by decide +kernel) (by decide)) ?_
  exact ev_goto (show zcode 205 20 = some (53, 23, 24, 0, []) by decide +kernel)
theorem b205_23 {T : zT} {V : zM}  : ev 205 23 [(2, 130)] [] T V = ev 205 24 [(2, 130)] [(0, 0)] T V := by
  exact ev_ci (show zcode 205 23 = some (0, 24, 0, 0, []) by decide +kernel) (by decide)
theorem b205_24 {T : zT} {V : zM} {y0 : Int} (h1 : (0 : Int) ≤ y0 ∧ y0 ≤ 1) : ev 205 24 [(2, 130)] [(0, y0)] T V = some ((0, y0), T, V) := by
  exact ev_rz (show zcode 205 24 = some (72, 25, 3, 0, []) by decide +kernel) h1
/-! 206: TwoWayWallModel.nears(I)V -/
theorem e206 {T : zT} {V : zM} {x1 : Int} : zcall 206 [(2, 130), (0, x1)] T V = ev 206 0 [(2, 130), (0, x1), (9, 0), (9, 0), (9, 0), (9, 0)] [] T V := rfl
theorem b206_0 {T : zT} {V : zM} {x1 : Int} (hS : zStr T) (h1 : -2147483648 ≤ (332 + x1) ∧ (332 + x1) ≤ 2147483647) (h2 : (0 : Int) ≤ (332 + x1) ∧ (332 + x1) < 428) (h3 : -2147483648 ≤ (348 + (V 132 364)) ∧ (348 + (V 132 364)) ≤ 2147483647) (h4 : -2147483648 ≤ ((348 + (V 132 364)) - 1) ∧ ((348 + (V 132 364)) - 1) ≤ 2147483647) (h5 : -2147483648 ≤ (((348 + (V 132 364)) - 1) - x1) ∧ (((348 + (V 132 364)) - 1) - x1) ≤ 2147483647) (h6 : (0 : Int) ≤ (((348 + (V 132 364)) - 1) - x1) ∧ (((348 + (V 132 364)) - 1) - x1) < 428) : ev 206 0 [(2, 130), (0, x1), (9, 0), (9, 0), (9, 0), (9, 0)] [] T V = ev 206 41 [(2, 130), (0, x1), (0, (V 132 (332 + x1))), (0, (V 132 (((348 + (V 132 364)) - 1) - x1))), (0, 0), (9, 0)] [] T (zwr V 130 25 3) := by
  refine Eq.trans (ev_lda (show zcode 206 0 = some (6, 1, 0, 0, []) by decide +kernel) rfl (by decide)) ?_
  refine Eq.trans (ev_gq (show zcode 206 1 = some (56, 4, 12, 4, []) by decide +kernel) (so130 hS) (sp130_4 hS)) ?_
  refine Eq.trans (ev_ci (show zcode 206 4 = some (0, 7, 0, 332, []) by decide +kernel) (by decide)) ?_
  refine Eq.trans (ev_ldi (show zcode 206 7 = some (4, 8, 1, 0, []) by decide +kernel) rfl) ?_
  refine Eq.trans (ev_add (show zcode 206 8 = some (11, 9, 0, 0, []) by decide +kernel) h1) ?_
  refine Eq.trans (ev_ia (show zcode 206 9 = some (60, 10, 0, 0, []) by decide +kernel) (sa132 hS) h2) ?_
  refine Eq.trans (ev_sti (show zcode 206 10 = some (7, 11, 2, 0, []) by decide +kernel) ⟨show 2 < 6 by decide, Or.inr (show ¬ (0 : Nat) = 1 by decide)⟩) ?_
  refine Eq.trans (ev_lda (show zcode 206 11 = some (6, 12, 0, 0, []) by decide +kernel) rfl (by decide)) ?_
  refine Eq.trans (ev_gq (show zcode 206 12 = some (56, 15, 12, 4, []) by decide +kernel) (so130 hS) (sp130_4 hS)) ?_
  refine Eq.trans (ev_ci (show zcode 206 15 = some (0, 18, 0, 348, []) by decide +kernel) (by decide)) ?_
  refine Eq.trans (ev_lda (show zcode 206 18 = some (6, 19, 0, 0, []) by decide +kernel) rfl (by decide)) ?_
  refine Eq.trans (ev_gq (show zcode 206 19 = some (56, 22, 12, 4, []) by decide +kernel) (so130 hS) (sp130_4 hS)) ?_
  refine Eq.trans (ev_ci (show zcode 206 22 = some (0, 25, 0, 364, []) by decide +kernel) (by decide)) ?_
  refine Eq.trans (ev_ia (show zcode 206 25 = some (60, 26, 0, 0, []) by decide +kernel) (sa132 hS) (by decide)) ?_
  refine Eq.trans (ev_add (show zcode 206 26 = some (11, 27, 0, 0, []) by decide +kernel) h3) ?_
  refine Eq.trans (ev_ci (show zcode 206 27 = some (0, 28, 0, 1, []) by decide +kernel) (by decide)) ?_
  refine Eq.trans (ev_sub (show zcode 206 28 = some (12, 29, 0, 0, []) by decide +kernel) h4) ?_
  refine Eq.trans (ev_ldi (show zcode 206 29 = some (4, 30, 1, 0, []) by decide +kernel) rfl) ?_
  refine Eq.trans (ev_sub (show zcode 206 30 = some (12, 31, 0, 0, []) by decide +kernel) h5) ?_
  refine Eq.trans (ev_ia (show zcode 206 31 = some (60, 32, 0, 0, []) by decide +kernel) (sa132 hS) h6) ?_
  refine Eq.trans (ev_sti (show zcode 206 32 = some (7, 33, 3, 0, []) by decide +kernel) ⟨show 3 < 6 by decide, Or.inr (show ¬ (0 : Nat) = 1 by decide)⟩) ?_
  refine Eq.trans (ev_lda (show zcode 206 33 = some (6, 34, 0, 0, []) by decide +kernel) rfl (by decide)) ?_
  refine Eq.trans (ev_ci (show zcode 206 34 = some (0, 35, 0, 3, []) by decide +kernel) (by decide)) ?_
  refine Eq.trans (ev_pi (show zcode 206 35 = some (57, 38, 12, 25, []) by decide +kernel) (so130 hS)) ?_
  refine Eq.trans (ev_ci (show zcode 206 38 = some (0, 39, 0, 0, []) by decide +kernel) (by decide)) ?_
  exact ev_sti (show zcode 206 39 = some (7, 41, 4, 0, []) by decide +kernel) ⟨show 4 < 6 by decide, Or.inr (show ¬ (0 : Nat) = 1 by decide)⟩
theorem b206_41 {T : zT} {V : zM} {x1 : Int} {x2 : Int} {x3 : Int} {x4 : Int} {v5 : zV} : ev 206 41 [(2, 130), (0, x1), (0, x2), (0, x3), (0, x4), v5] [] T V = if 128 ≤ x4 then ev 206 163 [(2, 130), (0, x1), (0, x2), (0, x3), (0, x4), v5] [] T V else ev 206 49 [(2, 130), (0, x1), (0, x2), (0, x3), (0, x4), v5] [] T V := by
  refine Eq.trans (ev_ldi (show zcode 206 41 = some (4, 43, 4, 0, []) by decide +kernel) rfl) ?_
  refine Eq.trans (ev_ci (show zcode 206 43 = some (0, 46, 0, 128, []) by decide +kernel) (by decide)) ?_
  exact ev_cge (show zcode 206 46 = some (49, 49, 163, 0, []) by decide +kernel)
theorem b206_49 {T : zT} {V : zM} {x1 : Int} {x2 : Int} {x3 : Int} {x4 : Int} {v5 : zV} (hS : zStr T) (h1 : (0 : Int) ≤ x4 ∧ x4 < 128) : ev 206 49 [(2, 130), (0, x1), (0, x2), (0, x3), (0, x4), v5] [] T V = if (V 142 x4) = x2 then ev 206 60 [(2, 130), (0, x1), (0, x2), (0, x3), (0, x4), v5] [] T V else ev 206 64 [(2, 130), (0, x1), (0, x2), (0, x3), (0, x4), v5] [] T V := by
  refine Eq.trans (ev_lda (show zcode 206 49 = some (6, 50, 0, 0, []) by decide +kernel) rfl (by decide)) ?_
  refine Eq.trans (ev_gq (show zcode 206 50 = some (56, 53, 12, 22, []) by decide +kernel) (so130 hS) (sp130_22 hS)) ?_
  refine Eq.trans (ev_ldi (show zcode 206 53 = some (4, 55, 4, 0, []) by decide +kernel) rfl) ?_
  refine Eq.trans (ev_ia (show zcode 206 55 = some (60, 56, 0, 0, []) by decide +kernel) (sa142 hS) h1) ?_
  refine Eq.trans (ev_ldi (show zcode 206 56 = some (4, 57, 2, 0, []) by decide +kernel) rfl) ?_
  exact ev_cne (show zcode 206 57 = some (47, 60, 64, 0, []) by decide +kernel)
theorem b206_60 {T : zT} {V : zM} {x1 : Int} {x2 : Int} {x3 : Int} {x4 : Int} {v5 : zV} : ev 206 60 [(2, 130), (0, x1), (0, x2), (0, x3), (0, x4), v5] [] T V = ev 206 65 [(2, 130), (0, x1), (0, x2), (0, x3), (0, x4), v5] [(0, 0)] T V := by
  refine Eq.trans (ev_ci (show zcode 206 60 = some (0, 61, 0, 0, []) by decide +kernel) (by decide)) ?_
  exact ev_goto (show zcode 206 61 = some (53, 64, 65, 0, []) by decide +kernel)
theorem b206_64 {T : zT} {V : zM} {x1 : Int} {x2 : Int} {x3 : Int} {x4 : Int} {v5 : zV} : ev 206 64 [(2, 130), (0, x1), (0, x2), (0, x3), (0, x4), v5] [] T V = ev 206 65 [(2, 130), (0, x1), (0, x2), (0, x3), (0, x4), v5] [(0, 1)] T V := by
  exact ev_ci (show zcode 206 64 = some (0, 65, 0, 1, []) by decide +kernel) (by decide)
theorem b206_65 {T : zT} {V : zM} {x1 : Int} {x2 : Int} {x3 : Int} {x4 : Int} {v5 : zV} {y0 : Int} (hS : zStr T) (h1 : (0 : Int) ≤ x4 ∧ x4 < 128) : ev 206 65 [(2, 130), (0, x1), (0, x2), (0, x3), (0, x4), v5] [(0, y0)] T V = if (V 143 x4) = x3 then ev 206 76 [(2, 130), (0, x1), (0, x2), (0, x3), (0, x4), v5] [(0, y0)] T V else ev 206 80 [(2, 130), (0, x1), (0, x2), (0, x3), (0, x4), v5] [(0, y0)] T V := by
  refine Eq.trans (ev_lda (show zcode 206 65 = some (6, 66, 0, 0, []) by decide +kernel) rfl (by decide)) ?_
  refine Eq.trans (ev_gq (show zcode 206 66 = some (56, 69, 12, 23, []) by decide +kernel) (so130 hS) (sp130_23 hS)) ?_
  refine Eq.trans (ev_ldi (show zcode 206 69 = some (4, 71, 4, 0, []) by decide +kernel) rfl) ?_
  refine Eq.trans (ev_ia (show zcode 206 71 = some (60, 72, 0, 0, []) by decide +kernel) (sa143 hS) h1) ?_
  refine Eq.trans (ev_ldi (show zcode 206 72 = some (4, 73, 3, 0, []) by decide +kernel) rfl) ?_
  exact ev_cne (show zcode 206 73 = some (47, 76, 80, 0, []) by decide +kernel)
theorem b206_76 {T : zT} {V : zM} {x1 : Int} {x2 : Int} {x3 : Int} {x4 : Int} {v5 : zV} {y0 : Int} : ev 206 76 [(2, 130), (0, x1), (0, x2), (0, x3), (0, x4), v5] [(0, y0)] T V = ev 206 81 [(2, 130), (0, x1), (0, x2), (0, x3), (0, x4), v5] [(0, 0), (0, y0)] T V := by
  refine Eq.trans (ev_ci (show zcode 206 76 = some (0, 77, 0, 0, []) by decide +kernel) (by decide)) ?_
  exact ev_goto (show zcode 206 77 = some (53, 80, 81, 0, []) by decide +kernel)
theorem b206_80 {T : zT} {V : zM} {x1 : Int} {x2 : Int} {x3 : Int} {x4 : Int} {v5 : zV} {y0 : Int} : ev 206 80 [(2, 130), (0, x1), (0, x2), (0, x3), (0, x4), v5] [(0, y0)] T V = ev 206 81 [(2, 130), (0, x1), (0, x2), (0, x3), (0, x4), v5] [(0, 1), (0, y0)] T V := by
  exact ev_ci (show zcode 206 80 = some (0, 81, 0, 1, []) by decide +kernel) (by decide)
theorem b206_81 {T : zT} {V : zM} {x1 : Int} {x2 : Int} {x3 : Int} {x4 : Int} {v5 : zV} {y0 : Int} {y1 : Int} (hS : zStr T) (h1 : -2147483648 ≤ (y0 + y1) ∧ (y0 + y1) ≤ 2147483647) : ev 206 81 [(2, 130), (0, x1), (0, x2), (0, x3), (0, x4), v5] [(0, y1), (0, y0)] T V = if (y0 + y1) ≤ (V 130 25) then ev 206 96 [(2, 130), (0, x1), (0, x2), (0, x3), (0, x4), (0, (y0 + y1))] [] T V else ev 206 93 [(2, 130), (0, x1), (0, x2), (0, x3), (0, x4), (0, (y0 + y1))] [] T V := by
  refine Eq.trans (ev_add (show zcode 206 81 = some (11, 82, 0, 0, []) by decide +kernel) h1) ?_
  refine Eq.trans (ev_sti (show zcode 206 82 = some (7, 84, 5, 0, []) by decide +kernel) ⟨show 5 < 6 by decide, Or.inr (show ¬ (0 : Nat) = 1 by decide)⟩) ?_
  refine Eq.trans (ev_ldi (show zcode 206 84 = some (4, 86, 5, 0, []) by decide +kernel) rfl) ?_
  refine Eq.trans (ev_lda (show zcode 206 86 = some (6, 87, 0, 0, []) by decide +kernel) rfl (by decide)) ?_
  refine Eq.trans (ev_gi (show zcode 206 87 = some (55, 90, 12, 25, []) by decide +kernel) (so130 hS)) ?_
  exact ev_cle (show zcode 206 90 = some (51, 93, 96, 0, []) by decide +kernel)
theorem b206_93 {T : zT} {V : zM} {x1 : Int} {x2 : Int} {x3 : Int} {x4 : Int} {x5 : Int} : ev 206 93 [(2, 130), (0, x1), (0, x2), (0, x3), (0, x4), (0, x5)] [] T V = ev 206 157 [(2, 130), (0, x1), (0, x2), (0, x3), (0, x4), (0, x5)] [] T V := by
  exact ev_goto (show zcode 206 93 = some (53, 96, 157, 0, []) by decide +kernel)
theorem b206_96 {T : zT} {V : zM} {x1 : Int} {x2 : Int} {x3 : Int} {x4 : Int} {x5 : Int} (hS : zStr T)  : ev 206 96 [(2, 130), (0, x1), (0, x2), (0, x3), (0, x4), (0, x5)] [] T V = if (V 130 25) ≤ x5 then ev 206 110 [(2, 130), (0, x1), (0, x2), (0, x3), (0, x4), (0, x5)] [(2, 130)] T V else ev 206 106 [(2, 130), (0, x1), (0, x2), (0, x3), (0, x4), (0, x5)] [(2, 130)] T V := by
  refine Eq.trans (ev_lda (show zcode 206 96 = some (6, 97, 0, 0, []) by decide +kernel) rfl (by decide)) ?_
  refine Eq.trans (ev_ldi (show zcode 206 97 = some (4, 99, 5, 0, []) by decide +kernel) rfl) ?_
  refine Eq.trans (ev_lda (show zcode 206 99 = some (6, 100, 0, 0, []) by decide +kernel) rfl (by decide)) ?_
  refine Eq.trans (ev_gi (show zcode 206 100 = some (55, 103, 12, 25, []) by decide +kernel) (so130 hS)) ?_
  exact ev_cge (show zcode 206 103 = some (49, 106, 110, 0, []) by decide +kernel)
theorem b206_106 {T : zT} {V : zM} {x1 : Int} {x2 : Int} {x3 : Int} {x4 : Int} {x5 : Int} : ev 206 106 [(2, 130), (0, x1), (0, x2), (0, x3), (0, x4), (0, x5)] [(2, 130)] T V = ev 206 116 [(2, 130), (0, x1), (0, x2), (0, x3), (0, x4), (0, x5)] [(0, 1), (2, 130)] T V := by
  refine Eq.trans (ev_ci (show zcode 206 106 = some (0, 107, 0, 1, []) by decide +kernel) (by decide)) ?_
  exact ev_goto (show zcode 206 107 = some (53, 110, 116, 0, []) by decide +kernel)
theorem b206_110 {T : zT} {V : zM} {x1 : Int} {x2 : Int} {x3 : Int} {x4 : Int} {x5 : Int} (hS : zStr T) (h1 : -2147483648 ≤ ((V 130 27) + 1) ∧ ((V 130 27) + 1) ≤ 2147483647) : ev 206 110 [(2, 130), (0, x1), (0, x2), (0, x3), (0, x4), (0, x5)] [(2, 130)] T V = ev 206 116 [(2, 130), (0, x1), (0, x2), (0, x3), (0, x4), (0, x5)] [(0, ((V 130 27) + 1)), (2, 130)] T V := by
  refine Eq.trans (ev_lda (show zcode 206 110 = some (6, 111, 0, 0, []) by decide +kernel) rfl (by decide)) ?_
  refine Eq.trans (ev_gi (show zcode 206 111 = some (55, 114, 12, 27, []) by decide +kernel) (so130 hS)) ?_
  refine Eq.trans (ev_ci (show zcode 206 114 = some (0, 115, 0, 1, []) by decide +kernel) (by decide)) ?_
  exact ev_add (show zcode 206 115 = some (11, 116, 0, 0, []) by decide +kernel) h1
theorem b206_116 {T : zT} {V : zM} {x1 : Int} {x2 : Int} {x3 : Int} {x4 : Int} {x5 : Int} {y1 : Int} (hS : zStr T)  : ev 206 116 [(2, 130), (0, x1), (0, x2), (0, x3), (0, x4), (0, x5)] [(0, y1), (2, 130)] T V = if x5 < ((zwr V 130 27 y1) 130 25) then ev 206 145 [(2, 130), (0, x1), (0, x2), (0, x3), (0, x4), (0, x5)] [] T (zwr V 130 27 y1) else ev 206 128 [(2, 130), (0, x1), (0, x2), (0, x3), (0, x4), (0, x5)] [] T (zwr V 130 27 y1) := by
  refine Eq.trans (ev_pi (show zcode 206 116 = some (57, 119, 12, 27, []) by decide +kernel) (so130 hS)) ?_
  refine Eq.trans (ev_ldi (show zcode 206 119 = some (4, 121, 5, 0, []) by decide +kernel) rfl) ?_
  refine Eq.trans (ev_lda (show zcode 206 121 = some (6, 122, 0, 0, []) by decide +kernel) rfl (by decide)) ?_
  refine Eq.trans (ev_gi (show zcode 206 122 = some (55, 125, 12, 25, []) by decide +kernel) (so130 hS)) ?_
  exact ev_clt (show zcode 206 125 = some (48, 128, 145, 0, []) by decide +kernel)
theorem b206_128 {T : zT} {V : zM} {x1 : Int} {x2 : Int} {x3 : Int} {x4 : Int} {x5 : Int} (hS : zStr T)  : ev 206 128 [(2, 130), (0, x1), (0, x2), (0, x3), (0, x4), (0, x5)] [] T V = (zcall 199 [(2, 130), (0, x4)] T V).bind fun x => ev 206 134 [(2, 130), (0, x1), (0, x2), (0, x3), (0, x4), (0, x5)] (z_push x.1 []) x.2.1 x.2.2 := by
  refine Eq.trans (ev_lda (show zcode 206 128 = some (6, 129, 0, 0, []) by decide +kernel) rfl (by decide)) ?_
  refine Eq.trans (ev_ldi (show zcode 206 129 = some (4, 131, 4, 0, []) by decide +kernel) rfl) ?_
  exact ev_cvirt (show zcode 206 131 = some (76, 134, 199, 2, [12]) by decide +kernel) (args := [(0, x4)]) (rest := []) rfl (so130 hS) rfl (show 0 ≤ 8 by decide) ⟨by decide, show 2 ≤ 4 by decide⟩
theorem b206_134 {T : zT} {V : zM} {x1 : Int} {x2 : Int} {x3 : Int} {x4 : Int} {x5 : Int} {y0 : Int} (hS : zStr T)  : ev 206 134 [(2, 130), (0, x1), (0, x2), (0, x3), (0, x4), (0, x5)] [(0, y0)] T V = (zcall 199 [(2, 130), (0, (V 130 26))] T V).bind fun x => ev 206 142 [(2, 130), (0, x1), (0, x2), (0, x3), (0, x4), (0, x5)] (z_push x.1 [(0, y0)]) x.2.1 x.2.2 := by
  refine Eq.trans (ev_lda (show zcode 206 134 = some (6, 135, 0, 0, []) by decide +kernel) rfl (by decide)) ?_
  refine Eq.trans (ev_lda (show zcode 206 135 = some (6, 136, 0, 0, []) by decide +kernel) rfl (by decide)) ?_
  refine Eq.trans (ev_gi (show zcode 206 136 = some (55, 139, 12, 26, []) by decide +kernel) (so130 hS)) ?_
  exact ev_cvirt (show zcode 206 139 = some (76, 142, 199, 2, [12]) by decide +kernel) (args := [(0, (V 130 26))]) (rest := [(0, y0)]) rfl (so130 hS) rfl (show 1 ≤ 8 by decide) ⟨by decide, show 2 ≤ 4 by decide⟩
theorem b206_142 {T : zT} {V : zM} {x1 : Int} {x2 : Int} {x3 : Int} {x4 : Int} {x5 : Int} {y0 : Int} {y1 : Int} : ev 206 142 [(2, 130), (0, x1), (0, x2), (0, x3), (0, x4), (0, x5)] [(0, y1), (0, y0)] T V = if y1 ≤ y0 then ev 206 151 [(2, 130), (0, x1), (0, x2), (0, x3), (0, x4), (0, x5)] [] T V else ev 206 145 [(2, 130), (0, x1), (0, x2), (0, x3), (0, x4), (0, x5)] [] T V := by
  exact ev_cge (show zcode 206 142 = some (49, 145, 151, 0, []) by decide +kernel)
theorem b206_145 {T : zT} {V : zM} {x1 : Int} {x2 : Int} {x3 : Int} {x4 : Int} {x5 : Int} (hS : zStr T)  : ev 206 145 [(2, 130), (0, x1), (0, x2), (0, x3), (0, x4), (0, x5)] [] T V = ev 206 151 [(2, 130), (0, x1), (0, x2), (0, x3), (0, x4), (0, x5)] [] T (zwr V 130 26 x4) := by
  refine Eq.trans (ev_lda (show zcode 206 145 = some (6, 146, 0, 0, []) by decide +kernel) rfl (by decide)) ?_
  refine Eq.trans (ev_ldi (show zcode 206 146 = some (4, 148, 4, 0, []) by decide +kernel) rfl) ?_
  exact ev_pi (show zcode 206 148 = some (57, 151, 12, 26, []) by decide +kernel) (so130 hS)
theorem b206_151 {T : zT} {V : zM} {x1 : Int} {x2 : Int} {x3 : Int} {x4 : Int} {x5 : Int} (hS : zStr T)  : ev 206 151 [(2, 130), (0, x1), (0, x2), (0, x3), (0, x4), (0, x5)] [] T V = ev 206 157 [(2, 130), (0, x1), (0, x2), (0, x3), (0, x4), (0, x5)] [] T (zwr V 130 25 x5) := by
  refine Eq.trans (ev_lda (show zcode 206 151 = some (6, 152, 0, 0, []) by decide +kernel) rfl (by decide)) ?_
  refine Eq.trans (ev_ldi (show zcode 206 152 = some (4, 154, 5, 0, []) by decide +kernel) rfl) ?_
  exact ev_pi (show zcode 206 154 = some (57, 157, 12, 25, []) by decide +kernel) (so130 hS)
theorem b206_157 {T : zT} {V : zM} {x1 : Int} {x2 : Int} {x3 : Int} {x4 : Int} {x5 : Int} (h1 : -2147483648 ≤ (x4 + 1) ∧ (x4 + 1) ≤ 2147483647) : ev 206 157 [(2, 130), (0, x1), (0, x2), (0, x3), (0, x4), (0, x5)] [] T V = ev 206 41 [(2, 130), (0, x1), (0, x2), (0, x3), (0, (x4 + 1)), (0, x5)] [] T V := by
  refine Eq.trans (ev_inc (show zcode 206 157 = some (10, 160, 4, 1, []) by decide +kernel) rfl h1 (Or.inr (show ¬ (0 : Nat) = 1 by decide))) ?_
  exact ev_goto (show zcode 206 160 = some (53, 163, 41, 0, []) by decide +kernel)
theorem b206_163 {T : zT} {V : zM} {x1 : Int} {x2 : Int} {x3 : Int} {x4 : Int} {v5 : zV} : ev 206 163 [(2, 130), (0, x1), (0, x2), (0, x3), (0, x4), v5] [] T V = some ((9, 0), T, V) := by
  exact ev_rn (show zcode 206 163 = some (73, 164, 0, 0, []) by decide +kernel)
/-! 207: TwoWayWallModel.nearAt(I)I -/
theorem e207 {T : zT} {V : zM} {x1 : Int} : zcall 207 [(2, 130), (0, x1)] T V = ev 207 0 [(2, 130), (0, x1)] [] T V := rfl
theorem b207_0 {T : zT} {V : zM} {x1 : Int} (hS : zStr T)  : ev 207 0 [(2, 130), (0, x1)] [] T V = (zcall 205 [(2, 130)] T V).bind fun x => ev 207 4 [(2, 130), (0, x1)] (z_push x.1 []) x.2.1 x.2.2 := by
  refine Eq.trans (ev_lda (show zcode 207 0 = some (6, 1, 0, 0, []) by decide +kernel) rfl (by decide)) ?_
  exact ev_cvirt (show zcode 207 1 = some (76, 4, 205, 1, [12]) by decide +kernel) (args := []) (rest := []) rfl (so130 hS) rfl (show 0 ≤ 8 by decide) ⟨by decide, show 1 ≤ 1 by decide⟩
theorem b207_4 {T : zT} {V : zM} {x1 : Int} {y0 : Int} : ev 207 4 [(2, 130), (0, x1)] [(0, y0)] T V = if y0 = 0 then ev 207 25 [(2, 130), (0, x1)] [] T V else ev 207 7 [(2, 130), (0, x1)] [] T V := by
  exact ev_eq (show zcode 207 4 = some (40, 7, 25, 0, []) by decide +kernel)
theorem b207_7 {T : zT} {V : zM} {x1 : Int} (hS : zStr T) (h1 : -2147483648 ≤ ((V 132 364) - 1) ∧ ((V 132 364) - 1) ≤ 2147483647) : ev 207 7 [(2, 130), (0, x1)] [] T V = (zcall 150 [(0, x1), (0, 0), (0, ((V 132 364) - 1))] T V).bind fun x => ev 207 22 [(2, 130), (0, x1)] (z_push x.1 []) x.2.1 x.2.2 := by
  refine Eq.trans (ev_ldi (show zcode 207 7 = some (4, 8, 1, 0, []) by decide +kernel) rfl) ?_
  refine Eq.trans (ev_ci (show zcode 207 8 = some (0, 9, 0, 0, []) by decide +kernel) (by decide)) ?_
  refine Eq.trans (ev_lda (show zcode 207 9 = some (6, 10, 0, 0, []) by decide +kernel) rfl (by decide)) ?_
  refine Eq.trans (ev_gq (show zcode 207 10 = some (56, 13, 12, 4, []) by decide +kernel) (so130 hS) (sp130_4 hS)) ?_
  refine Eq.trans (ev_ci (show zcode 207 13 = some (0, 16, 0, 364, []) by decide +kernel) (by decide)) ?_
  refine Eq.trans (ev_ia (show zcode 207 16 = some (60, 17, 0, 0, []) by decide +kernel) (sa132 hS) (by decide)) ?_
  refine Eq.trans (ev_ci (show zcode 207 17 = some (0, 18, 0, 1, []) by decide +kernel) (by decide)) ?_
  refine Eq.trans (ev_sub (show zcode 207 18 = some (12, 19, 0, 0, []) by decide +kernel) h1) ?_
  exact ev_cstat (show zcode 207 19 = some (74, 22, 150, 3, []) by decide +kernel) (args := [(0, x1), (0, 0), (0, ((V 132 364) - 1))]) (rest := []) rfl rfl (show 0 ≤ 8 by decide) ⟨by decide, show 3 ≤ 3 by decide⟩
theorem b207_22 {T : zT} {V : zM} {x1 : Int} {y0 : Int} : ev 207 22 [(2, 130), (0, x1)] [(0, y0)] T V = if y0 = 0 then ev 207 25 [(2, 130), (0, x1)] [] T V else ev 207 27 [(2, 130), (0, x1)] [] T V := by
  exact ev_ne (show zcode 207 22 = some (41, 25, 27, 0, []) by decide +kernel)
theorem b207_25 {T : zT} {V : zM} {x1 : Int} : ev 207 25 [(2, 130), (0, x1)] [] T V = some ((0, (-1)), T, V) := by
  refine Eq.trans (ev_ci (show zcode 207 25 = some (0, 26, 0, (-1), []) by decide +kernel) (by decide)) ?_
  exact ev_ri (show zcode 207 26 = some (72, 27, 0, 0, []) by decide +kernel)
theorem b207_27 {T : zT} {V : zM} {x1 : Int} (hS : zStr T)  : ev 207 27 [(2, 130), (0, x1)] [] T V = (zcall 197 [(2, 130)] T V).bind fun x => ev 207 31 [(2, 130), (0, x1)] (z_push x.1 []) x.2.1 x.2.2 := by
  refine Eq.trans (ev_lda (show zcode 207 27 = some (6, 28, 0, 0, []) by decide +kernel) rfl (by decide)) ?_
  exact ev_cvirt (show zcode 207 28 = some (76, 31, 197, 1, [12]) by decide +kernel) (args := []) (rest := []) rfl (so130 hS) rfl (show 0 ≤ 8 by decide) ⟨by decide, show 1 ≤ 2 by decide⟩
theorem b207_31 {T : zT} {V : zM} {x1 : Int} (hS : zStr T)  : ev 207 31 [(2, 130), (0, x1)] [] T V = (zcall 206 [(2, 130), (0, x1)] T V).bind fun x => ev 207 36 [(2, 130), (0, x1)] (z_push x.1 []) x.2.1 x.2.2 := by
  refine Eq.trans (ev_lda (show zcode 207 31 = some (6, 32, 0, 0, []) by decide +kernel) rfl (by decide)) ?_
  refine Eq.trans (ev_ldi (show zcode 207 32 = some (4, 33, 1, 0, []) by decide +kernel) rfl) ?_
  exact ev_cvirt (show zcode 207 33 = some (76, 36, 206, 2, [12]) by decide +kernel) (args := [(0, x1)]) (rest := []) rfl (so130 hS) rfl (show 0 ≤ 8 by decide) ⟨by decide, show 2 ≤ 6 by decide⟩
theorem b207_36 {T : zT} {V : zM} {x1 : Int} (hS : zStr T)  : ev 207 36 [(2, 130), (0, x1)] [] T V = some ((0, (V 130 26)), T, V) := by
  refine Eq.trans (ev_lda (show zcode 207 36 = some (6, 37, 0, 0, []) by decide +kernel) rfl (by decide)) ?_
  refine Eq.trans (ev_gi (show zcode 207 37 = some (55, 40, 12, 26, []) by decide +kernel) (so130 hS)) ?_
  exact ev_ri (show zcode 207 40 = some (72, 41, 0, 0, []) by decide +kernel)
/-! 208: TwoWayWallModel.mean(II)I -/
theorem e208 {T : zT} {V : zM} {x1 : Int} {x2 : Int} : zcall 208 [(2, 130), (0, x1), (0, x2)] T V = ev 208 0 [(2, 130), (0, x1), (0, x2), (9, 0)] [] T V := rfl
theorem b208_0 {T : zT} {V : zM} {x1 : Int} {x2 : Int} : ev 208 0 [(2, 130), (0, x1), (0, x2), (9, 0)] [] T V = (zcall 183 [(0, x1)] T V).bind fun x => ev 208 4 [(2, 130), (0, x1), (0, x2), (9, 0)] (z_push x.1 []) x.2.1 x.2.2 := by
  refine Eq.trans (ev_ldi (show zcode 208 0 = some (4, 1, 1, 0, []) by decide +kernel) rfl) ?_
  exact ev_cstat (show zcode 208 1 = some (74, 4, 183, 1, []) by decide +kernel) (args := [(0, x1)]) (rest := []) rfl rfl (show 0 ≤ 8 by decide) ⟨by decide, show 1 ≤ 1 by decide⟩
theorem b208_4 {T : zT} {V : zM} {x1 : Int} {x2 : Int} {y0 : Int} : ev 208 4 [(2, 130), (0, x1), (0, x2), (9, 0)] [(0, y0)] T V = if y0 = 0 then ev 208 17 [(2, 130), (0, x1), (0, x2), (9, 0)] [] T V else ev 208 7 [(2, 130), (0, x1), (0, x2), (9, 0)] [] T V := by
  exact ev_eq (show zcode 208 4 = some (40, 7, 17, 0, []) by decide +kernel)
theorem b208_7 {T : zT} {V : zM} {x1 : Int} {x2 : Int} : ev 208 7 [(2, 130), (0, x1), (0, x2), (9, 0)] [] T V = (zcall 150 [(0, x2), (0, 0), (0, 7)] T V).bind fun x => ev 208 14 [(2, 130), (0, x1), (0, x2), (9, 0)] (z_push x.1 []) x.2.1 x.2.2 := by
  refine Eq.trans (ev_ldi (show zcode 208 7 = some (4, 8, 2, 0, []) by decide +kernel) rfl) ?_
  refine Eq.trans (ev_ci (show zcode 208 8 = some (0, 9, 0, 0, []) by decide +kernel) (by decide)) ?_
  refine Eq.trans (ev_ci (show zcode 208 9 = some (0, 11, 0, 7, []) by decide +kernel) (by decide)) ?_
  exact ev_cstat (show zcode 208 11 = some (74, 14, 150, 3, []) by decide +kernel) (args := [(0, x2), (0, 0), (0, 7)]) (rest := []) rfl rfl (show 0 ≤ 8 by decide) ⟨by decide, show 3 ≤ 3 by decide⟩
theorem b208_14 {T : zT} {V : zM} {x1 : Int} {x2 : Int} {y0 : Int} : ev 208 14 [(2, 130), (0, x1), (0, x2), (9, 0)] [(0, y0)] T V = if y0 = 0 then ev 208 17 [(2, 130), (0, x1), (0, x2), (9, 0)] [] T V else ev 208 23 [(2, 130), (0, x1), (0, x2), (9, 0)] [] T V := by
  exact ev_ne (show zcode 208 14 = some (41, 17, 23, 0, []) by decide +kernel)
theorem b208_17 {T : zT} {V : zM} {x1 : Int} {x2 : Int} (hS : zStr T)  : ev 208 17 [(2, 130), (0, x1), (0, x2), (9, 0)] [] T V = (zcall 151 [(2, 130), (0, (-1))] T V).bind fun x => ev 208 22 [(2, 130), (0, x1), (0, x2), (9, 0)] (z_push x.1 []) x.2.1 x.2.2 := by
  refine Eq.trans (ev_lda (show zcode 208 17 = some (6, 18, 0, 0, []) by decide +kernel) rfl (by decide)) ?_
  refine Eq.trans (ev_ci (show zcode 208 18 = some (0, 19, 0, (-1), []) by decide +kernel) (by decide)) ?_
  exact ev_cvirt (show zcode 208 19 = some (76, 22, 151, 2, [12]) by decide +kernel) (args := [(0, (-1))]) (rest := []) rfl (so130 hS) rfl (show 0 ≤ 8 by decide) ⟨by decide, show 2 ≤ 2 by decide⟩
theorem b208_22 {T : zT} {V : zM} {x1 : Int} {x2 : Int} {y0 : Int} : ev 208 22 [(2, 130), (0, x1), (0, x2), (9, 0)] [(0, y0)] T V = some ((0, y0), T, V) := by
  exact ev_ri (show zcode 208 22 = some (72, 23, 0, 0, []) by decide +kernel)
theorem b208_23 {T : zT} {V : zM} {x1 : Int} {x2 : Int} (hS : zStr T) (h1 : -2147483648 ≤ (374 + x1) ∧ (374 + x1) ≤ 2147483647) (h2 : (0 : Int) ≤ (374 + x1) ∧ (374 + x1) < 428) : ev 208 23 [(2, 130), (0, x1), (0, x2), (9, 0)] [] T V = if (V 132 (374 + x1)) = 4 then ev 208 39 [(2, 130), (0, x1), (0, x2), (0, (V 132 (374 + x1)))] [] T V else ev 208 46 [(2, 130), (0, x1), (0, x2), (0, (V 132 (374 + x1)))] [] T V := by
  refine Eq.trans (ev_lda (show zcode 208 23 = some (6, 24, 0, 0, []) by decide +kernel) rfl (by decide)) ?_
  refine Eq.trans (ev_gq (show zcode 208 24 = some (56, 27, 12, 4, []) by decide +kernel) (so130 hS) (sp130_4 hS)) ?_
  refine Eq.trans (ev_ci (show zcode 208 27 = some (0, 30, 0, 374, []) by decide +kernel) (by decide)) ?_
  refine Eq.trans (ev_ldi (show zcode 208 30 = some (4, 31, 1, 0, []) by decide +kernel) rfl) ?_
  refine Eq.trans (ev_add (show zcode 208 31 = some (11, 32, 0, 0, []) by decide +kernel) h1) ?_
  refine Eq.trans (ev_ia (show zcode 208 32 = some (60, 33, 0, 0, []) by decide +kernel) (sa132 hS) h2) ?_
  refine Eq.trans (ev_sti (show zcode 208 33 = some (7, 34, 3, 0, []) by decide +kernel) ⟨show 3 < 4 by decide, Or.inr (show ¬ (0 : Nat) = 1 by decide)⟩) ?_
  refine Eq.trans (ev_ldi (show zcode 208 34 = some (4, 35, 3, 0, []) by decide +kernel) rfl) ?_
  refine Eq.trans (ev_ci (show zcode 208 35 = some (0, 36, 0, 4, []) by decide +kernel) (by decide)) ?_
  exact ev_cne (show zcode 208 36 = some (47, 39, 46, 0, []) by decide +kernel)
theorem b208_39 {T : zT} {V : zM} {x1 : Int} {x2 : Int} {x3 : Int} (hS : zStr T)  : ev 208 39 [(2, 130), (0, x1), (0, x2), (0, x3)] [] T V = (zcall 151 [(2, 130), (0, (-5))] T V).bind fun x => ev 208 45 [(2, 130), (0, x1), (0, x2), (0, x3)] (z_push x.1 []) x.2.1 x.2.2 := by
  refine Eq.trans (ev_lda (show zcode 208 39 = some (6, 40, 0, 0, []) by decide +kernel) rfl (by decide)) ?_
  refine Eq.trans (ev_ci (show zcode 208 40 = some (0, 42, 0, (-5), []) by decide +kernel) (by decide)) ?_
  exact ev_cvirt (show zcode 208 42 = some (76, 45, 151, 2, [12]) by decide +kernel) (args := [(0, (-5))]) (rest := []) rfl (so130 hS) rfl (show 0 ≤ 8 by decide) ⟨by decide, show 2 ≤ 2 by decide⟩
theorem b208_45 {T : zT} {V : zM} {x1 : Int} {x2 : Int} {x3 : Int} {y0 : Int} : ev 208 45 [(2, 130), (0, x1), (0, x2), (0, x3)] [(0, y0)] T V = some ((0, y0), T, V) := by
  exact ev_ri (show zcode 208 45 = some (72, 46, 0, 0, []) by decide +kernel)
theorem b208_46 {T : zT} {V : zM} {x1 : Int} {x2 : Int} {x3 : Int} (hS : zStr T) (h1 : -2147483648 ≤ (4 * x1) ∧ (4 * x1) ≤ 2147483647) (h2 : -2147483648 ≤ (366 + (4 * x1)) ∧ (366 + (4 * x1)) ≤ 2147483647) (h3 : -2147483648 ≤ ((366 + (4 * x1)) + x3) ∧ ((366 + (4 * x1)) + x3) ≤ 2147483647) (h4 : (0 : Int) ≤ ((366 + (4 * x1)) + x3) ∧ ((366 + (4 * x1)) + x3) < 428) (h5 : -2147483648 ≤ (374 + x1) ∧ (374 + x1) ≤ 2147483647) (h6 : (0 : Int) ≤ (374 + x1) ∧ (374 + x1) < 428) (h7 : -2147483648 ≤ (((zwr V 132 ((366 + (4 * x1)) + x3) x2) 132 (374 + x1)) + 1) ∧ (((zwr V 132 ((366 + (4 * x1)) + x3) x2) 132 (374 + x1)) + 1) ≤ 2147483647) (h8 : -2147483648 ≤ (((zwr (zwr V 132 ((366 + (4 * x1)) + x3) x2) 132 (374 + x1) (((zwr V 132 ((366 + (4 * x1)) + x3) x2) 132 (374 + x1)) + 1)) 130 1) + 1) ∧ (((zwr (zwr V 132 ((366 + (4 * x1)) + x3) x2) 132 (374 + x1) (((zwr V 132 ((366 + (4 * x1)) + x3) x2) 132 (374 + x1)) + 1)) 130 1) + 1) ≤ 2147483647) (h9 : -2147483648 ≤ (x3 + 1) ∧ (x3 + 1) ≤ 2147483647) : ev 208 46 [(2, 130), (0, x1), (0, x2), (0, x3)] [] T V = (zcall 152 [(2, 130), (0, (x3 + 1))] T (zwr (zwr (zwr V 132 ((366 + (4 * x1)) + x3) x2) 132 (374 + x1) (((zwr V 132 ((366 + (4 * x1)) + x3) x2) 132 (374 + x1)) + 1)) 130 1 (((zwr (zwr V 132 ((366 + (4 * x1)) + x3) x2) 132 (374 + x1) (((zwr V 132 ((366 + (4 * x1)) + x3) x2) 132 (374 + x1)) + 1)) 130 1) + 1))).bind fun x => ev 208 92 [(2, 130), (0, x1), (0, x2), (0, x3)] (z_push x.1 []) x.2.1 x.2.2 := by
  refine Eq.trans (ev_lda (show zcode 208 46 = some (6, 47, 0, 0, []) by decide +kernel) rfl (by decide)) ?_
  refine Eq.trans (ev_gq (show zcode 208 47 = some (56, 50, 12, 4, []) by decide +kernel) (so130 hS) (sp130_4 hS)) ?_
  refine Eq.trans (ev_ci (show zcode 208 50 = some (0, 53, 0, 366, []) by decide +kernel) (by decide)) ?_
  refine Eq.trans (ev_ci (show zcode 208 53 = some (0, 54, 0, 4, []) by decide +kernel) (by decide)) ?_
  refine Eq.trans (ev_ldi (show zcode 208 54 = some (4, 55, 1, 0, []) by decide +kernel) rfl) ?_
  refine Eq.trans (ev_mul (show zcode 208 55 = some (13, 56, 0, 0, []) by decide +kernel) h1) ?_
  refine Eq.trans (ev_add (show zcode 208 56 = some (11, 57, 0, 0, []) by decide +kernel) h2) ?_
  refine Eq.trans (ev_ldi (show zcode 208 57 = some (4, 58, 3, 0, []) by decide +kernel) rfl) ?_
  refine Eq.trans (ev_add (show zcode 208 58 = some (11, 59, 0, 0, []) by decide +kernel) h3) ?_
  refine Eq.trans (ev_ldi (show zcode 208 59 = some (4, 60, 2, 0, []) by decide +kernel) rfl) ?_
  refine Eq.trans (ev_is (show zcode 208 60 = some (64, 61, 0, 0, []) by decide +kernel) (sa132 hS) h4) ?_
  refine Eq.trans (ev_lda (show zcode 208 61 = some (6, 62, 0, 0, []) by decide +kernel) rfl (by decide)) ?_
  refine Eq.trans (ev_gq (show zcode 208 62 = some (56, 65, 12, 4, []) by decide +kernel) (so130 hS) (sp130_4 hS)) ?_
  refine Eq.trans (ev_ci (show zcode 208 65 = some (0, 68, 0, 374, []) by decide +kernel) (by decide)) ?_
  refine Eq.trans (ev_ldi (show zcode 208 68 = some (4, 69, 1, 0, []) by decide +kernel) rfl) ?_
  refine Eq.trans (ev_add (show zcode 208 69 = some (11, 70, 0, 0, []) by decide +kernel) h5) ?_
  refine Eq.trans (ev_dup2 (show zcode 208 70 = some (38, 71, 0, 0, []) by decide +kernel) (by decide)) ?_
  refine Eq.trans (ev_ia (show zcode 208 71 = some (60, 72, 0, 0, []) by decide +kernel) (sa132 hS) h6) ?_
  refine Eq.trans (ev_ci (show zcode 208 72 = some (0, 73, 0, 1, []) by decide +kernel) (by decide)) ?_
  refine Eq.trans (ev_add (show zcode 208 73 = some (11, 74, 0, 0, []) by decide +kernel) h7) ?_
  refine Eq.trans (ev_is (show zcode 208 74 = some (64, 75, 0, 0, []) by decide +kernel) (sa132 hS) h6) ?_
  refine Eq.trans (ev_lda (show zcode 208 75 = some (6, 76, 0, 0, []) by decide +kernel) rfl (by decide)) ?_
  refine Eq.trans (ev_dup (show zcode 208 76 = some (36, 77, 0, 0, []) by decide +kernel) (by decide)) ?_
  refine Eq.trans (ev_gi (show zcode 208 77 = some (55, 80, 12, 1, []) by decide +kernel) (so130 hS)) ?_
  refine Eq.trans (ev_ci (show zcode 208 80 = some (0, 81, 0, 1, []) by decide +kernel) (by decide)) ?_
  refine Eq.trans (ev_add (show zcode 208 81 = some (11, 82, 0, 0, []) by decide +kernel) h8) ?_
  refine Eq.trans (ev_pi (show zcode 208 82 = some (57, 85, 12, 1, []) by decide +kernel) (so130 hS)) ?_
  refine Eq.trans (ev_lda (show zcode 208 85 = some (6, 86, 0, 0, []) by decide +kernel) rfl (by decide)) ?_
  refine Eq.trans (ev_ldi (show zcode 208 86 = some (4, 87, 3, 0, []) by decide +kernel) rfl) ?_
  refine Eq.trans (ev_ci (show zcode 208 87 = some (0, 88, 0, 1, []) by decide +kernel) (by decide)) ?_
  refine Eq.trans (ev_add (show zcode 208 88 = some (11, 89, 0, 0, []) by decide +kernel) h9) ?_
  exact ev_cvirt (show zcode 208 89 = some (76, 92, 152, 2, [12]) by decide +kernel) (args := [(0, (x3 + 1))]) (rest := []) rfl (so130 hS) rfl (show 0 ≤ 8 by decide) ⟨by decide, show 2 ≤ 2 by decide⟩
theorem b208_92 {T : zT} {V : zM} {x1 : Int} {x2 : Int} {x3 : Int} {y0 : Int} : ev 208 92 [(2, 130), (0, x1), (0, x2), (0, x3)] [(0, y0)] T V = some ((0, y0), T, V) := by
  exact ev_ri (show zcode 208 92 = some (72, 93, 0, 0, []) by decide +kernel)
/-! 209: TwoWayWallModel.forget(I)I -/
theorem e209 {T : zT} {V : zM} {x1 : Int} : zcall 209 [(2, 130), (0, x1)] T V = ev 209 0 [(2, 130), (0, x1), (9, 0)] [] T V := rfl
theorem b209_0 {T : zT} {V : zM} {x1 : Int} : ev 209 0 [(2, 130), (0, x1), (9, 0)] [] T V = (zcall 183 [(0, x1)] T V).bind fun x => ev 209 4 [(2, 130), (0, x1), (9, 0)] (z_push x.1 []) x.2.1 x.2.2 := by
  refine Eq.trans (ev_ldi (show zcode 209 0 = some (4, 1, 1, 0, []) by decide +kernel) rfl) ?_
  exact ev_cstat (show zcode 209 1 = some (74, 4, 183, 1, []) by decide +kernel) (args := [(0, x1)]) (rest := []) rfl rfl (show 0 ≤ 8 by decide) ⟨by decide, show 1 ≤ 1 by decide⟩
theorem b209_4 {T : zT} {V : zM} {x1 : Int} {y0 : Int} : ev 209 4 [(2, 130), (0, x1), (9, 0)] [(0, y0)] T V = if y0 = 0 then ev 209 7 [(2, 130), (0, x1), (9, 0)] [] T V else ev 209 13 [(2, 130), (0, x1), (9, 0)] [] T V := by
  exact ev_ne (show zcode 209 4 = some (41, 7, 13, 0, []) by decide +kernel)
theorem b209_7 {T : zT} {V : zM} {x1 : Int} (hS : zStr T)  : ev 209 7 [(2, 130), (0, x1), (9, 0)] [] T V = (zcall 151 [(2, 130), (0, (-1))] T V).bind fun x => ev 209 12 [(2, 130), (0, x1), (9, 0)] (z_push x.1 []) x.2.1 x.2.2 := by
  refine Eq.trans (ev_lda (show zcode 209 7 = some (6, 8, 0, 0, []) by decide +kernel) rfl (by decide)) ?_
  refine Eq.trans (ev_ci (show zcode 209 8 = some (0, 9, 0, (-1), []) by decide +kernel) (by decide)) ?_
  exact ev_cvirt (show zcode 209 9 = some (76, 12, 151, 2, [12]) by decide +kernel) (args := [(0, (-1))]) (rest := []) rfl (so130 hS) rfl (show 0 ≤ 8 by decide) ⟨by decide, show 2 ≤ 2 by decide⟩
theorem b209_12 {T : zT} {V : zM} {x1 : Int} {y0 : Int} : ev 209 12 [(2, 130), (0, x1), (9, 0)] [(0, y0)] T V = some ((0, y0), T, V) := by
  exact ev_ri (show zcode 209 12 = some (72, 13, 0, 0, []) by decide +kernel)
theorem b209_13 {T : zT} {V : zM} {x1 : Int} (hS : zStr T) (h1 : -2147483648 ≤ (374 + x1) ∧ (374 + x1) ≤ 2147483647) (h2 : (0 : Int) ≤ (374 + x1) ∧ (374 + x1) < 428) (h3 : -2147483648 ≤ (((zwr V 132 (374 + x1) 0) 130 1) + 1) ∧ (((zwr V 132 (374 + x1) 0) 130 1) + 1) ≤ 2147483647) : ev 209 13 [(2, 130), (0, x1), (9, 0)] [] T V = (zcall 152 [(2, 130), (0, (V 132 (374 + x1)))] T (zwr (zwr V 132 (374 + x1) 0) 130 1 (((zwr V 132 (374 + x1) 0) 130 1) + 1))).bind fun x => ev 209 50 [(2, 130), (0, x1), (0, (V 132 (374 + x1)))] (z_push x.1 []) x.2.1 x.2.2 := by
  refine Eq.trans (ev_lda (show zcode 209 13 = some (6, 14, 0, 0, []) by decide +kernel) rfl (by decide)) ?_
  refine Eq.trans (ev_gq (show zcode 209 14 = some (56, 17, 12, 4, []) by decide +kernel) (so130 hS) (sp130_4 hS)) ?_
  refine Eq.trans (ev_ci (show zcode 209 17 = some (0, 20, 0, 374, []) by decide +kernel) (by decide)) ?_
  refine Eq.trans (ev_ldi (show zcode 209 20 = some (4, 21, 1, 0, []) by decide +kernel) rfl) ?_
  refine Eq.trans (ev_add (show zcode 209 21 = some (11, 22, 0, 0, []) by decide +kernel) h1) ?_
  refine Eq.trans (ev_ia (show zcode 209 22 = some (60, 23, 0, 0, []) by decide +kernel) (sa132 hS) h2) ?_
  refine Eq.trans (ev_sti (show zcode 209 23 = some (7, 24, 2, 0, []) by decide +kernel) ⟨show 2 < 3 by decide, Or.inr (show ¬ (0 : Nat) = 1 by decide)⟩) ?_
  refine Eq.trans (ev_lda (show zcode 209 24 = some (6, 25, 0, 0, []) by decide +kernel) rfl (by decide)) ?_
  refine Eq.trans (ev_gq (show zcode 209 25 = some (56, 28, 12, 4, []) by decide +kernel) (so130 hS) (sp130_4 hS)) ?_
  refine Eq.trans (ev_ci (show zcode 209 28 = some (0, 31, 0, 374, []) by decide +kernel) (by decide)) ?_
  refine Eq.trans (ev_ldi (show zcode 209 31 = some (4, 32, 1, 0, []) by decide +kernel) rfl) ?_
  refine Eq.trans (ev_add (show zcode 209 32 = some (11, 33, 0, 0, []) by decide +kernel) h1) ?_
  refine Eq.trans (ev_ci (show zcode 209 33 = some (0, 34, 0, 0, []) by decide +kernel) (by decide)) ?_
  refine Eq.trans (ev_is (show zcode 209 34 = some (64, 35, 0, 0, []) by decide +kernel) (sa132 hS) h2) ?_
  refine Eq.trans (ev_lda (show zcode 209 35 = some (6, 36, 0, 0, []) by decide +kernel) rfl (by decide)) ?_
  refine Eq.trans (ev_dup (show zcode 209 36 = some (36, 37, 0, 0, []) by decide +kernel) (by decide)) ?_
  refine Eq.trans (ev_gi (show zcode 209 37 = some (55, 40, 12, 1, []) by decide +kernel) (so130 hS)) ?_
  refine Eq.trans (ev_ci (show zcode 209 40 = some (0, 41, 0, 1, []) by decide +kernel) (by decide)) ?_
  refine Eq.trans (ev_add (show zcode 209 41 = some (11, 42, 0, 0, []) by decide +kernel) h3) ?_
  refine Eq.trans (ev_pi (show zcode 209 42 = some (57, 45, 12, 1, []) by decide +kernel) (so130 hS)) ?_
  refine Eq.trans (ev_lda (show zcode 209 45 = some (6, 46, 0, 0, []) by decide +kernel) rfl (by decide)) ?_
  refine Eq.trans (ev_ldi (show zcode 209 46 = some (4, 47, 2, 0, []) by decide +kernel) rfl) ?_
  exact ev_cvirt (show zcode 209 47 = some (76, 50, 152, 2, [12]) by decide +kernel) (args := [(0, (V 132 (374 + x1)))]) (rest := []) rfl (so130 hS) rfl (show 0 ≤ 8 by decide) ⟨by decide, show 2 ≤ 2 by decide⟩
theorem b209_50 {T : zT} {V : zM} {x1 : Int} {x2 : Int} {y0 : Int} : ev 209 50 [(2, 130), (0, x1), (0, x2)] [(0, y0)] T V = some ((0, y0), T, V) := by
  exact ev_ri (show zcode 209 50 = some (72, 51, 0, 0, []) by decide +kernel)
/-! 210: TwoWayWallModel.tells()J -/
theorem e210 {T : zT} {V : zM}  : zcall 210 [(2, 130)] T V = ev 210 0 [(2, 130), (9, 0)] [] T V := rfl
theorem b210_0 {T : zT} {V : zM}  (hS : zStr T)  : ev 210 0 [(2, 130), (9, 0)] [] T V = (zcall 211 [(2, 130), (0, 0)] T V).bind fun x => ev 210 5 [(2, 130), (9, 0)] (z_push x.1 []) x.2.1 x.2.2 := by
  refine Eq.trans (ev_lda (show zcode 210 0 = some (6, 1, 0, 0, []) by decide +kernel) rfl (by decide)) ?_
  refine Eq.trans (ev_ci (show zcode 210 1 = some (0, 2, 0, 0, []) by decide +kernel) (by decide)) ?_
  exact ev_cvirt (show zcode 210 2 = some (76, 5, 211, 2, [12]) by decide +kernel) (args := [(0, 0)]) (rest := []) rfl (so130 hS) rfl (show 0 ≤ 8 by decide) ⟨by decide, show 2 ≤ 2 by decide⟩
theorem b210_5 {T : zT} {V : zM}  (hS : zStr T)  : ev 210 5 [(2, 130), (9, 0)] [] T V = (zcall 218 [(2, 130)] T V).bind fun x => ev 210 9 [(2, 130), (9, 0)] (z_push x.1 []) x.2.1 x.2.2 := by
  refine Eq.trans (ev_lda (show zcode 210 5 = some (6, 6, 0, 0, []) by decide +kernel) rfl (by decide)) ?_
  exact ev_cvirt (show zcode 210 6 = some (76, 9, 218, 1, [12]) by decide +kernel) (args := []) (rest := []) rfl (so130 hS) rfl (show 0 ≤ 8 by decide) ⟨by decide, show 1 ≤ 2 by decide⟩
theorem b210_9 {T : zT} {V : zM}  (hS : zStr T)  : ev 210 9 [(2, 130), (9, 0)] [] T V = (zcall 219 [(2, 130)] T V).bind fun x => ev 210 13 [(2, 130), (9, 0)] (z_push x.1 []) x.2.1 x.2.2 := by
  refine Eq.trans (ev_lda (show zcode 210 9 = some (6, 10, 0, 0, []) by decide +kernel) rfl (by decide)) ?_
  exact ev_cvirt (show zcode 210 10 = some (76, 13, 219, 1, [12]) by decide +kernel) (args := []) (rest := []) rfl (so130 hS) rfl (show 0 ≤ 8 by decide) ⟨by decide, show 1 ≤ 3 by decide⟩
theorem b210_13 {T : zT} {V : zM}  : ev 210 13 [(2, 130), (9, 0)] [] T V = ev 210 15 [(2, 130), (0, 0)] [] T V := by
  refine Eq.trans (ev_ci (show zcode 210 13 = some (0, 14, 0, 0, []) by decide +kernel) (by decide)) ?_
  exact ev_sti (show zcode 210 14 = some (7, 15, 1, 0, []) by decide +kernel) ⟨show 1 < 2 by decide, Or.inr (show ¬ (2 : Nat) = 1 by decide)⟩
theorem b210_15 {T : zT} {V : zM} {x1 : Int} (hS : zStr T)  : ev 210 15 [(2, 130), (0, x1)] [] T V = if (V 132 427) ≤ x1 then ev 210 37 [(2, 130), (0, x1)] [] T V else ev 210 27 [(2, 130), (0, x1)] [] T V := by
  refine Eq.trans (ev_ldi (show zcode 210 15 = some (4, 16, 1, 0, []) by decide +kernel) rfl) ?_
  refine Eq.trans (ev_lda (show zcode 210 16 = some (6, 17, 0, 0, []) by decide +kernel) rfl (by decide)) ?_
  refine Eq.trans (ev_gq (show zcode 210 17 = some (56, 20, 12, 4, []) by decide +kernel) (so130 hS) (sp130_4 hS)) ?_
  refine Eq.trans (ev_ci (show zcode 210 20 = some (0, 23, 0, 427, []) by decide +kernel) (by decide)) ?_
  refine Eq.trans (ev_ia (show zcode 210 23 = some (60, 24, 0, 0, []) by decide +kernel) (sa132 hS) (by decide)) ?_
  exact ev_cge (show zcode 210 24 = some (49, 27, 37, 0, []) by decide +kernel)
theorem b210_27 {T : zT} {V : zM} {x1 : Int} (hS : zStr T)  : ev 210 27 [(2, 130), (0, x1)] [] T V = (zcall 220 [(2, 130)] T V).bind fun x => ev 210 31 [(2, 130), (0, x1)] (z_push x.1 []) x.2.1 x.2.2 := by
  refine Eq.trans (ev_lda (show zcode 210 27 = some (6, 28, 0, 0, []) by decide +kernel) rfl (by decide)) ?_
  exact ev_cvirt (show zcode 210 28 = some (76, 31, 220, 1, [12]) by decide +kernel) (args := []) (rest := []) rfl (so130 hS) rfl (show 0 ≤ 8 by decide) ⟨by decide, show 1 ≤ 11 by decide⟩
theorem b210_31 {T : zT} {V : zM} {x1 : Int} (h1 : -2147483648 ≤ (x1 + 1) ∧ (x1 + 1) ≤ 2147483647) : ev 210 31 [(2, 130), (0, x1)] [] T V = ev 210 15 [(2, 130), (0, (x1 + 1))] [] T V := by
  refine Eq.trans (ev_inc (show zcode 210 31 = some (10, 34, 1, 1, []) by decide +kernel) rfl h1 (Or.inr (show ¬ (2 : Nat) = 1 by decide))) ?_
  exact ev_goto (show zcode 210 34 = some (53, 37, 15, 0, []) by decide +kernel)
theorem b210_37 {T : zT} {V : zM} {x1 : Int} (hS : zStr T)  : ev 210 37 [(2, 130), (0, x1)] [] T V = (zcall 222 [(2, 130)] T V).bind fun x => ev 210 41 [(2, 130), (0, x1)] (z_push x.1 []) x.2.1 x.2.2 := by
  refine Eq.trans (ev_lda (show zcode 210 37 = some (6, 38, 0, 0, []) by decide +kernel) rfl (by decide)) ?_
  exact ev_cvirt (show zcode 210 38 = some (76, 41, 222, 1, [12]) by decide +kernel) (args := []) (rest := []) rfl (so130 hS) rfl (show 0 ≤ 8 by decide) ⟨by decide, show 1 ≤ 5 by decide⟩
theorem b210_41 {T : zT} {V : zM} {x1 : Int} {y0 : Int} : ev 210 41 [(2, 130), (0, x1)] [(1, y0)] T V = some ((1, y0), T, V) := by
  exact ev_rl (show zcode 210 41 = some (72, 42, 1, 0, []) by decide +kernel)
/-! 211: TwoWayWallModel.laysStories(Z)V -/
theorem e211 {T : zT} {V : zM} {x1 : Int} : zcall 211 [(2, 130), (0, x1)] T V = ev 211 0 [(2, 130), (0, x1)] [] T V := rfl
theorem b211_0 {T : zT} {V : zM} {x1 : Int} (hS : zStr T) (h1 : (0 : Int) ≤ x1 ∧ x1 ≤ 1) : ev 211 0 [(2, 130), (0, x1)] [] T V = (zcall 212 [(2, 130), (0, 0)] T (zwr V 130 31 x1)).bind fun x => ev 211 10 [(2, 130), (0, x1)] (z_push x.1 []) x.2.1 x.2.2 := by
  refine Eq.trans (ev_lda (show zcode 211 0 = some (6, 1, 0, 0, []) by decide +kernel) rfl (by decide)) ?_
  refine Eq.trans (ev_ldi (show zcode 211 1 = some (4, 2, 1, 0, []) by decide +kernel) rfl) ?_
  refine Eq.trans (ev_pz (show zcode 211 2 = some (58, 5, 12, 31, []) by decide +kernel) (so130 hS) h1) ?_
  refine Eq.trans (ev_lda (show zcode 211 5 = some (6, 6, 0, 0, []) by decide +kernel) rfl (by decide)) ?_
  refine Eq.trans (ev_ci (show zcode 211 6 = some (0, 7, 0, 0, []) by decide +kernel) (by decide)) ?_
  exact ev_cvirt (show zcode 211 7 = some (76, 10, 212, 2, [12]) by decide +kernel) (args := [(0, 0)]) (rest := []) rfl (so130 hS) rfl (show 0 ≤ 8 by decide) ⟨by decide, show 2 ≤ 9 by decide⟩
theorem b211_10 {T : zT} {V : zM} {x1 : Int} (hS : zStr T)  : ev 211 10 [(2, 130), (0, x1)] [] T V = (zcall 212 [(2, 130), (0, 1)] T V).bind fun x => ev 211 15 [(2, 130), (0, x1)] (z_push x.1 []) x.2.1 x.2.2 := by
  refine Eq.trans (ev_lda (show zcode 211 10 = some (6, 11, 0, 0, []) by decide +kernel) rfl (by decide)) ?_
  refine Eq.trans (ev_ci (show zcode 211 11 = some (0, 12, 0, 1, []) by decide +kernel) (by decide)) ?_
  exact ev_cvirt (show zcode 211 12 = some (76, 15, 212, 2, [12]) by decide +kernel) (args := [(0, 1)]) (rest := []) rfl (so130 hS) rfl (show 0 ≤ 8 by decide) ⟨by decide, show 2 ≤ 9 by decide⟩
theorem b211_15 {T : zT} {V : zM} {x1 : Int} (hS : zStr T)  : ev 211 15 [(2, 130), (0, x1)] [] T V = (zcall 197 [(2, 130)] T V).bind fun x => ev 211 19 [(2, 130), (0, x1)] (z_push x.1 []) x.2.1 x.2.2 := by
  refine Eq.trans (ev_lda (show zcode 211 15 = some (6, 16, 0, 0, []) by decide +kernel) rfl (by decide)) ?_
  exact ev_cvirt (show zcode 211 16 = some (76, 19, 197, 1, [12]) by decide +kernel) (args := []) (rest := []) rfl (so130 hS) rfl (show 0 ≤ 8 by decide) ⟨by decide, show 1 ≤ 2 by decide⟩
theorem b211_19 {T : zT} {V : zM} {x1 : Int} : ev 211 19 [(2, 130), (0, x1)] [] T V = some ((9, 0), T, V) := by
  exact ev_rn (show zcode 211 19 = some (73, 20, 0, 0, []) by decide +kernel)
/-! 212: TwoWayWallModel.laysSteps(I)V -/
theorem e212 {T : zT} {V : zM} {x1 : Int} : zcall 212 [(2, 130), (0, x1)] T V = ev 212 0 [(2, 130), (0, x1), (9, 0), (9, 0), (9, 0), (9, 0), (9, 0), (9, 0), (9, 0)] [] T V := rfl
theorem b212_0 {T : zT} {V : zM} {x1 : Int} (hS : zStr T)  : ev 212 0 [(2, 130), (0, x1), (9, 0), (9, 0), (9, 0), (9, 0), (9, 0), (9, 0), (9, 0)] [] T V = if (V 130 31) = 0 then ev 212 11 [(2, 130), (0, x1), (9, 0), (9, 0), (9, 0), (9, 0), (9, 0), (9, 0), (9, 0)] [] T V else ev 212 7 [(2, 130), (0, x1), (9, 0), (9, 0), (9, 0), (9, 0), (9, 0), (9, 0), (9, 0)] [] T V := by
  refine Eq.trans (ev_lda (show zcode 212 0 = some (6, 1, 0, 0, []) by decide +kernel) rfl (by decide)) ?_
  refine Eq.trans (ev_gi (show zcode 212 1 = some (55, 4, 12, 31, []) by decide +kernel) (so130 hS)) ?_
  exact ev_eq (show zcode 212 4 = some (40, 7, 11, 0, []) by decide +kernel)
theorem b212_7 {T : zT} {V : zM} {x1 : Int} : ev 212 7 [(2, 130), (0, x1), (9, 0), (9, 0), (9, 0), (9, 0), (9, 0), (9, 0), (9, 0)] [] T V = ev 212 21 [(2, 130), (0, x1), (9, 0), (9, 0), (9, 0), (9, 0), (9, 0), (9, 0), (9, 0)] [(0, 1)] T V := by
  refine Eq.trans (ev_ci (show zcode 212 7 = some (0, 8, 0, 1, []) by decide +kernel) (by decide)) ?_
  exact ev_goto (show zcode 212 8 = some (53, 11, 21, 0, []) by decide +kernel)
theorem b212_11 {T : zT} {V : zM} {x1 : Int} (hS : zStr T) (h1 : -2147483648 ≤ (374 + x1) ∧ (374 + x1) ≤ 2147483647) (h2 : (0 : Int) ≤ (374 + x1) ∧ (374 + x1) < 428) : ev 212 11 [(2, 130), (0, x1), (9, 0), (9, 0), (9, 0), (9, 0), (9, 0), (9, 0), (9, 0)] [] T V = ev 212 21 [(2, 130), (0, x1), (9, 0), (9, 0), (9, 0), (9, 0), (9, 0), (9, 0), (9, 0)] [(0, (V 132 (374 + x1)))] T V := by
  refine Eq.trans (ev_lda (show zcode 212 11 = some (6, 12, 0, 0, []) by decide +kernel) rfl (by decide)) ?_
  refine Eq.trans (ev_gq (show zcode 212 12 = some (56, 15, 12, 4, []) by decide +kernel) (so130 hS) (sp130_4 hS)) ?_
  refine Eq.trans (ev_ci (show zcode 212 15 = some (0, 18, 0, 374, []) by decide +kernel) (by decide)) ?_
  refine Eq.trans (ev_ldi (show zcode 212 18 = some (4, 19, 1, 0, []) by decide +kernel) rfl) ?_
  refine Eq.trans (ev_add (show zcode 212 19 = some (11, 20, 0, 0, []) by decide +kernel) h1) ?_
  exact ev_ia (show zcode 212 20 = some (60, 21, 0, 0, []) by decide +kernel) (sa132 hS) h2
theorem b212_21 {T : zT} {V : zM} {x1 : Int} {y0 : Int} (hS : zStr T) (h1 : -2147483648 ≤ (224 * x1) ∧ (224 * x1) ≤ 2147483647) : ev 212 21 [(2, 130), (0, x1), (9, 0), (9, 0), (9, 0), (9, 0), (9, 0), (9, 0), (9, 0)] [(0, y0)] T V = if y0 = 0 then ev 212 39 [(2, 130), (0, x1), (0, y0), (0, (224 * x1)), (9, 0), (9, 0), (9, 0), (9, 0), (9, 0)] [(0, 56), (0, x1), (2, 147)] T V else ev 212 43 [(2, 130), (0, x1), (0, y0), (0, (224 * x1)), (9, 0), (9, 0), (9, 0), (9, 0), (9, 0)] [(0, 56), (0, x1), (2, 147)] T V := by
  refine Eq.trans (ev_sti (show zcode 212 21 = some (7, 22, 2, 0, []) by decide +kernel) ⟨show 2 < 9 by decide, Or.inr (show ¬ (0 : Nat) = 1 by decide)⟩) ?_
  refine Eq.trans (ev_ci (show zcode 212 22 = some (0, 25, 0, 224, []) by decide +kernel) (by decide)) ?_
  refine Eq.trans (ev_ldi (show zcode 212 25 = some (4, 26, 1, 0, []) by decide +kernel) rfl) ?_
  refine Eq.trans (ev_mul (show zcode 212 26 = some (13, 27, 0, 0, []) by decide +kernel) h1) ?_
  refine Eq.trans (ev_sti (show zcode 212 27 = some (7, 28, 3, 0, []) by decide +kernel) ⟨show 3 < 9 by decide, Or.inr (show ¬ (0 : Nat) = 1 by decide)⟩) ?_
  refine Eq.trans (ev_lda (show zcode 212 28 = some (6, 29, 0, 0, []) by decide +kernel) rfl (by decide)) ?_
  refine Eq.trans (ev_gq (show zcode 212 29 = some (56, 32, 12, 30, []) by decide +kernel) (so130 hS) (sp130_30 hS)) ?_
  refine Eq.trans (ev_ldi (show zcode 212 32 = some (4, 33, 1, 0, []) by decide +kernel) rfl) ?_
  refine Eq.trans (ev_ci (show zcode 212 33 = some (0, 35, 0, 56, []) by decide +kernel) (by decide)) ?_
  refine Eq.trans (ev_ldi (show zcode 212 35 = some (4, 36, 2, 0, []) by decide +kernel) rfl) ?_
  exact ev_ne (show zcode 212 36 = some (41, 39, 43, 0, []) by decide +kernel)
theorem b212_39 {T : zT} {V : zM} {x1 : Int} {x2 : Int} {x3 : Int} {y1 : Int} {y2 : Int} : ev 212 39 [(2, 130), (0, x1), (0, x2), (0, x3), (9, 0), (9, 0), (9, 0), (9, 0), (9, 0)] [(0, y2), (0, y1), (2, 147)] T V = ev 212 44 [(2, 130), (0, x1), (0, x2), (0, x3), (9, 0), (9, 0), (9, 0), (9, 0), (9, 0)] [(0, 1), (0, y2), (0, y1), (2, 147)] T V := by
  refine Eq.trans (ev_ci (show zcode 212 39 = some (0, 40, 0, 1, []) by decide +kernel) (by decide)) ?_
  exact ev_goto (show zcode 212 40 = some (53, 43, 44, 0, []) by decide +kernel)
theorem b212_43 {T : zT} {V : zM} {x1 : Int} {x2 : Int} {x3 : Int} {y1 : Int} {y2 : Int} : ev 212 43 [(2, 130), (0, x1), (0, x2), (0, x3), (9, 0), (9, 0), (9, 0), (9, 0), (9, 0)] [(0, y2), (0, y1), (2, 147)] T V = ev 212 44 [(2, 130), (0, x1), (0, x2), (0, x3), (9, 0), (9, 0), (9, 0), (9, 0), (9, 0)] [(0, x2), (0, y2), (0, y1), (2, 147)] T V := by
  exact ev_ldi (show zcode 212 43 = some (4, 44, 2, 0, []) by decide +kernel) rfl
theorem b212_44 {T : zT} {V : zM} {x1 : Int} {x2 : Int} {x3 : Int} {y1 : Int} {y2 : Int} {y3 : Int} (hS : zStr T) (h1 : -2147483648 ≤ (y2 * y3) ∧ (y2 * y3) ≤ 2147483647) (h2 : (0 : Int) ≤ y1 ∧ y1 < 2) : ev 212 44 [(2, 130), (0, x1), (0, x2), (0, x3), (9, 0), (9, 0), (9, 0), (9, 0), (9, 0)] [(0, y3), (0, y2), (0, y1), (2, 147)] T V = ev 212 49 [(2, 130), (0, x1), (0, x2), (0, x3), (0, 0), (9, 0), (9, 0), (9, 0), (9, 0)] [] T (zwr V 147 y1 (y2 * y3)) := by
  refine Eq.trans (ev_mul (show zcode 212 44 = some (13, 45, 0, 0, []) by decide +kernel) h1) ?_
  refine Eq.trans (ev_is (show zcode 212 45 = some (64, 46, 0, 0, []) by decide +kernel) (sa147 hS) h2) ?_
  refine Eq.trans (ev_ci (show zcode 212 46 = some (0, 47, 0, 0, []) by decide +kernel) (by decide)) ?_
  exact ev_sti (show zcode 212 47 = some (7, 49, 4, 0, []) by decide +kernel) ⟨show 4 < 9 by decide, Or.inr (show ¬ (0 : Nat) = 1 by decide)⟩
theorem b212_49 {T : zT} {V : zM} {x1 : Int} {x2 : Int} {x3 : Int} {x4 : Int} {v5 : zV} : ev 212 49 [(2, 130), (0, x1), (0, x2), (0, x3), (0, x4), v5, (9, 0), (9, 0), (9, 0)] [] T V = if 224 ≤ x4 then ev 212 105 [(2, 130), (0, x1), (0, x2), (0, x3), (0, x4), v5, (9, 0), (9, 0), (9, 0)] [] T V else ev 212 57 [(2, 130), (0, x1), (0, x2), (0, x3), (0, x4), v5, (9, 0), (9, 0), (9, 0)] [] T V := by
  refine Eq.trans (ev_ldi (show zcode 212 49 = some (4, 51, 4, 0, []) by decide +kernel) rfl) ?_
  refine Eq.trans (ev_ci (show zcode 212 51 = some (0, 54, 0, 224, []) by decide +kernel) (by decide)) ?_
  exact ev_cge (show zcode 212 54 = some (49, 57, 105, 0, []) by decide +kernel)
theorem b212_57 {T : zT} {V : zM} {x1 : Int} {x2 : Int} {x3 : Int} {x4 : Int} {v5 : zV} (hS : zStr T) (h1 : -2147483648 ≤ (x3 + x4) ∧ (x3 + x4) ≤ 2147483647) (h2 : (0 : Int) ≤ (x3 + x4) ∧ (x3 + x4) < 448) : ev 212 57 [(2, 130), (0, x1), (0, x2), (0, x3), (0, x4), v5, (9, 0), (9, 0), (9, 0)] [] T V = ev 212 70 [(2, 130), (0, x1), (0, x2), (0, x3), (0, x4), (0, 0), (9, 0), (9, 0), (9, 0)] [] T (zwr V 146 (x3 + x4) 0) := by
  refine Eq.trans (ev_lda (show zcode 212 57 = some (6, 58, 0, 0, []) by decide +kernel) rfl (by decide)) ?_
  refine Eq.trans (ev_gq (show zcode 212 58 = some (56, 61, 12, 29, []) by decide +kernel) (so130 hS) (sp130_29 hS)) ?_
  refine Eq.trans (ev_ldi (show zcode 212 61 = some (4, 62, 3, 0, []) by decide +kernel) rfl) ?_
  refine Eq.trans (ev_ldi (show zcode 212 62 = some (4, 64, 4, 0, []) by decide +kernel) rfl) ?_
  refine Eq.trans (ev_add (show zcode 212 64 = some (11, 65, 0, 0, []) by decide +kernel) h1) ?_
  refine Eq.trans (ev_ci (show zcode 212 65 = some (0, 66, 0, 0, []) by decide +kernel) (by decide)) ?_
  refine Eq.trans (ev_zs (show zcode 212 66 = some (66, 67, 0, 0, []) by decide +kernel) (sa146 hS) h2 (by decide)) ?_
  refine Eq.trans (ev_ci (show zcode 212 67 = some (0, 68, 0, 0, []) by decide +kernel) (by decide)) ?_
  exact ev_sti (show zcode 212 68 = some (7, 70, 5, 0, []) by decide +kernel) ⟨show 5 < 9 by decide, Or.inr (show ¬ (0 : Nat) = 1 by decide)⟩
theorem b212_70 {T : zT} {V : zM} {x1 : Int} {x2 : Int} {x3 : Int} {x4 : Int} {x5 : Int} : ev 212 70 [(2, 130), (0, x1), (0, x2), (0, x3), (0, x4), (0, x5), (9, 0), (9, 0), (9, 0)] [] T V = if 27 ≤ x5 then ev 212 99 [(2, 130), (0, x1), (0, x2), (0, x3), (0, x4), (0, x5), (9, 0), (9, 0), (9, 0)] [] T V else ev 212 77 [(2, 130), (0, x1), (0, x2), (0, x3), (0, x4), (0, x5), (9, 0), (9, 0), (9, 0)] [] T V := by
  refine Eq.trans (ev_ldi (show zcode 212 70 = some (4, 72, 5, 0, []) by decide +kernel) rfl) ?_
  refine Eq.trans (ev_ci (show zcode 212 72 = some (0, 74, 0, 27, []) by decide +kernel) (by decide)) ?_
  exact ev_cge (show zcode 212 74 = some (49, 77, 99, 0, []) by decide +kernel)
theorem b212_77 {T : zT} {V : zM} {x1 : Int} {x2 : Int} {x3 : Int} {x4 : Int} {x5 : Int} (hS : zStr T) (h1 : -2147483648 ≤ (x3 + x4) ∧ (x3 + x4) ≤ 2147483647) (h2 : -2147483648 ≤ ((x3 + x4) * 27) ∧ ((x3 + x4) * 27) ≤ 2147483647) (h3 : -2147483648 ≤ (((x3 + x4) * 27) + x5) ∧ (((x3 + x4) * 27) + x5) ≤ 2147483647) (h4 : (0 : Int) ≤ (((x3 + x4) * 27) + x5) ∧ (((x3 + x4) * 27) + x5) < 12096) (h5 : -2147483648 ≤ (x5 + 1) ∧ (x5 + 1) ≤ 2147483647) : ev 212 77 [(2, 130), (0, x1), (0, x2), (0, x3), (0, x4), (0, x5), (9, 0), (9, 0), (9, 0)] [] T V = ev 212 70 [(2, 130), (0, x1), (0, x2), (0, x3), (0, x4), (0, (x5 + 1)), (9, 0), (9, 0), (9, 0)] [] T (zwr V 145 (((x3 + x4) * 27) + x5) (-1)) := by
  refine Eq.trans (ev_lda (show zcode 212 77 = some (6, 78, 0, 0, []) by decide +kernel) rfl (by decide)) ?_
  refine Eq.trans (ev_gq (show zcode 212 78 = some (56, 81, 12, 28, []) by decide +kernel) (so130 hS) (sp130_28 hS)) ?_
  refine Eq.trans (ev_ldi (show zcode 212 81 = some (4, 82, 3, 0, []) by decide +kernel) rfl) ?_
  refine Eq.trans (ev_ldi (show zcode 212 82 = some (4, 84, 4, 0, []) by decide +kernel) rfl) ?_
  refine Eq.trans (ev_add (show zcode 212 84 = some (11, 85, 0, 0, []) by decide +kernel) h1) ?_
  refine Eq.trans (ev_ci (show zcode 212 85 = some (0, 87, 0, 27, []) by decide +kernel) (by decide)) ?_
  refine Eq.trans (ev_mul (show zcode 212 87 = some (13, 88, 0, 0, []) by decide +kernel) h2) ?_
  refine Eq.trans (ev_ldi (show zcode 212 88 = some (4, 90, 5, 0, []) by decide +kernel) rfl) ?_
  refine Eq.trans (ev_add (show zcode 212 90 = some (11, 91, 0, 0, []) by decide +kernel) h3) ?_
  refine Eq.trans (ev_ci (show zcode 212 91 = some (0, 92, 0, (-1), []) by decide +kernel) (by decide)) ?_
  refine Eq.trans (ev_is (show zcode 212 92 = some (64, 93, 0, 0, []) by decide +kernel) (sa145 hS) h4) ?_
  refine Eq.trans (ev_inc (show zcode 212 93 = some (10, 96, 5, 1, []) by decide +kernel) rfl h5 (Or.inr (show ¬ (0 : Nat) = 1 by decide))) ?_
  exact ev_goto (show zcode 212 96 = some (53, 99, 70, 0, []) by decide +kernel)
theorem b212_99 {T : zT} {V : zM} {x1 : Int} {x2 : Int} {x3 : Int} {x4 : Int} {x5 : Int} (h1 : -2147483648 ≤ (x4 + 1) ∧ (x4 + 1) ≤ 2147483647) : ev 212 99 [(2, 130), (0, x1), (0, x2), (0, x3), (0, x4), (0, x5), (9, 0), (9, 0), (9, 0)] [] T V = ev 212 49 [(2, 130), (0, x1), (0, x2), (0, x3), (0, (x4 + 1)), (0, x5), (9, 0), (9, 0), (9, 0)] [] T V := by
  refine Eq.trans (ev_inc (show zcode 212 99 = some (10, 102, 4, 1, []) by decide +kernel) rfl h1 (Or.inr (show ¬ (0 : Nat) = 1 by decide))) ?_
  exact ev_goto (show zcode 212 102 = some (53, 105, 49, 0, []) by decide +kernel)
theorem b212_105 {T : zT} {V : zM} {x1 : Int} {x2 : Int} {x3 : Int} {x4 : Int} {v5 : zV} : ev 212 105 [(2, 130), (0, x1), (0, x2), (0, x3), (0, x4), v5, (9, 0), (9, 0), (9, 0)] [] T V = if x2 = 0 then ev 212 109 [(2, 130), (0, x1), (0, x2), (0, x3), (0, x4), v5, (9, 0), (9, 0), (9, 0)] [] T V else ev 212 129 [(2, 130), (0, x1), (0, x2), (0, x3), (0, x4), v5, (9, 0), (9, 0), (9, 0)] [] T V := by
  refine Eq.trans (ev_ldi (show zcode 212 105 = some (4, 106, 2, 0, []) by decide +kernel) rfl) ?_
  exact ev_ne (show zcode 212 106 = some (41, 109, 129, 0, []) by decide +kernel)
theorem b212_109 {T : zT} {V : zM} {x1 : Int} {x2 : Int} {x3 : Int} {x4 : Int} {v5 : zV} (hS : zStr T) (h1 : (0 : Int) ≤ x3 ∧ x3 < 448) (h2 : -2147483648 ≤ (x3 * 27) ∧ (x3 * 27) ≤ 2147483647) (h3 : -2147483648 ≤ ((x3 * 27) + 26) ∧ ((x3 * 27) + 26) ≤ 2147483647) (h4 : (0 : Int) ≤ ((x3 * 27) + 26) ∧ ((x3 * 27) + 26) < 12096) : ev 212 109 [(2, 130), (0, x1), (0, x2), (0, x3), (0, x4), v5, (9, 0), (9, 0), (9, 0)] [] T V = ev 212 129 [(2, 130), (0, x1), (0, x2), (0, x3), (0, x4), v5, (9, 0), (9, 0), (9, 0)] [] T (zwr (zwr V 146 x3 1) 145 ((x3 * 27) + 26) 0) := by
  refine Eq.trans (ev_lda (show zcode 212 109 = some (6, 110, 0, 0, []) by decide +kernel) rfl (by decide)) ?_
  refine Eq.trans (ev_gq (show zcode 212 110 = some (56, 113, 12, 29, []) by decide +kernel) (so130 hS) (sp130_29 hS)) ?_
  refine Eq.trans (ev_ldi (show zcode 212 113 = some (4, 114, 3, 0, []) by decide +kernel) rfl) ?_
  refine Eq.trans (ev_ci (show zcode 212 114 = some (0, 115, 0, 1, []) by decide +kernel) (by decide)) ?_
  refine Eq.trans (ev_zs (show zcode 212 115 = some (66, 116, 0, 0, []) by decide +kernel) (sa146 hS) h1 (by decide)) ?_
  refine Eq.trans (ev_lda (show zcode 212 116 = some (6, 117, 0, 0, []) by decide +kernel) rfl (by decide)) ?_
  refine Eq.trans (ev_gq (show zcode 212 117 = some (56, 120, 12, 28, []) by decide +kernel) (so130 hS) (sp130_28 hS)) ?_
  refine Eq.trans (ev_ldi (show zcode 212 120 = some (4, 121, 3, 0, []) by decide +kernel) rfl) ?_
  refine Eq.trans (ev_ci (show zcode 212 121 = some (0, 123, 0, 27, []) by decide +kernel) (by decide)) ?_
  refine Eq.trans (ev_mul (show zcode 212 123 = some (13, 124, 0, 0, []) by decide +kernel) h2) ?_
  refine Eq.trans (ev_ci (show zcode 212 124 = some (0, 126, 0, 26, []) by decide +kernel) (by decide)) ?_
  refine Eq.trans (ev_add (show zcode 212 126 = some (11, 127, 0, 0, []) by decide +kernel) h3) ?_
  refine Eq.trans (ev_ci (show zcode 212 127 = some (0, 128, 0, 0, []) by decide +kernel) (by decide)) ?_
  exact ev_is (show zcode 212 128 = some (64, 129, 0, 0, []) by decide +kernel) (sa145 hS) h4
theorem b212_129 {T : zT} {V : zM} {x1 : Int} {x2 : Int} {x3 : Int} {x4 : Int} {v5 : zV} : ev 212 129 [(2, 130), (0, x1), (0, x2), (0, x3), (0, x4), v5, (9, 0), (9, 0), (9, 0)] [] T V = ev 212 132 [(2, 130), (0, x1), (0, x2), (0, x3), (0, 0), v5, (9, 0), (9, 0), (9, 0)] [] T V := by
  refine Eq.trans (ev_ci (show zcode 212 129 = some (0, 130, 0, 0, []) by decide +kernel) (by decide)) ?_
  exact ev_sti (show zcode 212 130 = some (7, 132, 4, 0, []) by decide +kernel) ⟨show 4 < 9 by decide, Or.inr (show ¬ (0 : Nat) = 1 by decide)⟩
theorem b212_132 {T : zT} {V : zM} {x1 : Int} {x2 : Int} {x3 : Int} {x4 : Int} {v5 : zV} {v6 : zV} {v7 : zV} {v8 : zV} : ev 212 132 [(2, 130), (0, x1), (0, x2), (0, x3), (0, x4), v5, v6, v7, v8] [] T V = if x2 ≤ x4 then ev 212 385 [(2, 130), (0, x1), (0, x2), (0, x3), (0, x4), v5, v6, v7, v8] [] T V else ev 212 138 [(2, 130), (0, x1), (0, x2), (0, x3), (0, x4), v5, v6, v7, v8] [] T V := by
  refine Eq.trans (ev_ldi (show zcode 212 132 = some (4, 134, 4, 0, []) by decide +kernel) rfl) ?_
  refine Eq.trans (ev_ldi (show zcode 212 134 = some (4, 135, 2, 0, []) by decide +kernel) rfl) ?_
  exact ev_cge (show zcode 212 135 = some (49, 138, 385, 0, []) by decide +kernel)
theorem b212_138 {T : zT} {V : zM} {x1 : Int} {x2 : Int} {x3 : Int} {x4 : Int} {v5 : zV} {v6 : zV} {v7 : zV} {v8 : zV} : ev 212 138 [(2, 130), (0, x1), (0, x2), (0, x3), (0, x4), v5, v6, v7, v8] [] T V = ev 212 141 [(2, 130), (0, x1), (0, x2), (0, x3), (0, x4), (0, 0), v6, v7, v8] [] T V := by
  refine Eq.trans (ev_ci (show zcode 212 138 = some (0, 139, 0, 0, []) by decide +kernel) (by decide)) ?_
  exact ev_sti (show zcode 212 139 = some (7, 141, 5, 0, []) by decide +kernel) ⟨show 5 < 9 by decide, Or.inr (show ¬ (0 : Nat) = 1 by decide)⟩
theorem b212_141 {T : zT} {V : zM} {x1 : Int} {x2 : Int} {x3 : Int} {x4 : Int} {x5 : Int} {v6 : zV} {v7 : zV} {v8 : zV} : ev 212 141 [(2, 130), (0, x1), (0, x2), (0, x3), (0, x4), (0, x5), v6, v7, v8] [] T V = if 6 < x5 then ev 212 379 [(2, 130), (0, x1), (0, x2), (0, x3), (0, x4), (0, x5), v6, v7, v8] [] T V else ev 212 148 [(2, 130), (0, x1), (0, x2), (0, x3), (0, x4), (0, x5), v6, v7, v8] [] T V := by
  refine Eq.trans (ev_ldi (show zcode 212 141 = some (4, 143, 5, 0, []) by decide +kernel) rfl) ?_
  refine Eq.trans (ev_ci (show zcode 212 143 = some (0, 145, 0, 6, []) by decide +kernel) (by decide)) ?_
  exact ev_cgt (show zcode 212 145 = some (50, 148, 379, 0, []) by decide +kernel)
theorem b212_148 {T : zT} {V : zM} {x1 : Int} {x2 : Int} {x3 : Int} {x4 : Int} {x5 : Int} {v6 : zV} {v7 : zV} {v8 : zV} : ev 212 148 [(2, 130), (0, x1), (0, x2), (0, x3), (0, x4), (0, x5), v6, v7, v8] [] T V = ev 212 151 [(2, 130), (0, x1), (0, x2), (0, x3), (0, x4), (0, x5), (0, 0), v7, v8] [] T V := by
  refine Eq.trans (ev_ci (show zcode 212 148 = some (0, 149, 0, 0, []) by decide +kernel) (by decide)) ?_
  exact ev_sti (show zcode 212 149 = some (7, 151, 6, 0, []) by decide +kernel) ⟨show 6 < 9 by decide, Or.inr (show ¬ (0 : Nat) = 1 by decide)⟩
theorem b212_151 {T : zT} {V : zM} {x1 : Int} {x2 : Int} {x3 : Int} {x4 : Int} {x5 : Int} {x6 : Int} {v7 : zV} {v8 : zV} : ev 212 151 [(2, 130), (0, x1), (0, x2), (0, x3), (0, x4), (0, x5), (0, x6), v7, v8] [] T V = if x5 = 0 then ev 212 158 [(2, 130), (0, x1), (0, x2), (0, x3), (0, x4), (0, x5), (0, x6), v7, v8] [(0, x6)] T V else ev 212 162 [(2, 130), (0, x1), (0, x2), (0, x3), (0, x4), (0, x5), (0, x6), v7, v8] [(0, x6)] T V := by
  refine Eq.trans (ev_ldi (show zcode 212 151 = some (4, 153, 6, 0, []) by decide +kernel) rfl) ?_
  refine Eq.trans (ev_ldi (show zcode 212 153 = some (4, 155, 5, 0, []) by decide +kernel) rfl) ?_
  exact ev_ne (show zcode 212 155 = some (41, 158, 162, 0, []) by decide +kernel)
theorem b212_158 {T : zT} {V : zM} {x1 : Int} {x2 : Int} {x3 : Int} {x4 : Int} {x5 : Int} {x6 : Int} {v7 : zV} {v8 : zV} {y0 : Int} : ev 212 158 [(2, 130), (0, x1), (0, x2), (0, x3), (0, x4), (0, x5), (0, x6), v7, v8] [(0, y0)] T V = ev 212 172 [(2, 130), (0, x1), (0, x2), (0, x3), (0, x4), (0, x5), (0, x6), v7, v8] [(0, 1), (0, y0)] T V := by
  refine Eq.trans (ev_ci (show zcode 212 158 = some (0, 159, 0, 1, []) by decide +kernel) (by decide)) ?_
  exact ev_goto (show zcode 212 159 = some (53, 162, 172, 0, []) by decide +kernel)
theorem b212_162 {T : zT} {V : zM} {x1 : Int} {x2 : Int} {x3 : Int} {x4 : Int} {x5 : Int} {x6 : Int} {v7 : zV} {v8 : zV} {y0 : Int} (hS : zStr T) (h1 : -2147483648 ≤ (284 + x1) ∧ (284 + x1) ≤ 2147483647) (h2 : (0 : Int) ≤ (284 + x1) ∧ (284 + x1) < 428) : ev 212 162 [(2, 130), (0, x1), (0, x2), (0, x3), (0, x4), (0, x5), (0, x6), v7, v8] [(0, y0)] T V = ev 212 172 [(2, 130), (0, x1), (0, x2), (0, x3), (0, x4), (0, x5), (0, x6), v7, v8] [(0, (V 132 (284 + x1))), (0, y0)] T V := by
  refine Eq.trans (ev_lda (show zcode 212 162 = some (6, 163, 0, 0, []) by decide +kernel) rfl (by decide)) ?_
  refine Eq.trans (ev_gq (show zcode 212 163 = some (56, 166, 12, 4, []) by decide +kernel) (so130 hS) (sp130_4 hS)) ?_
  refine Eq.trans (ev_ci (show zcode 212 166 = some (0, 169, 0, 284, []) by decide +kernel) (by decide)) ?_
  refine Eq.trans (ev_ldi (show zcode 212 169 = some (4, 170, 1, 0, []) by decide +kernel) rfl) ?_
  refine Eq.trans (ev_add (show zcode 212 170 = some (11, 171, 0, 0, []) by decide +kernel) h1) ?_
  exact ev_ia (show zcode 212 171 = some (60, 172, 0, 0, []) by decide +kernel) (sa132 hS) h2
theorem b212_172 {T : zT} {V : zM} {x1 : Int} {x2 : Int} {x3 : Int} {x4 : Int} {x5 : Int} {x6 : Int} {v7 : zV} {v8 : zV} {y0 : Int} {y1 : Int} : ev 212 172 [(2, 130), (0, x1), (0, x2), (0, x3), (0, x4), (0, x5), (0, x6), v7, v8] [(0, y1), (0, y0)] T V = if y1 ≤ y0 then ev 212 373 [(2, 130), (0, x1), (0, x2), (0, x3), (0, x4), (0, x5), (0, x6), v7, v8] [] T V else ev 212 175 [(2, 130), (0, x1), (0, x2), (0, x3), (0, x4), (0, x5), (0, x6), v7, v8] [] T V := by
  exact ev_cge (show zcode 212 172 = some (49, 175, 373, 0, []) by decide +kernel)
theorem b212_175 {T : zT} {V : zM} {x1 : Int} {x2 : Int} {x3 : Int} {x4 : Int} {x5 : Int} {x6 : Int} {v7 : zV} {v8 : zV} : ev 212 175 [(2, 130), (0, x1), (0, x2), (0, x3), (0, x4), (0, x5), (0, x6), v7, v8] [] T V = (zcall 213 [(0, x4), (0, x5), (0, x6)] T V).bind fun x => ev 212 185 [(2, 130), (0, x1), (0, x2), (0, x3), (0, x4), (0, x5), (0, x6), v7, v8] (z_push x.1 [(0, x3)]) x.2.1 x.2.2 := by
  refine Eq.trans (ev_ldi (show zcode 212 175 = some (4, 176, 3, 0, []) by decide +kernel) rfl) ?_
  refine Eq.trans (ev_ldi (show zcode 212 176 = some (4, 178, 4, 0, []) by decide +kernel) rfl) ?_
  refine Eq.trans (ev_ldi (show zcode 212 178 = some (4, 180, 5, 0, []) by decide +kernel) rfl) ?_
  refine Eq.trans (ev_ldi (show zcode 212 180 = some (4, 182, 6, 0, []) by decide +kernel) rfl) ?_
  exact ev_cstat (show zcode 212 182 = some (74, 185, 213, 3, []) by decide +kernel) (args := [(0, x4), (0, x5), (0, x6)]) (rest := [(0, x3)]) rfl rfl (show 1 ≤ 8 by decide) ⟨by decide, show 3 ≤ 3 by decide⟩
theorem b212_185 {T : zT} {V : zM} {x1 : Int} {x2 : Int} {x3 : Int} {x4 : Int} {x5 : Int} {x6 : Int} {v7 : zV} {v8 : zV} {y0 : Int} {y1 : Int} (hS : zStr T) (h1 : -2147483648 ≤ (y0 + y1) ∧ (y0 + y1) ≤ 2147483647) : ev 212 185 [(2, 130), (0, x1), (0, x2), (0, x3), (0, x4), (0, x5), (0, x6), v7, v8] [(0, y1), (0, y0)] T V = (zcall 214 [(2, 130), (0, x1), (0, x4), (0, x5), (0, x6)] T V).bind fun x => ev 212 199 [(2, 130), (0, x1), (0, x2), (0, x3), (0, x4), (0, x5), (0, x6), (0, (y0 + y1)), v8] (z_push x.1 []) x.2.1 x.2.2 := by
  refine Eq.trans (ev_add (show zcode 212 185 = some (11, 186, 0, 0, []) by decide +kernel) h1) ?_
  refine Eq.trans (ev_sti (show zcode 212 186 = some (7, 188, 7, 0, []) by decide +kernel) ⟨show 7 < 9 by decide, Or.inr (show ¬ (0 : Nat) = 1 by decide)⟩) ?_
  refine Eq.trans (ev_lda (show zcode 212 188 = some (6, 189, 0, 0, []) by decide +kernel) rfl (by decide)) ?_
  refine Eq.trans (ev_ldi (show zcode 212 189 = some (4, 190, 1, 0, []) by decide +kernel) rfl) ?_
  refine Eq.trans (ev_ldi (show zcode 212 190 = some (4, 192, 4, 0, []) by decide +kernel) rfl) ?_
  refine Eq.trans (ev_ldi (show zcode 212 192 = some (4, 194, 5, 0, []) by decide +kernel) rfl) ?_
  refine Eq.trans (ev_ldi (show zcode 212 194 = some (4, 196, 6, 0, []) by decide +kernel) rfl) ?_
  exact ev_cvirt (show zcode 212 196 = some (76, 199, 214, 5, [12]) by decide +kernel) (args := [(0, x1), (0, x4), (0, x5), (0, x6)]) (rest := []) rfl (so130 hS) rfl (show 0 ≤ 8 by decide) ⟨by decide, show 5 ≤ 6 by decide⟩
theorem b212_199 {T : zT} {V : zM} {x1 : Int} {x2 : Int} {x3 : Int} {x4 : Int} {x5 : Int} {x6 : Int} {x7 : Int} {v8 : zV} {y0 : Int} : ev 212 199 [(2, 130), (0, x1), (0, x2), (0, x3), (0, x4), (0, x5), (0, x6), (0, x7), v8] [(0, y0)] T V = if y0 = 0 then ev 212 267 [(2, 130), (0, x1), (0, x2), (0, x3), (0, x4), (0, x5), (0, x6), (0, x7), v8] [] T V else ev 212 202 [(2, 130), (0, x1), (0, x2), (0, x3), (0, x4), (0, x5), (0, x6), (0, x7), v8] [] T V := by
  exact ev_eq (show zcode 212 199 = some (40, 202, 267, 0, []) by decide +kernel)
theorem b212_202 {T : zT} {V : zM} {x1 : Int} {x2 : Int} {x3 : Int} {x4 : Int} {x5 : Int} {x6 : Int} {x7 : Int} {v8 : zV} (hS : zStr T) (h1 : -2147483648 ≤ (x2 - 1) ∧ (x2 - 1) ≤ 2147483647) : ev 212 202 [(2, 130), (0, x1), (0, x2), (0, x3), (0, x4), (0, x5), (0, x6), (0, x7), v8] [] T V = if x4 = (x2 - 1) then ev 212 216 [(2, 130), (0, x1), (0, x2), (0, x3), (0, x4), (0, x5), (0, x6), (0, x7), v8] [(0, x7), (2, 146)] T V else ev 212 220 [(2, 130), (0, x1), (0, x2), (0, x3), (0, x4), (0, x5), (0, x6), (0, x7), v8] [(0, x7), (2, 146)] T V := by
  refine Eq.trans (ev_lda (show zcode 212 202 = some (6, 203, 0, 0, []) by decide +kernel) rfl (by decide)) ?_
  refine Eq.trans (ev_gq (show zcode 212 203 = some (56, 206, 12, 29, []) by decide +kernel) (so130 hS) (sp130_29 hS)) ?_
  refine Eq.trans (ev_ldi (show zcode 212 206 = some (4, 208, 7, 0, []) by decide +kernel) rfl) ?_
  refine Eq.trans (ev_ldi (show zcode 212 208 = some (4, 210, 4, 0, []) by decide +kernel) rfl) ?_
  refine Eq.trans (ev_ldi (show zcode 212 210 = some (4, 211, 2, 0, []) by decide +kernel) rfl) ?_
  refine Eq.trans (ev_ci (show zcode 212 211 = some (0, 212, 0, 1, []) by decide +kernel) (by decide)) ?_
  refine Eq.trans (ev_sub (show zcode 212 212 = some (12, 213, 0, 0, []) by decide +kernel) h1) ?_
  exact ev_cne (show zcode 212 213 = some (47, 216, 220, 0, []) by decide +kernel)
theorem b212_216 {T : zT} {V : zM} {x1 : Int} {x2 : Int} {x3 : Int} {x4 : Int} {x5 : Int} {x6 : Int} {x7 : Int} {v8 : zV} {y1 : Int} : ev 212 216 [(2, 130), (0, x1), (0, x2), (0, x3), (0, x4), (0, x5), (0, x6), (0, x7), v8] [(0, y1), (2, 146)] T V = ev 212 221 [(2, 130), (0, x1), (0, x2), (0, x3), (0, x4), (0, x5), (0, x6), (0, x7), v8] [(0, 1), (0, y1), (2, 146)] T V := by
  refine Eq.trans (ev_ci (show zcode 212 216 = some (0, 217, 0, 1, []) by decide +kernel) (by decide)) ?_
  exact ev_goto (show zcode 212 217 = some (53, 220, 221, 0, []) by decide +kernel)
theorem b212_220 {T : zT} {V : zM} {x1 : Int} {x2 : Int} {x3 : Int} {x4 : Int} {x5 : Int} {x6 : Int} {x7 : Int} {v8 : zV} {y1 : Int} : ev 212 220 [(2, 130), (0, x1), (0, x2), (0, x3), (0, x4), (0, x5), (0, x6), (0, x7), v8] [(0, y1), (2, 146)] T V = ev 212 221 [(2, 130), (0, x1), (0, x2), (0, x3), (0, x4), (0, x5), (0, x6), (0, x7), v8] [(0, 0), (0, y1), (2, 146)] T V := by
  exact ev_ci (show zcode 212 220 = some (0, 221, 0, 0, []) by decide +kernel) (by decide)
theorem b212_221 {T : zT} {V : zM} {x1 : Int} {x2 : Int} {x3 : Int} {x4 : Int} {x5 : Int} {x6 : Int} {x7 : Int} {v8 : zV} {y1 : Int} {y2 : Int} (hS : zStr T) (h1 : (0 : Int) ≤ y1 ∧ y1 < 448) (h2 : (0 : Int) ≤ y2 ∧ y2 ≤ 1) (h3 : -2147483648 ≤ (x7 * 27) ∧ (x7 * 27) ≤ 2147483647) (h4 : -2147483648 ≤ ((x7 * 27) + 26) ∧ ((x7 * 27) + 26) ≤ 2147483647) : ev 212 221 [(2, 130), (0, x1), (0, x2), (0, x3), (0, x4), (0, x5), (0, x6), (0, x7), v8] [(0, y2), (0, y1), (2, 146)] T V = if ((zwr V 146 y1 y2) 130 31) = 0 then ev 212 245 [(2, 130), (0, x1), (0, x2), (0, x3), (0, x4), (0, x5), (0, x6), (0, x7), v8] [(0, ((x7 * 27) + 26)), (2, 145)] T (zwr V 146 y1 y2) else ev 212 241 [(2, 130), (0, x1), (0, x2), (0, x3), (0, x4), (0, x5), (0, x6), (0, x7), v8] [(0, ((x7 * 27) + 26)), (2, 145)] T (zwr V 146 y1 y2) := by
  refine Eq.trans (ev_zs (show zcode 212 221 = some (66, 222, 0, 0, []) by decide +kernel) (sa146 hS) h1 h2) ?_
  refine Eq.trans (ev_lda (show zcode 212 222 = some (6, 223, 0, 0, []) by decide +kernel) rfl (by decide)) ?_
  refine Eq.trans (ev_gq (show zcode 212 223 = some (56, 226, 12, 28, []) by decide +kernel) (so130 hS) (sp130_28 hS)) ?_
  refine Eq.trans (ev_ldi (show zcode 212 226 = some (4, 228, 7, 0, []) by decide +kernel) rfl) ?_
  refine Eq.trans (ev_ci (show zcode 212 228 = some (0, 230, 0, 27, []) by decide +kernel) (by decide)) ?_
  refine Eq.trans (ev_mul (show zcode 212 230 = some (13, 231, 0, 0, []) by decide +kernel) h3) ?_
  refine Eq.trans (ev_ci (show zcode 212 231 = some (0, 233, 0, 26, []) by decide +kernel) (by decide)) ?_
  refine Eq.trans (ev_add (show zcode 212 233 = some (11, 234, 0, 0, []) by decide +kernel) h4) ?_
  refine Eq.trans (ev_lda (show zcode 212 234 = some (6, 235, 0, 0, []) by decide +kernel) rfl (by decide)) ?_
  refine Eq.trans (ev_gi (show zcode 212 235 = some (55, 238, 12, 31, []) by decide +kernel) (so130 hS)) ?_
  exact ev_eq (show zcode 212 238 = some (40, 241, 245, 0, []) by decide +kernel)
theorem b212_241 {T : zT} {V : zM} {x1 : Int} {x2 : Int} {x3 : Int} {x4 : Int} {x5 : Int} {x6 : Int} {x7 : Int} {v8 : zV} {y1 : Int} : ev 212 241 [(2, 130), (0, x1), (0, x2), (0, x3), (0, x4), (0, x5), (0, x6), (0, x7), v8] [(0, y1), (2, 145)] T V = ev 212 266 [(2, 130), (0, x1), (0, x2), (0, x3), (0, x4), (0, x5), (0, x6), (0, x7), v8] [(0, 0), (0, y1), (2, 145)] T V := by
  refine Eq.trans (ev_ci (show zcode 212 241 = some (0, 242, 0, 0, []) by decide +kernel) (by decide)) ?_
  exact ev_goto (show zcode 212 242 = some (53, 245, 266, 0, []) by decide +kernel)
theorem b212_245 {T : zT} {V : zM} {x1 : Int} {x2 : Int} {x3 : Int} {x4 : Int} {x5 : Int} {x6 : Int} {x7 : Int} {v8 : zV} {y1 : Int} (h1 : -2147483648 ≤ (x2 - 1) ∧ (x2 - 1) ≤ 2147483647) : ev 212 245 [(2, 130), (0, x1), (0, x2), (0, x3), (0, x4), (0, x5), (0, x6), (0, x7), v8] [(0, y1), (2, 145)] T V = if (x2 - 1) ≤ x4 then ev 212 265 [(2, 130), (0, x1), (0, x2), (0, x3), (0, x4), (0, x5), (0, x6), (0, x7), v8] [(0, y1), (2, 145)] T V else ev 212 253 [(2, 130), (0, x1), (0, x2), (0, x3), (0, x4), (0, x5), (0, x6), (0, x7), v8] [(0, y1), (2, 145)] T V := by
  refine Eq.trans (ev_ldi (show zcode 212 245 = some (4, 247, 4, 0, []) by decide +kernel) rfl) ?_
  refine Eq.trans (ev_ldi (show zcode 212 247 = some (4, 248, 2, 0, []) by decide +kernel) rfl) ?_
  refine Eq.trans (ev_ci (show zcode 212 248 = some (0, 249, 0, 1, []) by decide +kernel) (by decide)) ?_
  refine Eq.trans (ev_sub (show zcode 212 249 = some (12, 250, 0, 0, []) by decide +kernel) h1) ?_
  exact ev_cge (show zcode 212 250 = some (49, 253, 265, 0, []) by decide +kernel)
theorem b212_253 {T : zT} {V : zM} {x1 : Int} {x2 : Int} {x3 : Int} {x4 : Int} {x5 : Int} {x6 : Int} {x7 : Int} {v8 : zV} {y1 : Int} (h1 : -2147483648 ≤ (x4 + 1) ∧ (x4 + 1) ≤ 2147483647) : ev 212 253 [(2, 130), (0, x1), (0, x2), (0, x3), (0, x4), (0, x5), (0, x6), (0, x7), v8] [(0, y1), (2, 145)] T V = (zcall 213 [(0, (x4 + 1)), (0, 0), (0, 0)] T V).bind fun x => ev 212 262 [(2, 130), (0, x1), (0, x2), (0, x3), (0, x4), (0, x5), (0, x6), (0, x7), v8] (z_push x.1 [(0, y1), (2, 145)]) x.2.1 x.2.2 := by
  refine Eq.trans (ev_ldi (show zcode 212 253 = some (4, 255, 4, 0, []) by decide +kernel) rfl) ?_
  refine Eq.trans (ev_ci (show zcode 212 255 = some (0, 256, 0, 1, []) by decide +kernel) (by decide)) ?_
  refine Eq.trans (ev_add (show zcode 212 256 = some (11, 257, 0, 0, []) by decide +kernel) h1) ?_
  refine Eq.trans (ev_ci (show zcode 212 257 = some (0, 258, 0, 0, []) by decide +kernel) (by decide)) ?_
  refine Eq.trans (ev_ci (show zcode 212 258 = some (0, 259, 0, 0, []) by decide +kernel) (by decide)) ?_
  exact ev_cstat (show zcode 212 259 = some (74, 262, 213, 3, []) by decide +kernel) (args := [(0, (x4 + 1)), (0, 0), (0, 0)]) (rest := [(0, y1), (2, 145)]) rfl rfl (show 2 ≤ 8 by decide) ⟨by decide, show 3 ≤ 3 by decide⟩
theorem b212_262 {T : zT} {V : zM} {x1 : Int} {x2 : Int} {x3 : Int} {x4 : Int} {x5 : Int} {x6 : Int} {x7 : Int} {v8 : zV} {y1 : Int} {y2 : Int} : ev 212 262 [(2, 130), (0, x1), (0, x2), (0, x3), (0, x4), (0, x5), (0, x6), (0, x7), v8] [(0, y2), (0, y1), (2, 145)] T V = ev 212 266 [(2, 130), (0, x1), (0, x2), (0, x3), (0, x4), (0, x5), (0, x6), (0, x7), v8] [(0, y2), (0, y1), (2, 145)] T V := by
  exact ev_goto (show zcode 212 262 = some (53, 265, 266, 0, []) by decide +kernel)
theorem b212_265 {T : zT} {V : zM} {x1 : Int} {x2 : Int} {x3 : Int} {x4 : Int} {x5 : Int} {x6 : Int} {x7 : Int} {v8 : zV} {y1 : Int} : ev 212 265 [(2, 130), (0, x1), (0, x2), (0, x3), (0, x4), (0, x5), (0, x6), (0, x7), v8] [(0, y1), (2, 145)] T V = ev 212 266 [(2, 130), (0, x1), (0, x2), (0, x3), (0, x4), (0, x5), (0, x6), (0, x7), v8] [(0, (-1)), (0, y1), (2, 145)] T V := by
  exact ev_ci (show zcode 212 265 = some (0, 266, 0, (-1), []) by decide +kernel) (by decide)
theorem b212_266 {T : zT} {V : zM} {x1 : Int} {x2 : Int} {x3 : Int} {x4 : Int} {x5 : Int} {x6 : Int} {x7 : Int} {v8 : zV} {y1 : Int} {y2 : Int} (hS : zStr T) (h1 : (0 : Int) ≤ y1 ∧ y1 < 12096) : ev 212 266 [(2, 130), (0, x1), (0, x2), (0, x3), (0, x4), (0, x5), (0, x6), (0, x7), v8] [(0, y2), (0, y1), (2, 145)] T V = ev 212 267 [(2, 130), (0, x1), (0, x2), (0, x3), (0, x4), (0, x5), (0, x6), (0, x7), v8] [] T (zwr V 145 y1 y2) := by
  exact ev_is (show zcode 212 266 = some (64, 267, 0, 0, []) by decide +kernel) (sa145 hS) h1
theorem b212_267 {T : zT} {V : zM} {x1 : Int} {x2 : Int} {x3 : Int} {x4 : Int} {x5 : Int} {x6 : Int} {x7 : Int} {v8 : zV} (hS : zStr T) (h1 : -2147483648 ≤ (284 + x1) ∧ (284 + x1) ≤ 2147483647) (h2 : (0 : Int) ≤ (284 + x1) ∧ (284 + x1) < 428) (h3 : -2147483648 ≤ ((V 132 (284 + x1)) - 1) ∧ ((V 132 (284 + x1)) - 1) ≤ 2147483647) : ev 212 267 [(2, 130), (0, x1), (0, x2), (0, x3), (0, x4), (0, x5), (0, x6), (0, x7), v8] [] T V = ev 212 281 [(2, 130), (0, x1), (0, x2), (0, x3), (0, x4), (0, x5), (0, x6), (0, x7), (0, ((V 132 (284 + x1)) - 1))] [] T V := by
  refine Eq.trans (ev_lda (show zcode 212 267 = some (6, 268, 0, 0, []) by decide +kernel) rfl (by decide)) ?_
  refine Eq.trans (ev_gq (show zcode 212 268 = some (56, 271, 12, 4, []) by decide +kernel) (so130 hS) (sp130_4 hS)) ?_
  refine Eq.trans (ev_ci (show zcode 212 271 = some (0, 274, 0, 284, []) by decide +kernel) (by decide)) ?_
  refine Eq.trans (ev_ldi (show zcode 212 274 = some (4, 275, 1, 0, []) by decide +kernel) rfl) ?_
  refine Eq.trans (ev_add (show zcode 212 275 = some (11, 276, 0, 0, []) by decide +kernel) h1) ?_
  refine Eq.trans (ev_ia (show zcode 212 276 = some (60, 277, 0, 0, []) by decide +kernel) (sa132 hS) h2) ?_
  refine Eq.trans (ev_ci (show zcode 212 277 = some (0, 278, 0, 1, []) by decide +kernel) (by decide)) ?_
  refine Eq.trans (ev_sub (show zcode 212 278 = some (12, 279, 0, 0, []) by decide +kernel) h3) ?_
  exact ev_sti (show zcode 212 279 = some (7, 281, 8, 0, []) by decide +kernel) ⟨show 8 < 9 by decide, Or.inr (show ¬ (0 : Nat) = 1 by decide)⟩
theorem b212_281 {T : zT} {V : zM} {x1 : Int} {x2 : Int} {x3 : Int} {x4 : Int} {x5 : Int} {x6 : Int} {x7 : Int} {x8 : Int} : ev 212 281 [(2, 130), (0, x1), (0, x2), (0, x3), (0, x4), (0, x5), (0, x6), (0, x7), (0, x8)] [] T V = if x8 < 0 then ev 212 367 [(2, 130), (0, x1), (0, x2), (0, x3), (0, x4), (0, x5), (0, x6), (0, x7), (0, x8)] [] T V else ev 212 286 [(2, 130), (0, x1), (0, x2), (0, x3), (0, x4), (0, x5), (0, x6), (0, x7), (0, x8)] [] T V := by
  refine Eq.trans (ev_ldi (show zcode 212 281 = some (4, 283, 8, 0, []) by decide +kernel) rfl) ?_
  exact ev_lt (show zcode 212 283 = some (42, 286, 367, 0, []) by decide +kernel)
theorem b212_286 {T : zT} {V : zM} {x1 : Int} {x2 : Int} {x3 : Int} {x4 : Int} {x5 : Int} {x6 : Int} {x7 : Int} {x8 : Int} (hS : zStr T)  : ev 212 286 [(2, 130), (0, x1), (0, x2), (0, x3), (0, x4), (0, x5), (0, x6), (0, x7), (0, x8)] [] T V = (zcall 215 [(2, 130), (0, x1), (0, x8), (0, x4)] T V).bind fun x => ev 212 295 [(2, 130), (0, x1), (0, x2), (0, x3), (0, x4), (0, x5), (0, x6), (0, x7), (0, x8)] (z_push x.1 []) x.2.1 x.2.2 := by
  refine Eq.trans (ev_lda (show zcode 212 286 = some (6, 287, 0, 0, []) by decide +kernel) rfl (by decide)) ?_
  refine Eq.trans (ev_ldi (show zcode 212 287 = some (4, 288, 1, 0, []) by decide +kernel) rfl) ?_
  refine Eq.trans (ev_ldi (show zcode 212 288 = some (4, 290, 8, 0, []) by decide +kernel) rfl) ?_
  refine Eq.trans (ev_ldi (show zcode 212 290 = some (4, 292, 4, 0, []) by decide +kernel) rfl) ?_
  exact ev_cvirt (show zcode 212 292 = some (76, 295, 215, 4, [12]) by decide +kernel) (args := [(0, x1), (0, x8), (0, x4)]) (rest := []) rfl (so130 hS) rfl (show 0 ≤ 8 by decide) ⟨by decide, show 4 ≤ 5 by decide⟩
theorem b212_295 {T : zT} {V : zM} {x1 : Int} {x2 : Int} {x3 : Int} {x4 : Int} {x5 : Int} {x6 : Int} {x7 : Int} {x8 : Int} {y0 : Int} : ev 212 295 [(2, 130), (0, x1), (0, x2), (0, x3), (0, x4), (0, x5), (0, x6), (0, x7), (0, x8)] [(0, y0)] T V = if y0 = 0 then ev 212 361 [(2, 130), (0, x1), (0, x2), (0, x3), (0, x4), (0, x5), (0, x6), (0, x7), (0, x8)] [] T V else ev 212 298 [(2, 130), (0, x1), (0, x2), (0, x3), (0, x4), (0, x5), (0, x6), (0, x7), (0, x8)] [] T V := by
  exact ev_eq (show zcode 212 295 = some (40, 298, 361, 0, []) by decide +kernel)
theorem b212_298 {T : zT} {V : zM} {x1 : Int} {x2 : Int} {x3 : Int} {x4 : Int} {x5 : Int} {x6 : Int} {x7 : Int} {x8 : Int} (hS : zStr T)  : ev 212 298 [(2, 130), (0, x1), (0, x2), (0, x3), (0, x4), (0, x5), (0, x6), (0, x7), (0, x8)] [] T V = (zcall 187 [(2, 130), (0, x1), (0, x8), (0, 1)] T V).bind fun x => ev 212 306 [(2, 130), (0, x1), (0, x2), (0, x3), (0, x4), (0, x5), (0, x6), (0, x7), (0, x8)] (z_push x.1 []) x.2.1 x.2.2 := by
  refine Eq.trans (ev_lda (show zcode 212 298 = some (6, 299, 0, 0, []) by decide +kernel) rfl (by decide)) ?_
  refine Eq.trans (ev_ldi (show zcode 212 299 = some (4, 300, 1, 0, []) by decide +kernel) rfl) ?_
  refine Eq.trans (ev_ldi (show zcode 212 300 = some (4, 302, 8, 0, []) by decide +kernel) rfl) ?_
  refine Eq.trans (ev_ci (show zcode 212 302 = some (0, 303, 0, 1, []) by decide +kernel) (by decide)) ?_
  exact ev_cvirt (show zcode 212 303 = some (76, 306, 187, 4, [12]) by decide +kernel) (args := [(0, x1), (0, x8), (0, 1)]) (rest := []) rfl (so130 hS) rfl (show 0 ≤ 8 by decide) ⟨by decide, show 4 ≤ 4 by decide⟩
theorem b212_306 {T : zT} {V : zM} {x1 : Int} {x2 : Int} {x3 : Int} {x4 : Int} {x5 : Int} {x6 : Int} {x7 : Int} {x8 : Int} {y0 : Int} : ev 212 306 [(2, 130), (0, x1), (0, x2), (0, x3), (0, x4), (0, x5), (0, x6), (0, x7), (0, x8)] [(0, y0)] T V = if y0 ≤ x5 then ev 212 361 [(2, 130), (0, x1), (0, x2), (0, x3), (0, x4), (0, x5), (0, x6), (0, x7), (0, x8)] [] T V else ev 212 311 [(2, 130), (0, x1), (0, x2), (0, x3), (0, x4), (0, x5), (0, x6), (0, x7), (0, x8)] [] T V := by
  refine Eq.trans (ev_ldi (show zcode 212 306 = some (4, 308, 5, 0, []) by decide +kernel) rfl) ?_
  exact ev_cle (show zcode 212 308 = some (51, 311, 361, 0, []) by decide +kernel)
theorem b212_311 {T : zT} {V : zM} {x1 : Int} {x2 : Int} {x3 : Int} {x4 : Int} {x5 : Int} {x6 : Int} {x7 : Int} {x8 : Int} : ev 212 311 [(2, 130), (0, x1), (0, x2), (0, x3), (0, x4), (0, x5), (0, x6), (0, x7), (0, x8)] [] T V = if x5 = 0 then ev 212 330 [(2, 130), (0, x1), (0, x2), (0, x3), (0, x4), (0, x5), (0, x6), (0, x7), (0, x8)] [] T V else ev 212 316 [(2, 130), (0, x1), (0, x2), (0, x3), (0, x4), (0, x5), (0, x6), (0, x7), (0, x8)] [] T V := by
  refine Eq.trans (ev_ldi (show zcode 212 311 = some (4, 313, 5, 0, []) by decide +kernel) rfl) ?_
  exact ev_eq (show zcode 212 313 = some (40, 316, 330, 0, []) by decide +kernel)
theorem b212_316 {T : zT} {V : zM} {x1 : Int} {x2 : Int} {x3 : Int} {x4 : Int} {x5 : Int} {x6 : Int} {x7 : Int} {x8 : Int} (hS : zStr T)  : ev 212 316 [(2, 130), (0, x1), (0, x2), (0, x3), (0, x4), (0, x5), (0, x6), (0, x7), (0, x8)] [] T V = (zcall 216 [(2, 130), (0, x1), (0, x8), (0, x6), (0, x5)] T V).bind fun x => ev 212 327 [(2, 130), (0, x1), (0, x2), (0, x3), (0, x4), (0, x5), (0, x6), (0, x7), (0, x8)] (z_push x.1 []) x.2.1 x.2.2 := by
  refine Eq.trans (ev_lda (show zcode 212 316 = some (6, 317, 0, 0, []) by decide +kernel) rfl (by decide)) ?_
  refine Eq.trans (ev_ldi (show zcode 212 317 = some (4, 318, 1, 0, []) by decide +kernel) rfl) ?_
  refine Eq.trans (ev_ldi (show zcode 212 318 = some (4, 320, 8, 0, []) by decide +kernel) rfl) ?_
  refine Eq.trans (ev_ldi (show zcode 212 320 = some (4, 322, 6, 0, []) by decide +kernel) rfl) ?_
  refine Eq.trans (ev_ldi (show zcode 212 322 = some (4, 324, 5, 0, []) by decide +kernel) rfl) ?_
  exact ev_cvirt (show zcode 212 324 = some (76, 327, 216, 5, [12]) by decide +kernel) (args := [(0, x1), (0, x8), (0, x6), (0, x5)]) (rest := []) rfl (so130 hS) rfl (show 0 ≤ 8 by decide) ⟨by decide, show 5 ≤ 6 by decide⟩
theorem b212_327 {T : zT} {V : zM} {x1 : Int} {x2 : Int} {x3 : Int} {x4 : Int} {x5 : Int} {x6 : Int} {x7 : Int} {x8 : Int} {y0 : Int} : ev 212 327 [(2, 130), (0, x1), (0, x2), (0, x3), (0, x4), (0, x5), (0, x6), (0, x7), (0, x8)] [(0, y0)] T V = if y0 = 0 then ev 212 361 [(2, 130), (0, x1), (0, x2), (0, x3), (0, x4), (0, x5), (0, x6), (0, x7), (0, x8)] [] T V else ev 212 330 [(2, 130), (0, x1), (0, x2), (0, x3), (0, x4), (0, x5), (0, x6), (0, x7), (0, x8)] [] T V := by
  exact ev_eq (show zcode 212 327 = some (40, 330, 361, 0, []) by decide +kernel)
theorem b212_330 {T : zT} {V : zM} {x1 : Int} {x2 : Int} {x3 : Int} {x4 : Int} {x5 : Int} {x6 : Int} {x7 : Int} {x8 : Int} (hS : zStr T) (h1 : -2147483648 ≤ (x7 * 27) ∧ (x7 * 27) ≤ 2147483647) : ev 212 330 [(2, 130), (0, x1), (0, x2), (0, x3), (0, x4), (0, x5), (0, x6), (0, x7), (0, x8)] [] T V = (zcall 217 [(2, 130), (0, x1), (0, x8), (0, x5)] T V).bind fun x => ev 212 348 [(2, 130), (0, x1), (0, x2), (0, x3), (0, x4), (0, x5), (0, x6), (0, x7), (0, x8)] (z_push x.1 [(0, (x7 * 27)), (2, 145)]) x.2.1 x.2.2 := by
  refine Eq.trans (ev_lda (show zcode 212 330 = some (6, 331, 0, 0, []) by decide +kernel) rfl (by decide)) ?_
  refine Eq.trans (ev_gq (show zcode 212 331 = some (56, 334, 12, 28, []) by decide +kernel) (so130 hS) (sp130_28 hS)) ?_
  refine Eq.trans (ev_ldi (show zcode 212 334 = some (4, 336, 7, 0, []) by decide +kernel) rfl) ?_
  refine Eq.trans (ev_ci (show zcode 212 336 = some (0, 338, 0, 27, []) by decide +kernel) (by decide)) ?_
  refine Eq.trans (ev_mul (show zcode 212 338 = some (13, 339, 0, 0, []) by decide +kernel) h1) ?_
  refine Eq.trans (ev_lda (show zcode 212 339 = some (6, 340, 0, 0, []) by decide +kernel) rfl (by decide)) ?_
  refine Eq.trans (ev_ldi (show zcode 212 340 = some (4, 341, 1, 0, []) by decide +kernel) rfl) ?_
  refine Eq.trans (ev_ldi (show zcode 212 341 = some (4, 343, 8, 0, []) by decide +kernel) rfl) ?_
  refine Eq.trans (ev_ldi (show zcode 212 343 = some (4, 345, 5, 0, []) by decide +kernel) rfl) ?_
  exact ev_cvirt (show zcode 212 345 = some (76, 348, 217, 4, [12]) by decide +kernel) (args := [(0, x1), (0, x8), (0, x5)]) (rest := [(0, (x7 * 27)), (2, 145)]) rfl (so130 hS) rfl (show 2 ≤ 8 by decide) ⟨by decide, show 4 ≤ 4 by decide⟩
theorem b212_348 {T : zT} {V : zM} {x1 : Int} {x2 : Int} {x3 : Int} {x4 : Int} {x5 : Int} {x6 : Int} {x7 : Int} {x8 : Int} {y1 : Int} {y2 : Int} (h1 : -2147483648 ≤ (y1 + y2) ∧ (y1 + y2) ≤ 2147483647) (h2 : -2147483648 ≤ (x5 + 1) ∧ (x5 + 1) ≤ 2147483647) : ev 212 348 [(2, 130), (0, x1), (0, x2), (0, x3), (0, x4), (0, x5), (0, x6), (0, x7), (0, x8)] [(0, y2), (0, y1), (2, 145)] T V = (zcall 213 [(0, x4), (0, (x5 + 1)), (0, x8)] T V).bind fun x => ev 212 360 [(2, 130), (0, x1), (0, x2), (0, x3), (0, x4), (0, x5), (0, x6), (0, x7), (0, x8)] (z_push x.1 [(0, (y1 + y2)), (2, 145)]) x.2.1 x.2.2 := by
  refine Eq.trans (ev_add (show zcode 212 348 = some (11, 349, 0, 0, []) by decide +kernel) h1) ?_
  refine Eq.trans (ev_ldi (show zcode 212 349 = some (4, 351, 4, 0, []) by decide +kernel) rfl) ?_
  refine Eq.trans (ev_ldi (show zcode 212 351 = some (4, 353, 5, 0, []) by decide +kernel) rfl) ?_
  refine Eq.trans (ev_ci (show zcode 212 353 = some (0, 354, 0, 1, []) by decide +kernel) (by decide)) ?_
  refine Eq.trans (ev_add (show zcode 212 354 = some (11, 355, 0, 0, []) by decide +kernel) h2) ?_
  refine Eq.trans (ev_ldi (show zcode 212 355 = some (4, 357, 8, 0, []) by decide +kernel) rfl) ?_
  exact ev_cstat (show zcode 212 357 = some (74, 360, 213, 3, []) by decide +kernel) (args := [(0, x4), (0, (x5 + 1)), (0, x8)]) (rest := [(0, (y1 + y2)), (2, 145)]) rfl rfl (show 2 ≤ 8 by decide) ⟨by decide, show 3 ≤ 3 by decide⟩
theorem b212_360 {T : zT} {V : zM} {x1 : Int} {x2 : Int} {x3 : Int} {x4 : Int} {x5 : Int} {x6 : Int} {x7 : Int} {x8 : Int} {y1 : Int} {y2 : Int} (hS : zStr T) (h1 : (0 : Int) ≤ y1 ∧ y1 < 12096) : ev 212 360 [(2, 130), (0, x1), (0, x2), (0, x3), (0, x4), (0, x5), (0, x6), (0, x7), (0, x8)] [(0, y2), (0, y1), (2, 145)] T V = ev 212 361 [(2, 130), (0, x1), (0, x2), (0, x3), (0, x4), (0, x5), (0, x6), (0, x7), (0, x8)] [] T (zwr V 145 y1 y2) := by
  exact ev_is (show zcode 212 360 = some (64, 361, 0, 0, []) by decide +kernel) (sa145 hS) h1
theorem b212_361 {T : zT} {V : zM} {x1 : Int} {x2 : Int} {x3 : Int} {x4 : Int} {x5 : Int} {x6 : Int} {x7 : Int} {x8 : Int} (h1 : -2147483648 ≤ (x8 + (-1)) ∧ (x8 + (-1)) ≤ 2147483647) : ev 212 361 [(2, 130), (0, x1), (0, x2), (0, x3), (0, x4), (0, x5), (0, x6), (0, x7), (0, x8)] [] T V = ev 212 281 [(2, 130), (0, x1), (0, x2), (0, x3), (0, x4), (0, x5), (0, x6), (0, x7), (0, (x8 + (-1)))] [] T V := by
  refine Eq.trans (ev_inc (show zcode 212 361 = some (10, 364, 8, (-1), []) by decide +kernel) rfl h1 (Or.inr (show ¬ (0 : Nat) = 1 by decide))) ?_
  exact ev_goto (show zcode 212 364 = some (53, 367, 281, 0, []) by decide +kernel)
theorem b212_367 {T : zT} {V : zM} {x1 : Int} {x2 : Int} {x3 : Int} {x4 : Int} {x5 : Int} {x6 : Int} {x7 : Int} {x8 : Int} (h1 : -2147483648 ≤ (x6 + 1) ∧ (x6 + 1) ≤ 2147483647) : ev 212 367 [(2, 130), (0, x1), (0, x2), (0, x3), (0, x4), (0, x5), (0, x6), (0, x7), (0, x8)] [] T V = ev 212 151 [(2, 130), (0, x1), (0, x2), (0, x3), (0, x4), (0, x5), (0, (x6 + 1)), (0, x7), (0, x8)] [] T V := by
  refine Eq.trans (ev_inc (show zcode 212 367 = some (10, 370, 6, 1, []) by decide +kernel) rfl h1 (Or.inr (show ¬ (0 : Nat) = 1 by decide))) ?_
  exact ev_goto (show zcode 212 370 = some (53, 373, 151, 0, []) by decide +kernel)
theorem b212_373 {T : zT} {V : zM} {x1 : Int} {x2 : Int} {x3 : Int} {x4 : Int} {x5 : Int} {x6 : Int} {v7 : zV} {v8 : zV} (h1 : -2147483648 ≤ (x5 + 1) ∧ (x5 + 1) ≤ 2147483647) : ev 212 373 [(2, 130), (0, x1), (0, x2), (0, x3), (0, x4), (0, x5), (0, x6), v7, v8] [] T V = ev 212 141 [(2, 130), (0, x1), (0, x2), (0, x3), (0, x4), (0, (x5 + 1)), (0, x6), v7, v8] [] T V := by
  refine Eq.trans (ev_inc (show zcode 212 373 = some (10, 376, 5, 1, []) by decide +kernel) rfl h1 (Or.inr (show ¬ (0 : Nat) = 1 by decide))) ?_
  exact ev_goto (show zcode 212 376 = some (53, 379, 141, 0, []) by decide +kernel)
theorem b212_379 {T : zT} {V : zM} {x1 : Int} {x2 : Int} {x3 : Int} {x4 : Int} {x5 : Int} {v6 : zV} {v7 : zV} {v8 : zV} (h1 : -2147483648 ≤ (x4 + 1) ∧ (x4 + 1) ≤ 2147483647) : ev 212 379 [(2, 130), (0, x1), (0, x2), (0, x3), (0, x4), (0, x5), v6, v7, v8] [] T V = ev 212 132 [(2, 130), (0, x1), (0, x2), (0, x3), (0, (x4 + 1)), (0, x5), v6, v7, v8] [] T V := by
  refine Eq.trans (ev_inc (show zcode 212 379 = some (10, 382, 4, 1, []) by decide +kernel) rfl h1 (Or.inr (show ¬ (0 : Nat) = 1 by decide))) ?_
  exact ev_goto (show zcode 212 382 = some (53, 385, 132, 0, []) by decide +kernel)
theorem b212_385 {T : zT} {V : zM} {x1 : Int} {x2 : Int} {x3 : Int} {x4 : Int} {v5 : zV} {v6 : zV} {v7 : zV} {v8 : zV} : ev 212 385 [(2, 130), (0, x1), (0, x2), (0, x3), (0, x4), v5, v6, v7, v8] [] T V = some ((9, 0), T, V) := by
  exact ev_rn (show zcode 212 385 = some (73, 386, 0, 0, []) by decide +kernel)
/-! 213: TwoWayWallModel.placeOf(III)I -/
theorem e213 {T : zT} {V : zM} {x0 : Int} {x1 : Int} {x2 : Int} : zcall 213 [(0, x0), (0, x1), (0, x2)] T V = ev 213 0 [(0, x0), (0, x1), (0, x2)] [] T V := rfl
theorem b213_0 {T : zT} {V : zM} {x0 : Int} {x1 : Int} {x2 : Int} (h1 : -2147483648 ≤ (x0 * 7) ∧ (x0 * 7) ≤ 2147483647) (h2 : -2147483648 ≤ ((x0 * 7) + x1) ∧ ((x0 * 7) + x1) ≤ 2147483647) (h3 : -2147483648 ≤ (((x0 * 7) + x1) * 8) ∧ (((x0 * 7) + x1) * 8) ≤ 2147483647) (h4 : -2147483648 ≤ ((((x0 * 7) + x1) * 8) + x2) ∧ ((((x0 * 7) + x1) * 8) + x2) ≤ 2147483647) : ev 213 0 [(0, x0), (0, x1), (0, x2)] [] T V = some ((0, ((((x0 * 7) + x1) * 8) + x2)), T, V) := by
  refine Eq.trans (ev_ldi (show zcode 213 0 = some (4, 1, 0, 0, []) by decide +kernel) rfl) ?_
  refine Eq.trans (ev_ci (show zcode 213 1 = some (0, 3, 0, 7, []) by decide +kernel) (by decide)) ?_
  refine Eq.trans (ev_mul (show zcode 213 3 = some (13, 4, 0, 0, []) by decide +kernel) h1) ?_
  refine Eq.trans (ev_ldi (show zcode 213 4 = some (4, 5, 1, 0, []) by decide +kernel) rfl) ?_
  refine Eq.trans (ev_add (show zcode 213 5 = some (11, 6, 0, 0, []) by decide +kernel) h2) ?_
  refine Eq.trans (ev_ci (show zcode 213 6 = some (0, 8, 0, 8, []) by decide +kernel) (by decide)) ?_
  refine Eq.trans (ev_mul (show zcode 213 8 = some (13, 9, 0, 0, []) by decide +kernel) h3) ?_
  refine Eq.trans (ev_ldi (show zcode 213 9 = some (4, 10, 2, 0, []) by decide +kernel) rfl) ?_
  refine Eq.trans (ev_add (show zcode 213 10 = some (11, 11, 0, 0, []) by decide +kernel) h4) ?_
  exact ev_ri (show zcode 213 11 = some (72, 12, 0, 0, []) by decide +kernel)
/-! 214: TwoWayWallModel.isWhole(IIII)Z -/
theorem e214 {T : zT} {V : zM} {x1 : Int} {x2 : Int} {x3 : Int} {x4 : Int} : zcall 214 [(2, 130), (0, x1), (0, x2), (0, x3), (0, x4)] T V = ev 214 0 [(2, 130), (0, x1), (0, x2), (0, x3), (0, x4), (9, 0)] [] T V := rfl
theorem b214_0 {T : zT} {V : zM} {x1 : Int} {x2 : Int} {x3 : Int} {x4 : Int} : ev 214 0 [(2, 130), (0, x1), (0, x2), (0, x3), (0, x4), (9, 0)] [] T V = ev 214 3 [(2, 130), (0, x1), (0, x2), (0, x3), (0, x4), (0, 0)] [] T V := by
  refine Eq.trans (ev_ci (show zcode 214 0 = some (0, 1, 0, 0, []) by decide +kernel) (by decide)) ?_
  exact ev_sti (show zcode 214 1 = some (7, 3, 5, 0, []) by decide +kernel) ⟨show 5 < 6 by decide, Or.inr (show ¬ (0 : Nat) = 1 by decide)⟩
theorem b214_3 {T : zT} {V : zM} {x1 : Int} {x2 : Int} {x3 : Int} {x4 : Int} {x5 : Int} (hS : zStr T) (h1 : -2147483648 ≤ (284 + x1) ∧ (284 + x1) ≤ 2147483647) (h2 : (0 : Int) ≤ (284 + x1) ∧ (284 + x1) < 428) : ev 214 3 [(2, 130), (0, x1), (0, x2), (0, x3), (0, x4), (0, x5)] [] T V = if (V 132 (284 + x1)) ≤ x5 then ev 214 66 [(2, 130), (0, x1), (0, x2), (0, x3), (0, x4), (0, x5)] [] T V else ev 214 18 [(2, 130), (0, x1), (0, x2), (0, x3), (0, x4), (0, x5)] [] T V := by
  refine Eq.trans (ev_ldi (show zcode 214 3 = some (4, 5, 5, 0, []) by decide +kernel) rfl) ?_
  refine Eq.trans (ev_lda (show zcode 214 5 = some (6, 6, 0, 0, []) by decide +kernel) rfl (by decide)) ?_
  refine Eq.trans (ev_gq (show zcode 214 6 = some (56, 9, 12, 4, []) by decide +kernel) (so130 hS) (sp130_4 hS)) ?_
  refine Eq.trans (ev_ci (show zcode 214 9 = some (0, 12, 0, 284, []) by decide +kernel) (by decide)) ?_
  refine Eq.trans (ev_ldi (show zcode 214 12 = some (4, 13, 1, 0, []) by decide +kernel) rfl) ?_
  refine Eq.trans (ev_add (show zcode 214 13 = some (11, 14, 0, 0, []) by decide +kernel) h1) ?_
  refine Eq.trans (ev_ia (show zcode 214 14 = some (60, 15, 0, 0, []) by decide +kernel) (sa132 hS) h2) ?_
  exact ev_cge (show zcode 214 15 = some (49, 18, 66, 0, []) by decide +kernel)
theorem b214_18 {T : zT} {V : zM} {x1 : Int} {x2 : Int} {x3 : Int} {x4 : Int} {x5 : Int} : ev 214 18 [(2, 130), (0, x1), (0, x2), (0, x3), (0, x4), (0, x5)] [] T V = if x3 ≤ 0 then ev 214 60 [(2, 130), (0, x1), (0, x2), (0, x3), (0, x4), (0, x5)] [] T V else ev 214 22 [(2, 130), (0, x1), (0, x2), (0, x3), (0, x4), (0, x5)] [] T V := by
  refine Eq.trans (ev_ldi (show zcode 214 18 = some (4, 19, 3, 0, []) by decide +kernel) rfl) ?_
  exact ev_le (show zcode 214 19 = some (45, 22, 60, 0, []) by decide +kernel)
theorem b214_22 {T : zT} {V : zM} {x1 : Int} {x2 : Int} {x3 : Int} {x4 : Int} {x5 : Int} (hS : zStr T)  : ev 214 22 [(2, 130), (0, x1), (0, x2), (0, x3), (0, x4), (0, x5)] [] T V = (zcall 215 [(2, 130), (0, x1), (0, x5), (0, x2)] T V).bind fun x => ev 214 30 [(2, 130), (0, x1), (0, x2), (0, x3), (0, x4), (0, x5)] (z_push x.1 []) x.2.1 x.2.2 := by
  refine Eq.trans (ev_lda (show zcode 214 22 = some (6, 23, 0, 0, []) by decide +kernel) rfl (by decide)) ?_
  refine Eq.trans (ev_ldi (show zcode 214 23 = some (4, 24, 1, 0, []) by decide +kernel) rfl) ?_
  refine Eq.trans (ev_ldi (show zcode 214 24 = some (4, 26, 5, 0, []) by decide +kernel) rfl) ?_
  refine Eq.trans (ev_ldi (show zcode 214 26 = some (4, 27, 2, 0, []) by decide +kernel) rfl) ?_
  exact ev_cvirt (show zcode 214 27 = some (76, 30, 215, 4, [12]) by decide +kernel) (args := [(0, x1), (0, x5), (0, x2)]) (rest := []) rfl (so130 hS) rfl (show 0 ≤ 8 by decide) ⟨by decide, show 4 ≤ 5 by decide⟩
theorem b214_30 {T : zT} {V : zM} {x1 : Int} {x2 : Int} {x3 : Int} {x4 : Int} {x5 : Int} {y0 : Int} : ev 214 30 [(2, 130), (0, x1), (0, x2), (0, x3), (0, x4), (0, x5)] [(0, y0)] T V = if y0 = 0 then ev 214 60 [(2, 130), (0, x1), (0, x2), (0, x3), (0, x4), (0, x5)] [] T V else ev 214 33 [(2, 130), (0, x1), (0, x2), (0, x3), (0, x4), (0, x5)] [] T V := by
  exact ev_eq (show zcode 214 30 = some (40, 33, 60, 0, []) by decide +kernel)
theorem b214_33 {T : zT} {V : zM} {x1 : Int} {x2 : Int} {x3 : Int} {x4 : Int} {x5 : Int} (hS : zStr T)  : ev 214 33 [(2, 130), (0, x1), (0, x2), (0, x3), (0, x4), (0, x5)] [] T V = (zcall 187 [(2, 130), (0, x1), (0, x5), (0, 1)] T V).bind fun x => ev 214 41 [(2, 130), (0, x1), (0, x2), (0, x3), (0, x4), (0, x5)] (z_push x.1 []) x.2.1 x.2.2 := by
  refine Eq.trans (ev_lda (show zcode 214 33 = some (6, 34, 0, 0, []) by decide +kernel) rfl (by decide)) ?_
  refine Eq.trans (ev_ldi (show zcode 214 34 = some (4, 35, 1, 0, []) by decide +kernel) rfl) ?_
  refine Eq.trans (ev_ldi (show zcode 214 35 = some (4, 37, 5, 0, []) by decide +kernel) rfl) ?_
  refine Eq.trans (ev_ci (show zcode 214 37 = some (0, 38, 0, 1, []) by decide +kernel) (by decide)) ?_
  exact ev_cvirt (show zcode 214 38 = some (76, 41, 187, 4, [12]) by decide +kernel) (args := [(0, x1), (0, x5), (0, 1)]) (rest := []) rfl (so130 hS) rfl (show 0 ≤ 8 by decide) ⟨by decide, show 4 ≤ 4 by decide⟩
theorem b214_41 {T : zT} {V : zM} {x1 : Int} {x2 : Int} {x3 : Int} {x4 : Int} {x5 : Int} {y0 : Int} : ev 214 41 [(2, 130), (0, x1), (0, x2), (0, x3), (0, x4), (0, x5)] [(0, y0)] T V = if y0 = x3 then ev 214 45 [(2, 130), (0, x1), (0, x2), (0, x3), (0, x4), (0, x5)] [] T V else ev 214 60 [(2, 130), (0, x1), (0, x2), (0, x3), (0, x4), (0, x5)] [] T V := by
  refine Eq.trans (ev_ldi (show zcode 214 41 = some (4, 42, 3, 0, []) by decide +kernel) rfl) ?_
  exact ev_cne (show zcode 214 42 = some (47, 45, 60, 0, []) by decide +kernel)
theorem b214_45 {T : zT} {V : zM} {x1 : Int} {x2 : Int} {x3 : Int} {x4 : Int} {x5 : Int} (hS : zStr T)  : ev 214 45 [(2, 130), (0, x1), (0, x2), (0, x3), (0, x4), (0, x5)] [] T V = (zcall 216 [(2, 130), (0, x1), (0, x5), (0, x4), (0, x3)] T V).bind fun x => ev 214 55 [(2, 130), (0, x1), (0, x2), (0, x3), (0, x4), (0, x5)] (z_push x.1 []) x.2.1 x.2.2 := by
  refine Eq.trans (ev_lda (show zcode 214 45 = some (6, 46, 0, 0, []) by decide +kernel) rfl (by decide)) ?_
  refine Eq.trans (ev_ldi (show zcode 214 46 = some (4, 47, 1, 0, []) by decide +kernel) rfl) ?_
  refine Eq.trans (ev_ldi (show zcode 214 47 = some (4, 49, 5, 0, []) by decide +kernel) rfl) ?_
  refine Eq.trans (ev_ldi (show zcode 214 49 = some (4, 51, 4, 0, []) by decide +kernel) rfl) ?_
  refine Eq.trans (ev_ldi (show zcode 214 51 = some (4, 52, 3, 0, []) by decide +kernel) rfl) ?_
  exact ev_cvirt (show zcode 214 52 = some (76, 55, 216, 5, [12]) by decide +kernel) (args := [(0, x1), (0, x5), (0, x4), (0, x3)]) (rest := []) rfl (so130 hS) rfl (show 0 ≤ 8 by decide) ⟨by decide, show 5 ≤ 6 by decide⟩
theorem b214_55 {T : zT} {V : zM} {x1 : Int} {x2 : Int} {x3 : Int} {x4 : Int} {x5 : Int} {y0 : Int} : ev 214 55 [(2, 130), (0, x1), (0, x2), (0, x3), (0, x4), (0, x5)] [(0, y0)] T V = if y0 = 0 then ev 214 60 [(2, 130), (0, x1), (0, x2), (0, x3), (0, x4), (0, x5)] [] T V else ev 214 58 [(2, 130), (0, x1), (0, x2), (0, x3), (0, x4), (0, x5)] [] T V := by
  exact ev_eq (show zcode 214 55 = some (40, 58, 60, 0, []) by decide +kernel)
theorem b214_58 {T : zT} {V : zM} {x1 : Int} {x2 : Int} {x3 : Int} {x4 : Int} {x5 : Int} : ev 214 58 [(2, 130), (0, x1), (0, x2), (0, x3), (0, x4), (0, x5)] [] T V = some ((0, 1), T, V) := by
  refine Eq.trans (ev_ci (show zcode 214 58 = some (0, 59, 0, 1, []) by decide +kernel) (by decide)) ?_
  exact ev_rz (show zcode 214 59 = some (72, 60, 3, 0, []) by decide +kernel) (by decide)
theorem b214_60 {T : zT} {V : zM} {x1 : Int} {x2 : Int} {x3 : Int} {x4 : Int} {x5 : Int} (h1 : -2147483648 ≤ (x5 + 1) ∧ (x5 + 1) ≤ 2147483647) : ev 214 60 [(2, 130), (0, x1), (0, x2), (0, x3), (0, x4), (0, x5)] [] T V = ev 214 3 [(2, 130), (0, x1), (0, x2), (0, x3), (0, x4), (0, (x5 + 1))] [] T V := by
  refine Eq.trans (ev_inc (show zcode 214 60 = some (10, 63, 5, 1, []) by decide +kernel) rfl h1 (Or.inr (show ¬ (0 : Nat) = 1 by decide))) ?_
  exact ev_goto (show zcode 214 63 = some (53, 66, 3, 0, []) by decide +kernel)
theorem b214_66 {T : zT} {V : zM} {x1 : Int} {x2 : Int} {x3 : Int} {x4 : Int} {x5 : Int} : ev 214 66 [(2, 130), (0, x1), (0, x2), (0, x3), (0, x4), (0, x5)] [] T V = some ((0, 0), T, V) := by
  refine Eq.trans (ev_ci (show zcode 214 66 = some (0, 67, 0, 0, []) by decide +kernel) (by decide)) ?_
  exact ev_rz (show zcode 214 67 = some (72, 68, 3, 0, []) by decide +kernel) (by decide)
/-! 215: TwoWayWallModel.fits(III)Z -/
theorem e215 {T : zT} {V : zM} {x1 : Int} {x2 : Int} {x3 : Int} : zcall 215 [(2, 130), (0, x1), (0, x2), (0, x3)] T V = ev 215 0 [(2, 130), (0, x1), (0, x2), (0, x3), (9, 0)] [] T V := rfl
theorem b215_0 {T : zT} {V : zM} {x1 : Int} {x2 : Int} {x3 : Int} (hS : zStr T)  : ev 215 0 [(2, 130), (0, x1), (0, x2), (0, x3), (9, 0)] [] T V = if (V 130 31) = 0 then ev 215 9 [(2, 130), (0, x1), (0, x2), (0, x3), (9, 0)] [] T V else ev 215 7 [(2, 130), (0, x1), (0, x2), (0, x3), (9, 0)] [] T V := by
  refine Eq.trans (ev_lda (show zcode 215 0 = some (6, 1, 0, 0, []) by decide +kernel) rfl (by decide)) ?_
  refine Eq.trans (ev_gi (show zcode 215 1 = some (55, 4, 12, 31, []) by decide +kernel) (so130 hS)) ?_
  exact ev_eq (show zcode 215 4 = some (40, 7, 9, 0, []) by decide +kernel)
theorem b215_7 {T : zT} {V : zM} {x1 : Int} {x2 : Int} {x3 : Int} : ev 215 7 [(2, 130), (0, x1), (0, x2), (0, x3), (9, 0)] [] T V = some ((0, 1), T, V) := by
  refine Eq.trans (ev_ci (show zcode 215 7 = some (0, 8, 0, 1, []) by decide +kernel) (by decide)) ?_
  exact ev_rz (show zcode 215 8 = some (72, 9, 3, 0, []) by decide +kernel) (by decide)
theorem b215_9 {T : zT} {V : zM} {x1 : Int} {x2 : Int} {x3 : Int} (hS : zStr T) (h1 : -2147483648 ≤ (374 + x1) ∧ (374 + x1) ≤ 2147483647) (h2 : (0 : Int) ≤ (374 + x1) ∧ (374 + x1) < 428) : ev 215 9 [(2, 130), (0, x1), (0, x2), (0, x3), (9, 0)] [] T V = (zcall 187 [(2, 130), (0, x1), (0, x2), (0, 0)] T V).bind fun x => ev 215 28 [(2, 130), (0, x1), (0, x2), (0, x3), (0, (V 132 (374 + x1)))] (z_push x.1 []) x.2.1 x.2.2 := by
  refine Eq.trans (ev_lda (show zcode 215 9 = some (6, 10, 0, 0, []) by decide +kernel) rfl (by decide)) ?_
  refine Eq.trans (ev_gq (show zcode 215 10 = some (56, 13, 12, 4, []) by decide +kernel) (so130 hS) (sp130_4 hS)) ?_
  refine Eq.trans (ev_ci (show zcode 215 13 = some (0, 16, 0, 374, []) by decide +kernel) (by decide)) ?_
  refine Eq.trans (ev_ldi (show zcode 215 16 = some (4, 17, 1, 0, []) by decide +kernel) rfl) ?_
  refine Eq.trans (ev_add (show zcode 215 17 = some (11, 18, 0, 0, []) by decide +kernel) h1) ?_
  refine Eq.trans (ev_ia (show zcode 215 18 = some (60, 19, 0, 0, []) by decide +kernel) (sa132 hS) h2) ?_
  refine Eq.trans (ev_sti (show zcode 215 19 = some (7, 21, 4, 0, []) by decide +kernel) ⟨show 4 < 5 by decide, Or.inr (show ¬ (0 : Nat) = 1 by decide)⟩) ?_
  refine Eq.trans (ev_lda (show zcode 215 21 = some (6, 22, 0, 0, []) by decide +kernel) rfl (by decide)) ?_
  refine Eq.trans (ev_ldi (show zcode 215 22 = some (4, 23, 1, 0, []) by decide +kernel) rfl) ?_
  refine Eq.trans (ev_ldi (show zcode 215 23 = some (4, 24, 2, 0, []) by decide +kernel) rfl) ?_
  refine Eq.trans (ev_ci (show zcode 215 24 = some (0, 25, 0, 0, []) by decide +kernel) (by decide)) ?_
  exact ev_cvirt (show zcode 215 25 = some (76, 28, 187, 4, [12]) by decide +kernel) (args := [(0, x1), (0, x2), (0, 0)]) (rest := []) rfl (so130 hS) rfl (show 0 ≤ 8 by decide) ⟨by decide, show 4 ≤ 4 by decide⟩
theorem b215_28 {T : zT} {V : zM} {x1 : Int} {x2 : Int} {x3 : Int} {x4 : Int} {y0 : Int} (hS : zStr T) (h1 : -2147483648 ≤ (4 * x1) ∧ (4 * x1) ≤ 2147483647) (h2 : -2147483648 ≤ (366 + (4 * x1)) ∧ (366 + (4 * x1)) ≤ 2147483647) : ev 215 28 [(2, 130), (0, x1), (0, x2), (0, x3), (0, x4)] [(0, y0)] T V = if x1 = 0 then ev 215 43 [(2, 130), (0, x1), (0, x2), (0, x3), (0, x4)] [(0, (366 + (4 * x1))), (2, 132), (0, y0)] T V else ev 215 47 [(2, 130), (0, x1), (0, x2), (0, x3), (0, x4)] [(0, (366 + (4 * x1))), (2, 132), (0, y0)] T V := by
  refine Eq.trans (ev_lda (show zcode 215 28 = some (6, 29, 0, 0, []) by decide +kernel) rfl (by decide)) ?_
  refine Eq.trans (ev_gq (show zcode 215 29 = some (56, 32, 12, 4, []) by decide +kernel) (so130 hS) (sp130_4 hS)) ?_
  refine Eq.trans (ev_ci (show zcode 215 32 = some (0, 35, 0, 366, []) by decide +kernel) (by decide)) ?_
  refine Eq.trans (ev_ci (show zcode 215 35 = some (0, 36, 0, 4, []) by decide +kernel) (by decide)) ?_
  refine Eq.trans (ev_ldi (show zcode 215 36 = some (4, 37, 1, 0, []) by decide +kernel) rfl) ?_
  refine Eq.trans (ev_mul (show zcode 215 37 = some (13, 38, 0, 0, []) by decide +kernel) h1) ?_
  refine Eq.trans (ev_add (show zcode 215 38 = some (11, 39, 0, 0, []) by decide +kernel) h2) ?_
  refine Eq.trans (ev_ldi (show zcode 215 39 = some (4, 40, 1, 0, []) by decide +kernel) rfl) ?_
  exact ev_ne (show zcode 215 40 = some (41, 43, 47, 0, []) by decide +kernel)
theorem b215_43 {T : zT} {V : zM} {x1 : Int} {x2 : Int} {x3 : Int} {x4 : Int} {y0 : Int} {y2 : Int} : ev 215 43 [(2, 130), (0, x1), (0, x2), (0, x3), (0, x4)] [(0, y2), (2, 132), (0, y0)] T V = ev 215 53 [(2, 130), (0, x1), (0, x2), (0, x3), (0, x4)] [(0, x3), (0, y2), (2, 132), (0, y0)] T V := by
  refine Eq.trans (ev_ldi (show zcode 215 43 = some (4, 44, 3, 0, []) by decide +kernel) rfl) ?_
  exact ev_goto (show zcode 215 44 = some (53, 47, 53, 0, []) by decide +kernel)
theorem b215_47 {T : zT} {V : zM} {x1 : Int} {x2 : Int} {x3 : Int} {x4 : Int} {y0 : Int} {y2 : Int} (h1 : -2147483648 ≤ (x4 - 1) ∧ (x4 - 1) ≤ 2147483647) (h2 : -2147483648 ≤ ((x4 - 1) - x3) ∧ ((x4 - 1) - x3) ≤ 2147483647) : ev 215 47 [(2, 130), (0, x1), (0, x2), (0, x3), (0, x4)] [(0, y2), (2, 132), (0, y0)] T V = ev 215 53 [(2, 130), (0, x1), (0, x2), (0, x3), (0, x4)] [(0, ((x4 - 1) - x3)), (0, y2), (2, 132), (0, y0)] T V := by
  refine Eq.trans (ev_ldi (show zcode 215 47 = some (4, 49, 4, 0, []) by decide +kernel) rfl) ?_
  refine Eq.trans (ev_ci (show zcode 215 49 = some (0, 50, 0, 1, []) by decide +kernel) (by decide)) ?_
  refine Eq.trans (ev_sub (show zcode 215 50 = some (12, 51, 0, 0, []) by decide +kernel) h1) ?_
  refine Eq.trans (ev_ldi (show zcode 215 51 = some (4, 52, 3, 0, []) by decide +kernel) rfl) ?_
  exact ev_sub (show zcode 215 52 = some (12, 53, 0, 0, []) by decide +kernel) h2
theorem b215_53 {T : zT} {V : zM} {x1 : Int} {x2 : Int} {x3 : Int} {x4 : Int} {y0 : Int} {y2 : Int} {y3 : Int} (hS : zStr T) (h1 : -2147483648 ≤ (y2 + y3) ∧ (y2 + y3) ≤ 2147483647) (h2 : (0 : Int) ≤ (y2 + y3) ∧ (y2 + y3) < 428) : ev 215 53 [(2, 130), (0, x1), (0, x2), (0, x3), (0, x4)] [(0, y3), (0, y2), (2, 132), (0, y0)] T V = if y0 = (V 132 (y2 + y3)) then ev 215 58 [(2, 130), (0, x1), (0, x2), (0, x3), (0, x4)] [] T V else ev 215 62 [(2, 130), (0, x1), (0, x2), (0, x3), (0, x4)] [] T V := by
  refine Eq.trans (ev_add (show zcode 215 53 = some (11, 54, 0, 0, []) by decide +kernel) h1) ?_
  refine Eq.trans (ev_ia (show zcode 215 54 = some (60, 55, 0, 0, []) by decide +kernel) (sa132 hS) h2) ?_
  exact ev_cne (show zcode 215 55 = some (47, 58, 62, 0, []) by decide +kernel)
theorem b215_58 {T : zT} {V : zM} {x1 : Int} {x2 : Int} {x3 : Int} {x4 : Int} : ev 215 58 [(2, 130), (0, x1), (0, x2), (0, x3), (0, x4)] [] T V = ev 215 63 [(2, 130), (0, x1), (0, x2), (0, x3), (0, x4)] [(0, 1)] T V := by
  refine Eq.trans (ev_ci (show zcode 215 58 = some (0, 59, 0, 1, []) by decide +kernel) (by decide)) ?_
  exact ev_goto (show zcode 215 59 = some (53, 62, 63, 0, []) by decide +kernel)
theorem b215_62 {T : zT} {V : zM} {x1 : Int} {x2 : Int} {x3 : Int} {x4 : Int} : ev 215 62 [(2, 130), (0, x1), (0, x2), (0, x3), (0, x4)] [] T V = ev 215 63 [(2, 130), (0, x1), (0, x2), (0, x3), (0, x4)] [(0, 0)] T V := by
  exact ev_ci (show zcode 215 62 = some (0, 63, 0, 0, []) by decide +kernel) (by decide)
theorem b215_63 {T : zT} {V : zM} {x1 : Int} {x2 : Int} {x3 : Int} {x4 : Int} {y0 : Int} (h1 : (0 : Int) ≤ y0 ∧ y0 ≤ 1) : ev 215 63 [(2, 130), (0, x1), (0, x2), (0, x3), (0, x4)] [(0, y0)] T V = some ((0, y0), T, V) := by
  exact ev_rz (show zcode 215 63 = some (72, 64, 3, 0, []) by decide +kernel) h1
/-! 216: TwoWayWallModel.beginsAlike(IIII)Z -/
theorem e216 {T : zT} {V : zM} {x1 : Int} {x2 : Int} {x3 : Int} {x4 : Int} : zcall 216 [(2, 130), (0, x1), (0, x2), (0, x3), (0, x4)] T V = ev 216 0 [(2, 130), (0, x1), (0, x2), (0, x3), (0, x4), (9, 0)] [] T V := rfl
theorem b216_0 {T : zT} {V : zM} {x1 : Int} {x2 : Int} {x3 : Int} {x4 : Int} (hS : zStr T)  : ev 216 0 [(2, 130), (0, x1), (0, x2), (0, x3), (0, x4), (9, 0)] [] T V = (zcall 187 [(2, 130), (0, x1), (0, x2), (0, 1)] T V).bind fun x => ev 216 7 [(2, 130), (0, x1), (0, x2), (0, x3), (0, x4), (9, 0)] (z_push x.1 []) x.2.1 x.2.2 := by
  refine Eq.trans (ev_lda (show zcode 216 0 = some (6, 1, 0, 0, []) by decide +kernel) rfl (by decide)) ?_
  refine Eq.trans (ev_ldi (show zcode 216 1 = some (4, 2, 1, 0, []) by decide +kernel) rfl) ?_
  refine Eq.trans (ev_ldi (show zcode 216 2 = some (4, 3, 2, 0, []) by decide +kernel) rfl) ?_
  refine Eq.trans (ev_ci (show zcode 216 3 = some (0, 4, 0, 1, []) by decide +kernel) (by decide)) ?_
  exact ev_cvirt (show zcode 216 4 = some (76, 7, 187, 4, [12]) by decide +kernel) (args := [(0, x1), (0, x2), (0, 1)]) (rest := []) rfl (so130 hS) rfl (show 0 ≤ 8 by decide) ⟨by decide, show 4 ≤ 4 by decide⟩
theorem b216_7 {T : zT} {V : zM} {x1 : Int} {x2 : Int} {x3 : Int} {x4 : Int} {y0 : Int} : ev 216 7 [(2, 130), (0, x1), (0, x2), (0, x3), (0, x4), (9, 0)] [(0, y0)] T V = if y0 < x4 then ev 216 24 [(2, 130), (0, x1), (0, x2), (0, x3), (0, x4), (9, 0)] [] T V else ev 216 12 [(2, 130), (0, x1), (0, x2), (0, x3), (0, x4), (9, 0)] [] T V := by
  refine Eq.trans (ev_ldi (show zcode 216 7 = some (4, 9, 4, 0, []) by decide +kernel) rfl) ?_
  exact ev_clt (show zcode 216 9 = some (48, 12, 24, 0, []) by decide +kernel)
theorem b216_12 {T : zT} {V : zM} {x1 : Int} {x2 : Int} {x3 : Int} {x4 : Int} (hS : zStr T)  : ev 216 12 [(2, 130), (0, x1), (0, x2), (0, x3), (0, x4), (9, 0)] [] T V = (zcall 187 [(2, 130), (0, x1), (0, x3), (0, 1)] T V).bind fun x => ev 216 19 [(2, 130), (0, x1), (0, x2), (0, x3), (0, x4), (9, 0)] (z_push x.1 []) x.2.1 x.2.2 := by
  refine Eq.trans (ev_lda (show zcode 216 12 = some (6, 13, 0, 0, []) by decide +kernel) rfl (by decide)) ?_
  refine Eq.trans (ev_ldi (show zcode 216 13 = some (4, 14, 1, 0, []) by decide +kernel) rfl) ?_
  refine Eq.trans (ev_ldi (show zcode 216 14 = some (4, 15, 3, 0, []) by decide +kernel) rfl) ?_
  refine Eq.trans (ev_ci (show zcode 216 15 = some (0, 16, 0, 1, []) by decide +kernel) (by decide)) ?_
  exact ev_cvirt (show zcode 216 16 = some (76, 19, 187, 4, [12]) by decide +kernel) (args := [(0, x1), (0, x3), (0, 1)]) (rest := []) rfl (so130 hS) rfl (show 0 ≤ 8 by decide) ⟨by decide, show 4 ≤ 4 by decide⟩
theorem b216_19 {T : zT} {V : zM} {x1 : Int} {x2 : Int} {x3 : Int} {x4 : Int} {y0 : Int} : ev 216 19 [(2, 130), (0, x1), (0, x2), (0, x3), (0, x4), (9, 0)] [(0, y0)] T V = if x4 ≤ y0 then ev 216 26 [(2, 130), (0, x1), (0, x2), (0, x3), (0, x4), (9, 0)] [] T V else ev 216 24 [(2, 130), (0, x1), (0, x2), (0, x3), (0, x4), (9, 0)] [] T V := by
  refine Eq.trans (ev_ldi (show zcode 216 19 = some (4, 21, 4, 0, []) by decide +kernel) rfl) ?_
  exact ev_cge (show zcode 216 21 = some (49, 24, 26, 0, []) by decide +kernel)
theorem b216_24 {T : zT} {V : zM} {x1 : Int} {x2 : Int} {x3 : Int} {x4 : Int} : ev 216 24 [(2, 130), (0, x1), (0, x2), (0, x3), (0, x4), (9, 0)] [] T V = some ((0, 0), T, V) := by
  refine Eq.trans (ev_ci (show zcode 216 24 = some (0, 25, 0, 0, []) by decide +kernel) (by decide)) ?_
  exact ev_rz (show zcode 216 25 = some (72, 26, 3, 0, []) by decide +kernel) (by decide)
theorem b216_26 {T : zT} {V : zM} {x1 : Int} {x2 : Int} {x3 : Int} {x4 : Int} : ev 216 26 [(2, 130), (0, x1), (0, x2), (0, x3), (0, x4), (9, 0)] [] T V = ev 216 29 [(2, 130), (0, x1), (0, x2), (0, x3), (0, x4), (0, 0)] [] T V := by
  refine Eq.trans (ev_ci (show zcode 216 26 = some (0, 27, 0, 0, []) by decide +kernel) (by decide)) ?_
  exact ev_sti (show zcode 216 27 = some (7, 29, 5, 0, []) by decide +kernel) ⟨show 5 < 6 by decide, Or.inr (show ¬ (0 : Nat) = 1 by decide)⟩
theorem b216_29 {T : zT} {V : zM} {x1 : Int} {x2 : Int} {x3 : Int} {x4 : Int} {x5 : Int} : ev 216 29 [(2, 130), (0, x1), (0, x2), (0, x3), (0, x4), (0, x5)] [] T V = if x4 ≤ x5 then ev 216 63 [(2, 130), (0, x1), (0, x2), (0, x3), (0, x4), (0, x5)] [] T V else ev 216 36 [(2, 130), (0, x1), (0, x2), (0, x3), (0, x4), (0, x5)] [] T V := by
  refine Eq.trans (ev_ldi (show zcode 216 29 = some (4, 31, 5, 0, []) by decide +kernel) rfl) ?_
  refine Eq.trans (ev_ldi (show zcode 216 31 = some (4, 33, 4, 0, []) by decide +kernel) rfl) ?_
  exact ev_cge (show zcode 216 33 = some (49, 36, 63, 0, []) by decide +kernel)
theorem b216_36 {T : zT} {V : zM} {x1 : Int} {x2 : Int} {x3 : Int} {x4 : Int} {x5 : Int} (hS : zStr T)  : ev 216 36 [(2, 130), (0, x1), (0, x2), (0, x3), (0, x4), (0, x5)] [] T V = (zcall 217 [(2, 130), (0, x1), (0, x2), (0, x5)] T V).bind fun x => ev 216 44 [(2, 130), (0, x1), (0, x2), (0, x3), (0, x4), (0, x5)] (z_push x.1 []) x.2.1 x.2.2 := by
  refine Eq.trans (ev_lda (show zcode 216 36 = some (6, 37, 0, 0, []) by decide +kernel) rfl (by decide)) ?_
  refine Eq.trans (ev_ldi (show zcode 216 37 = some (4, 38, 1, 0, []) by decide +kernel) rfl) ?_
  refine Eq.trans (ev_ldi (show zcode 216 38 = some (4, 39, 2, 0, []) by decide +kernel) rfl) ?_
  refine Eq.trans (ev_ldi (show zcode 216 39 = some (4, 41, 5, 0, []) by decide +kernel) rfl) ?_
  exact ev_cvirt (show zcode 216 41 = some (76, 44, 217, 4, [12]) by decide +kernel) (args := [(0, x1), (0, x2), (0, x5)]) (rest := []) rfl (so130 hS) rfl (show 0 ≤ 8 by decide) ⟨by decide, show 4 ≤ 4 by decide⟩
theorem b216_44 {T : zT} {V : zM} {x1 : Int} {x2 : Int} {x3 : Int} {x4 : Int} {x5 : Int} {y0 : Int} (hS : zStr T)  : ev 216 44 [(2, 130), (0, x1), (0, x2), (0, x3), (0, x4), (0, x5)] [(0, y0)] T V = (zcall 217 [(2, 130), (0, x1), (0, x3), (0, x5)] T V).bind fun x => ev 216 52 [(2, 130), (0, x1), (0, x2), (0, x3), (0, x4), (0, x5)] (z_push x.1 [(0, y0)]) x.2.1 x.2.2 := by
  refine Eq.trans (ev_lda (show zcode 216 44 = some (6, 45, 0, 0, []) by decide +kernel) rfl (by decide)) ?_
  refine Eq.trans (ev_ldi (show zcode 216 45 = some (4, 46, 1, 0, []) by decide +kernel) rfl) ?_
  refine Eq.trans (ev_ldi (show zcode 216 46 = some (4, 47, 3, 0, []) by decide +kernel) rfl) ?_
  refine Eq.trans (ev_ldi (show zcode 216 47 = some (4, 49, 5, 0, []) by decide +kernel) rfl) ?_
  exact ev_cvirt (show zcode 216 49 = some (76, 52, 217, 4, [12]) by decide +kernel) (args := [(0, x1), (0, x3), (0, x5)]) (rest := [(0, y0)]) rfl (so130 hS) rfl (show 1 ≤ 8 by decide) ⟨by decide, show 4 ≤ 4 by decide⟩
theorem b216_52 {T : zT} {V : zM} {x1 : Int} {x2 : Int} {x3 : Int} {x4 : Int} {x5 : Int} {y0 : Int} {y1 : Int} : ev 216 52 [(2, 130), (0, x1), (0, x2), (0, x3), (0, x4), (0, x5)] [(0, y1), (0, y0)] T V = if y0 = y1 then ev 216 57 [(2, 130), (0, x1), (0, x2), (0, x3), (0, x4), (0, x5)] [] T V else ev 216 55 [(2, 130), (0, x1), (0, x2), (0, x3), (0, x4), (0, x5)] [] T V := by
  exact ev_ceq (show zcode 216 52 = some (46, 55, 57, 0, []) by decide +kernel)
theorem b216_55 {T : zT} {V : zM} {x1 : Int} {x2 : Int} {x3 : Int} {x4 : Int} {x5 : Int} : ev 216 55 [(2, 130), (0, x1), (0, x2), (0, x3), (0, x4), (0, x5)] [] T V = some ((0, 0), T, V) := by
  refine Eq.trans (ev_ci (show zcode 216 55 = some (0, 56, 0, 0, []) by decide +kernel) (by decide)) ?_
  exact ev_rz (show zcode 216 56 = some (72, 57, 3, 0, []) by decide +kernel) (by decide)
theorem b216_57 {T : zT} {V : zM} {x1 : Int} {x2 : Int} {x3 : Int} {x4 : Int} {x5 : Int} (h1 : -2147483648 ≤ (x5 + 1) ∧ (x5 + 1) ≤ 2147483647) : ev 216 57 [(2, 130), (0, x1), (0, x2), (0, x3), (0, x4), (0, x5)] [] T V = ev 216 29 [(2, 130), (0, x1), (0, x2), (0, x3), (0, x4), (0, (x5 + 1))] [] T V := by
  refine Eq.trans (ev_inc (show zcode 216 57 = some (10, 60, 5, 1, []) by decide +kernel) rfl h1 (Or.inr (show ¬ (0 : Nat) = 1 by decide))) ?_
  exact ev_goto (show zcode 216 60 = some (53, 63, 29, 0, []) by decide +kernel)
theorem b216_63 {T : zT} {V : zM} {x1 : Int} {x2 : Int} {x3 : Int} {x4 : Int} {x5 : Int} : ev 216 63 [(2, 130), (0, x1), (0, x2), (0, x3), (0, x4), (0, x5)] [] T V = some ((0, 1), T, V) := by
  refine Eq.trans (ev_ci (show zcode 216 63 = some (0, 64, 0, 1, []) by decide +kernel) (by decide)) ?_
  exact ev_rz (show zcode 216 64 = some (72, 65, 3, 0, []) by decide +kernel) (by decide)
/-! 217: TwoWayWallModel.letterAt(III)I -/
theorem e217 {T : zT} {V : zM} {x1 : Int} {x2 : Int} {x3 : Int} : zcall 217 [(2, 130), (0, x1), (0, x2), (0, x3)] T V = ev 217 0 [(2, 130), (0, x1), (0, x2), (0, x3)] [] T V := rfl
theorem b217_0 {T : zT} {V : zM} {x1 : Int} {x2 : Int} {x3 : Int} : ev 217 0 [(2, 130), (0, x1), (0, x2), (0, x3)] [] T V = if x1 = 0 then ev 217 8 [(2, 130), (0, x1), (0, x2), (0, x3)] [(0, 2), (0, x2), (0, x1), (2, 130)] T V else ev 217 12 [(2, 130), (0, x1), (0, x2), (0, x3)] [(0, 2), (0, x2), (0, x1), (2, 130)] T V := by
  refine Eq.trans (ev_lda (show zcode 217 0 = some (6, 1, 0, 0, []) by decide +kernel) rfl (by decide)) ?_
  refine Eq.trans (ev_ldi (show zcode 217 1 = some (4, 2, 1, 0, []) by decide +kernel) rfl) ?_
  refine Eq.trans (ev_ldi (show zcode 217 2 = some (4, 3, 2, 0, []) by decide +kernel) rfl) ?_
  refine Eq.trans (ev_ci (show zcode 217 3 = some (0, 4, 0, 2, []) by decide +kernel) (by decide)) ?_
  refine Eq.trans (ev_ldi (show zcode 217 4 = some (4, 5, 1, 0, []) by decide +kernel) rfl) ?_
  exact ev_ne (show zcode 217 5 = some (41, 8, 12, 0, []) by decide +kernel)
theorem b217_8 {T : zT} {V : zM} {x1 : Int} {x2 : Int} {x3 : Int} {y1 : Int} {y2 : Int} {y3 : Int} : ev 217 8 [(2, 130), (0, x1), (0, x2), (0, x3)] [(0, y3), (0, y2), (0, y1), (2, 130)] T V = ev 217 23 [(2, 130), (0, x1), (0, x2), (0, x3)] [(0, x3), (0, y3), (0, y2), (0, y1), (2, 130)] T V := by
  refine Eq.trans (ev_ldi (show zcode 217 8 = some (4, 9, 3, 0, []) by decide +kernel) rfl) ?_
  exact ev_goto (show zcode 217 9 = some (53, 12, 23, 0, []) by decide +kernel)
theorem b217_12 {T : zT} {V : zM} {x1 : Int} {x2 : Int} {x3 : Int} {y1 : Int} {y2 : Int} {y3 : Int} (hS : zStr T)  : ev 217 12 [(2, 130), (0, x1), (0, x2), (0, x3)] [(0, y3), (0, y2), (0, y1), (2, 130)] T V = (zcall 187 [(2, 130), (0, x1), (0, x2), (0, 1)] T V).bind fun x => ev 217 19 [(2, 130), (0, x1), (0, x2), (0, x3)] (z_push x.1 [(0, y3), (0, y2), (0, y1), (2, 130)]) x.2.1 x.2.2 := by
  refine Eq.trans (ev_lda (show zcode 217 12 = some (6, 13, 0, 0, []) by decide +kernel) rfl (by decide)) ?_
  refine Eq.trans (ev_ldi (show zcode 217 13 = some (4, 14, 1, 0, []) by decide +kernel) rfl) ?_
  refine Eq.trans (ev_ldi (show zcode 217 14 = some (4, 15, 2, 0, []) by decide +kernel) rfl) ?_
  refine Eq.trans (ev_ci (show zcode 217 15 = some (0, 16, 0, 1, []) by decide +kernel) (by decide)) ?_
  exact ev_cvirt (show zcode 217 16 = some (76, 19, 187, 4, [12]) by decide +kernel) (args := [(0, x1), (0, x2), (0, 1)]) (rest := [(0, y3), (0, y2), (0, y1), (2, 130)]) rfl (so130 hS) rfl (show 4 ≤ 8 by decide) ⟨by decide, show 4 ≤ 4 by decide⟩
theorem b217_19 {T : zT} {V : zM} {x1 : Int} {x2 : Int} {x3 : Int} {y1 : Int} {y2 : Int} {y3 : Int} {y4 : Int} (h1 : -2147483648 ≤ (y4 - 1) ∧ (y4 - 1) ≤ 2147483647) (h2 : -2147483648 ≤ ((y4 - 1) - x3) ∧ ((y4 - 1) - x3) ≤ 2147483647) : ev 217 19 [(2, 130), (0, x1), (0, x2), (0, x3)] [(0, y4), (0, y3), (0, y2), (0, y1), (2, 130)] T V = ev 217 23 [(2, 130), (0, x1), (0, x2), (0, x3)] [(0, ((y4 - 1) - x3)), (0, y3), (0, y2), (0, y1), (2, 130)] T V := by
  refine Eq.trans (ev_ci (show zcode 217 19 = some (0, 20, 0, 1, []) by decide +kernel) (by decide)) ?_
  refine Eq.trans (ev_sub (show zcode 217 20 = some (12, 21, 0, 0, []) by decide +kernel) h1) ?_
  refine Eq.trans (ev_ldi (show zcode 217 21 = some (4, 22, 3, 0, []) by decide +kernel) rfl) ?_
  exact ev_sub (show zcode 217 22 = some (12, 23, 0, 0, []) by decide +kernel) h2
theorem b217_23 {T : zT} {V : zM} {x1 : Int} {x2 : Int} {x3 : Int} {y1 : Int} {y2 : Int} {y3 : Int} {y4 : Int} (hS : zStr T) (h1 : -2147483648 ≤ (y3 + y4) ∧ (y3 + y4) ≤ 2147483647) : ev 217 23 [(2, 130), (0, x1), (0, x2), (0, x3)] [(0, y4), (0, y3), (0, y2), (0, y1), (2, 130)] T V = (zcall 187 [(2, 130), (0, y1), (0, y2), (0, (y3 + y4))] T V).bind fun x => ev 217 27 [(2, 130), (0, x1), (0, x2), (0, x3)] (z_push x.1 []) x.2.1 x.2.2 := by
  refine Eq.trans (ev_add (show zcode 217 23 = some (11, 24, 0, 0, []) by decide +kernel) h1) ?_
  exact ev_cvirt (show zcode 217 24 = some (76, 27, 187, 4, [12]) by decide +kernel) (args := [(0, y1), (0, y2), (0, (y3 + y4))]) (rest := []) rfl (so130 hS) rfl (show 0 ≤ 8 by decide) ⟨by decide, show 4 ≤ 4 by decide⟩
theorem b217_27 {T : zT} {V : zM} {x1 : Int} {x2 : Int} {x3 : Int} {y0 : Int} : ev 217 27 [(2, 130), (0, x1), (0, x2), (0, x3)] [(0, y0)] T V = some ((0, y0), T, V) := by
  exact ev_ri (show zcode 217 27 = some (72, 28, 0, 0, []) by decide +kernel)
/-! 218: TwoWayWallModel.allSorts()V -/
theorem e218 {T : zT} {V : zM}  : zcall 218 [(2, 130)] T V = ev 218 0 [(2, 130), (9, 0)] [] T V := rfl
theorem b218_0 {T : zT} {V : zM}  : ev 218 0 [(2, 130), (9, 0)] [] T V = ev 218 2 [(2, 130), (0, 0)] [] T V := by
  refine Eq.trans (ev_ci (show zcode 218 0 = some (0, 1, 0, 0, []) by decide +kernel) (by decide)) ?_
  exact ev_sti (show zcode 218 1 = some (7, 2, 1, 0, []) by decide +kernel) ⟨show 1 < 2 by decide, Or.inr (show ¬ (2 : Nat) = 1 by decide)⟩
theorem b218_2 {T : zT} {V : zM} {x1 : Int} : ev 218 2 [(2, 130), (0, x1)] [] T V = if 729 ≤ x1 then ev 218 22 [(2, 130), (0, x1)] [] T V else ev 218 9 [(2, 130), (0, x1)] [] T V := by
  refine Eq.trans (ev_ldi (show zcode 218 2 = some (4, 3, 1, 0, []) by decide +kernel) rfl) ?_
  refine Eq.trans (ev_ci (show zcode 218 3 = some (0, 6, 0, 729, []) by decide +kernel) (by decide)) ?_
  exact ev_cge (show zcode 218 6 = some (49, 9, 22, 0, []) by decide +kernel)
theorem b218_9 {T : zT} {V : zM} {x1 : Int} (hS : zStr T) (h1 : (0 : Int) ≤ x1 ∧ x1 < 729) (h2 : -2147483648 ≤ (x1 + 1) ∧ (x1 + 1) ≤ 2147483647) : ev 218 9 [(2, 130), (0, x1)] [] T V = ev 218 2 [(2, 130), (0, (x1 + 1))] [] T (zwr V 150 x1 0) := by
  refine Eq.trans (ev_lda (show zcode 218 9 = some (6, 10, 0, 0, []) by decide +kernel) rfl (by decide)) ?_
  refine Eq.trans (ev_gq (show zcode 218 10 = some (56, 13, 12, 34, []) by decide +kernel) (so130 hS) (sp130_34 hS)) ?_
  refine Eq.trans (ev_ldi (show zcode 218 13 = some (4, 14, 1, 0, []) by decide +kernel) rfl) ?_
  refine Eq.trans (ev_ci (show zcode 218 14 = some (0, 15, 0, 0, []) by decide +kernel) (by decide)) ?_
  refine Eq.trans (ev_is (show zcode 218 15 = some (64, 16, 0, 0, []) by decide +kernel) (sa150 hS) h1) ?_
  refine Eq.trans (ev_inc (show zcode 218 16 = some (10, 19, 1, 1, []) by decide +kernel) rfl h2 (Or.inr (show ¬ (2 : Nat) = 1 by decide))) ?_
  exact ev_goto (show zcode 218 19 = some (53, 22, 2, 0, []) by decide +kernel)
theorem b218_22 {T : zT} {V : zM} {x1 : Int} : ev 218 22 [(2, 130), (0, x1)] [] T V = ev 218 24 [(2, 130), (0, 0)] [] T V := by
  refine Eq.trans (ev_ci (show zcode 218 22 = some (0, 23, 0, 0, []) by decide +kernel) (by decide)) ?_
  exact ev_sti (show zcode 218 23 = some (7, 24, 1, 0, []) by decide +kernel) ⟨show 1 < 2 by decide, Or.inr (show ¬ (2 : Nat) = 1 by decide)⟩
theorem b218_24 {T : zT} {V : zM} {x1 : Int} : ev 218 24 [(2, 130), (0, x1)] [] T V = if 128 ≤ x1 then ev 218 62 [(2, 130), (0, x1)] [] T V else ev 218 31 [(2, 130), (0, x1)] [] T V := by
  refine Eq.trans (ev_ldi (show zcode 218 24 = some (4, 25, 1, 0, []) by decide +kernel) rfl) ?_
  refine Eq.trans (ev_ci (show zcode 218 25 = some (0, 28, 0, 128, []) by decide +kernel) (by decide)) ?_
  exact ev_cge (show zcode 218 28 = some (49, 31, 62, 0, []) by decide +kernel)
theorem b218_31 {T : zT} {V : zM} {x1 : Int} (hS : zStr T) (h1 : (0 : Int) ≤ x1 ∧ x1 < 128) (h2 : -2147483648 ≤ (27 * (V 142 x1)) ∧ (27 * (V 142 x1)) ≤ 2147483647) (h3 : -2147483648 ≤ ((27 * (V 142 x1)) + (V 143 x1)) ∧ ((27 * (V 142 x1)) + (V 143 x1)) ≤ 2147483647) (h4 : (0 : Int) ≤ ((27 * (V 142 x1)) + (V 143 x1)) ∧ ((27 * (V 142 x1)) + (V 143 x1)) < 729) (h5 : -2147483648 ≤ ((V 150 ((27 * (V 142 x1)) + (V 143 x1))) + 1) ∧ ((V 150 ((27 * (V 142 x1)) + (V 143 x1))) + 1) ≤ 2147483647) (h6 : -2147483648 ≤ (x1 + 1) ∧ (x1 + 1) ≤ 2147483647) : ev 218 31 [(2, 130), (0, x1)] [] T V = ev 218 24 [(2, 130), (0, (x1 + 1))] [] T (zwr V 150 ((27 * (V 142 x1)) + (V 143 x1)) ((V 150 ((27 * (V 142 x1)) + (V 143 x1))) + 1)) := by
  refine Eq.trans (ev_lda (show zcode 218 31 = some (6, 32, 0, 0, []) by decide +kernel) rfl (by decide)) ?_
  refine Eq.trans (ev_gq (show zcode 218 32 = some (56, 35, 12, 34, []) by decide +kernel) (so130 hS) (sp130_34 hS)) ?_
  refine Eq.trans (ev_ci (show zcode 218 35 = some (0, 37, 0, 27, []) by decide +kernel) (by decide)) ?_
  refine Eq.trans (ev_lda (show zcode 218 37 = some (6, 38, 0, 0, []) by decide +kernel) rfl (by decide)) ?_
  refine Eq.trans (ev_gq (show zcode 218 38 = some (56, 41, 12, 22, []) by decide +kernel) (so130 hS) (sp130_22 hS)) ?_
  refine Eq.trans (ev_ldi (show zcode 218 41 = some (4, 42, 1, 0, []) by decide +kernel) rfl) ?_
  refine Eq.trans (ev_ia (show zcode 218 42 = some (60, 43, 0, 0, []) by decide +kernel) (sa142 hS) h1) ?_
  refine Eq.trans (ev_mul (show zcode 218 43 = some (13, 44, 0, 0, []) by decide +kernel) h2) ?_
  refine Eq.trans (ev_lda (show zcode 218 44 = some (6, 45, 0, 0, []) by decide +kernel) rfl (by decide)) ?_
  refine Eq.trans (ev_gq (show zcode 218 45 = some (56, 48, 12, 23, []) by decide +kernel) (so130 hS) (sp130_23 hS)) ?_
  refine Eq.trans (ev_ldi (show zcode 218 48 = some (4, 49, 1, 0, []) by decide +kernel) rfl) ?_
  refine Eq.trans (ev_ia (show zcode 218 49 = some (60, 50, 0, 0, []) by decide +kernel) (sa143 hS) h1) ?_
  refine Eq.trans (ev_add (show zcode 218 50 = some (11, 51, 0, 0, []) by decide +kernel) h3) ?_
  refine Eq.trans (ev_dup2 (show zcode 218 51 = some (38, 52, 0, 0, []) by decide +kernel) (by decide)) ?_
  refine Eq.trans (ev_ia (show zcode 218 52 = some (60, 53, 0, 0, []) by decide +kernel) (sa150 hS) h4) ?_
  refine Eq.trans (ev_ci (show zcode 218 53 = some (0, 54, 0, 1, []) by decide +kernel) (by decide)) ?_
  refine Eq.trans (ev_add (show zcode 218 54 = some (11, 55, 0, 0, []) by decide +kernel) h5) ?_
  refine Eq.trans (ev_is (show zcode 218 55 = some (64, 56, 0, 0, []) by decide +kernel) (sa150 hS) h4) ?_
  refine Eq.trans (ev_inc (show zcode 218 56 = some (10, 59, 1, 1, []) by decide +kernel) rfl h6 (Or.inr (show ¬ (2 : Nat) = 1 by decide))) ?_
  exact ev_goto (show zcode 218 59 = some (53, 62, 24, 0, []) by decide +kernel)
theorem b218_62 {T : zT} {V : zM} {x1 : Int} : ev 218 62 [(2, 130), (0, x1)] [] T V = some ((9, 0), T, V) := by
  exact ev_rn (show zcode 218 62 = some (73, 63, 0, 0, []) by decide +kernel)
/-! 219: TwoWayWallModel.starts()V -/
theorem e219 {T : zT} {V : zM}  : zcall 219 [(2, 130)] T V = ev 219 0 [(2, 130), (9, 0), (9, 0)] [] T V := rfl
theorem b219_0 {T : zT} {V : zM}  : ev 219 0 [(2, 130), (9, 0), (9, 0)] [] T V = ev 219 2 [(2, 130), (0, 0), (9, 0)] [] T V := by
  refine Eq.trans (ev_ci (show zcode 219 0 = some (0, 1, 0, 0, []) by decide +kernel) (by decide)) ?_
  exact ev_sti (show zcode 219 1 = some (7, 2, 1, 0, []) by decide +kernel) ⟨show 1 < 3 by decide, Or.inr (show ¬ (2 : Nat) = 1 by decide)⟩
theorem b219_2 {T : zT} {V : zM} {x1 : Int} {v2 : zV} (hS : zStr T)  : ev 219 2 [(2, 130), (0, x1), v2] [] T V = if (V 147 0) ≤ x1 then ev 219 61 [(2, 130), (0, x1), v2] [] T V else ev 219 12 [(2, 130), (0, x1), v2] [] T V := by
  refine Eq.trans (ev_ldi (show zcode 219 2 = some (4, 3, 1, 0, []) by decide +kernel) rfl) ?_
  refine Eq.trans (ev_lda (show zcode 219 3 = some (6, 4, 0, 0, []) by decide +kernel) rfl (by decide)) ?_
  refine Eq.trans (ev_gq (show zcode 219 4 = some (56, 7, 12, 30, []) by decide +kernel) (so130 hS) (sp130_30 hS)) ?_
  refine Eq.trans (ev_ci (show zcode 219 7 = some (0, 8, 0, 0, []) by decide +kernel) (by decide)) ?_
  refine Eq.trans (ev_ia (show zcode 219 8 = some (60, 9, 0, 0, []) by decide +kernel) (sa147 hS) (by decide)) ?_
  exact ev_cge (show zcode 219 9 = some (49, 12, 61, 0, []) by decide +kernel)
theorem b219_12 {T : zT} {V : zM} {x1 : Int} {v2 : zV} : ev 219 12 [(2, 130), (0, x1), v2] [] T V = ev 219 14 [(2, 130), (0, x1), (0, 0)] [] T V := by
  refine Eq.trans (ev_ci (show zcode 219 12 = some (0, 13, 0, 0, []) by decide +kernel) (by decide)) ?_
  exact ev_sti (show zcode 219 13 = some (7, 14, 2, 0, []) by decide +kernel) ⟨show 2 < 3 by decide, Or.inr (show ¬ (0 : Nat) = 1 by decide)⟩
theorem b219_14 {T : zT} {V : zM} {x1 : Int} {x2 : Int} (hS : zStr T)  : ev 219 14 [(2, 130), (0, x1), (0, x2)] [] T V = if (V 147 1) ≤ x2 then ev 219 55 [(2, 130), (0, x1), (0, x2)] [] T V else ev 219 24 [(2, 130), (0, x1), (0, x2)] [] T V := by
  refine Eq.trans (ev_ldi (show zcode 219 14 = some (4, 15, 2, 0, []) by decide +kernel) rfl) ?_
  refine Eq.trans (ev_lda (show zcode 219 15 = some (6, 16, 0, 0, []) by decide +kernel) rfl (by decide)) ?_
  refine Eq.trans (ev_gq (show zcode 219 16 = some (56, 19, 12, 30, []) by decide +kernel) (so130 hS) (sp130_30 hS)) ?_
  refine Eq.trans (ev_ci (show zcode 219 19 = some (0, 20, 0, 1, []) by decide +kernel) (by decide)) ?_
  refine Eq.trans (ev_ia (show zcode 219 20 = some (60, 21, 0, 0, []) by decide +kernel) (sa147 hS) (by decide)) ?_
  exact ev_cge (show zcode 219 21 = some (49, 24, 55, 0, []) by decide +kernel)
theorem b219_24 {T : zT} {V : zM} {x1 : Int} {x2 : Int} (hS : zStr T) (h1 : -2147483648 ≤ (224 * x1) ∧ (224 * x1) ≤ 2147483647) (h2 : -2147483648 ≤ ((224 * x1) + x2) ∧ ((224 * x1) + x2) ≤ 2147483647) : ev 219 24 [(2, 130), (0, x1), (0, x2)] [] T V = if x1 = 0 then ev 219 39 [(2, 130), (0, x1), (0, x2)] [(0, ((224 * x1) + x2)), (2, 148)] T V else ev 219 47 [(2, 130), (0, x1), (0, x2)] [(0, ((224 * x1) + x2)), (2, 148)] T V := by
  refine Eq.trans (ev_lda (show zcode 219 24 = some (6, 25, 0, 0, []) by decide +kernel) rfl (by decide)) ?_
  refine Eq.trans (ev_gq (show zcode 219 25 = some (56, 28, 12, 32, []) by decide +kernel) (so130 hS) (sp130_32 hS)) ?_
  refine Eq.trans (ev_ci (show zcode 219 28 = some (0, 31, 0, 224, []) by decide +kernel) (by decide)) ?_
  refine Eq.trans (ev_ldi (show zcode 219 31 = some (4, 32, 1, 0, []) by decide +kernel) rfl) ?_
  refine Eq.trans (ev_mul (show zcode 219 32 = some (13, 33, 0, 0, []) by decide +kernel) h1) ?_
  refine Eq.trans (ev_ldi (show zcode 219 33 = some (4, 34, 2, 0, []) by decide +kernel) rfl) ?_
  refine Eq.trans (ev_add (show zcode 219 34 = some (11, 35, 0, 0, []) by decide +kernel) h2) ?_
  refine Eq.trans (ev_ldi (show zcode 219 35 = some (4, 36, 1, 0, []) by decide +kernel) rfl) ?_
  exact ev_ne (show zcode 219 36 = some (41, 39, 47, 0, []) by decide +kernel)
theorem b219_39 {T : zT} {V : zM} {x1 : Int} {x2 : Int} {y1 : Int} : ev 219 39 [(2, 130), (0, x1), (0, x2)] [(0, y1), (2, 148)] T V = if x2 = 0 then ev 219 43 [(2, 130), (0, x1), (0, x2)] [(0, y1), (2, 148)] T V else ev 219 47 [(2, 130), (0, x1), (0, x2)] [(0, y1), (2, 148)] T V := by
  refine Eq.trans (ev_ldi (show zcode 219 39 = some (4, 40, 2, 0, []) by decide +kernel) rfl) ?_
  exact ev_ne (show zcode 219 40 = some (41, 43, 47, 0, []) by decide +kernel)
theorem b219_43 {T : zT} {V : zM} {x1 : Int} {x2 : Int} {y1 : Int} : ev 219 43 [(2, 130), (0, x1), (0, x2)] [(0, y1), (2, 148)] T V = ev 219 48 [(2, 130), (0, x1), (0, x2)] [(1, 1), (0, y1), (2, 148)] T V := by
  refine Eq.trans (ev_cl (show zcode 219 43 = some (1, 44, 0, 1, []) by decide +kernel) (by decide)) ?_
  exact ev_goto (show zcode 219 44 = some (53, 47, 48, 0, []) by decide +kernel)
theorem b219_47 {T : zT} {V : zM} {x1 : Int} {x2 : Int} {y1 : Int} : ev 219 47 [(2, 130), (0, x1), (0, x2)] [(0, y1), (2, 148)] T V = ev 219 48 [(2, 130), (0, x1), (0, x2)] [(1, 0), (0, y1), (2, 148)] T V := by
  exact ev_cl (show zcode 219 47 = some (1, 48, 0, 0, []) by decide +kernel) (by decide)
theorem b219_48 {T : zT} {V : zM} {x1 : Int} {x2 : Int} {y1 : Int} {y2 : Int} (hS : zStr T) (h1 : (0 : Int) ≤ y1 ∧ y1 < 50176) (h2 : -2147483648 ≤ (x2 + 1) ∧ (x2 + 1) ≤ 2147483647) : ev 219 48 [(2, 130), (0, x1), (0, x2)] [(1, y2), (0, y1), (2, 148)] T V = ev 219 14 [(2, 130), (0, x1), (0, (x2 + 1))] [] T (zwr V 148 y1 y2) := by
  refine Eq.trans (ev_ls (show zcode 219 48 = some (65, 49, 0, 0, []) by decide +kernel) (sa148 hS) h1) ?_
  refine Eq.trans (ev_inc (show zcode 219 49 = some (10, 52, 2, 1, []) by decide +kernel) rfl h2 (Or.inr (show ¬ (0 : Nat) = 1 by decide))) ?_
  exact ev_goto (show zcode 219 52 = some (53, 55, 14, 0, []) by decide +kernel)
theorem b219_55 {T : zT} {V : zM} {x1 : Int} {x2 : Int} (h1 : -2147483648 ≤ (x1 + 1) ∧ (x1 + 1) ≤ 2147483647) : ev 219 55 [(2, 130), (0, x1), (0, x2)] [] T V = ev 219 2 [(2, 130), (0, (x1 + 1)), (0, x2)] [] T V := by
  refine Eq.trans (ev_inc (show zcode 219 55 = some (10, 58, 1, 1, []) by decide +kernel) rfl h1 (Or.inr (show ¬ (2 : Nat) = 1 by decide))) ?_
  exact ev_goto (show zcode 219 58 = some (53, 61, 2, 0, []) by decide +kernel)
theorem b219_61 {T : zT} {V : zM} {x1 : Int} {v2 : zV} : ev 219 61 [(2, 130), (0, x1), v2] [] T V = some ((9, 0), T, V) := by
  exact ev_rn (show zcode 219 61 = some (73, 62, 0, 0, []) by decide +kernel)
/-! 220: TwoWayWallModel.goesOn()V -/
theorem e220 {T : zT} {V : zM}  : zcall 220 [(2, 130)] T V = ev 220 0 [(2, 130), (9, 0), (9, 0), (9, 0), (9, 0), (9, 0), (9, 0), (9, 0), (9, 0), (9, 0), (9, 0)] [] T V := rfl
theorem b220_0 {T : zT} {V : zM}  : ev 220 0 [(2, 130), (9, 0), (9, 0), (9, 0), (9, 0), (9, 0), (9, 0), (9, 0), (9, 0), (9, 0), (9, 0)] [] T V = ev 220 2 [(2, 130), (0, 0), (9, 0), (9, 0), (9, 0), (9, 0), (9, 0), (9, 0), (9, 0), (9, 0), (9, 0)] [] T V := by
  refine Eq.trans (ev_ci (show zcode 220 0 = some (0, 1, 0, 0, []) by decide +kernel) (by decide)) ?_
  exact ev_sti (show zcode 220 1 = some (7, 2, 1, 0, []) by decide +kernel) ⟨show 1 < 11 by decide, Or.inr (show ¬ (2 : Nat) = 1 by decide)⟩
theorem b220_2 {T : zT} {V : zM} {x1 : Int} {v2 : zV} (hS : zStr T)  : ev 220 2 [(2, 130), (0, x1), v2, (9, 0), (9, 0), (9, 0), (9, 0), (9, 0), (9, 0), (9, 0), (9, 0)] [] T V = if (V 147 0) ≤ x1 then ev 220 49 [(2, 130), (0, x1), v2, (9, 0), (9, 0), (9, 0), (9, 0), (9, 0), (9, 0), (9, 0), (9, 0)] [] T V else ev 220 12 [(2, 130), (0, x1), v2, (9, 0), (9, 0), (9, 0), (9, 0), (9, 0), (9, 0), (9, 0), (9, 0)] [] T V := by
  refine Eq.trans (ev_ldi (show zcode 220 2 = some (4, 3, 1, 0, []) by decide +kernel) rfl) ?_
  refine Eq.trans (ev_lda (show zcode 220 3 = some (6, 4, 0, 0, []) by decide +kernel) rfl (by decide)) ?_
  refine Eq.trans (ev_gq (show zcode 220 4 = some (56, 7, 12, 30, []) by decide +kernel) (so130 hS) (sp130_30 hS)) ?_
  refine Eq.trans (ev_ci (show zcode 220 7 = some (0, 8, 0, 0, []) by decide +kernel) (by decide)) ?_
  refine Eq.trans (ev_ia (show zcode 220 8 = some (60, 9, 0, 0, []) by decide +kernel) (sa147 hS) (by decide)) ?_
  exact ev_cge (show zcode 220 9 = some (49, 12, 49, 0, []) by decide +kernel)
theorem b220_12 {T : zT} {V : zM} {x1 : Int} {v2 : zV} : ev 220 12 [(2, 130), (0, x1), v2, (9, 0), (9, 0), (9, 0), (9, 0), (9, 0), (9, 0), (9, 0), (9, 0)] [] T V = ev 220 14 [(2, 130), (0, x1), (0, 0), (9, 0), (9, 0), (9, 0), (9, 0), (9, 0), (9, 0), (9, 0), (9, 0)] [] T V := by
  refine Eq.trans (ev_ci (show zcode 220 12 = some (0, 13, 0, 0, []) by decide +kernel) (by decide)) ?_
  exact ev_sti (show zcode 220 13 = some (7, 14, 2, 0, []) by decide +kernel) ⟨show 2 < 11 by decide, Or.inr (show ¬ (0 : Nat) = 1 by decide)⟩
theorem b220_14 {T : zT} {V : zM} {x1 : Int} {x2 : Int} (hS : zStr T)  : ev 220 14 [(2, 130), (0, x1), (0, x2), (9, 0), (9, 0), (9, 0), (9, 0), (9, 0), (9, 0), (9, 0), (9, 0)] [] T V = if (V 147 1) ≤ x2 then ev 220 43 [(2, 130), (0, x1), (0, x2), (9, 0), (9, 0), (9, 0), (9, 0), (9, 0), (9, 0), (9, 0), (9, 0)] [] T V else ev 220 24 [(2, 130), (0, x1), (0, x2), (9, 0), (9, 0), (9, 0), (9, 0), (9, 0), (9, 0), (9, 0), (9, 0)] [] T V := by
  refine Eq.trans (ev_ldi (show zcode 220 14 = some (4, 15, 2, 0, []) by decide +kernel) rfl) ?_
  refine Eq.trans (ev_lda (show zcode 220 15 = some (6, 16, 0, 0, []) by decide +kernel) rfl (by decide)) ?_
  refine Eq.trans (ev_gq (show zcode 220 16 = some (56, 19, 12, 30, []) by decide +kernel) (so130 hS) (sp130_30 hS)) ?_
  refine Eq.trans (ev_ci (show zcode 220 19 = some (0, 20, 0, 1, []) by decide +kernel) (by decide)) ?_
  refine Eq.trans (ev_ia (show zcode 220 20 = some (60, 21, 0, 0, []) by decide +kernel) (sa147 hS) (by decide)) ?_
  exact ev_cge (show zcode 220 21 = some (49, 24, 43, 0, []) by decide +kernel)
theorem b220_24 {T : zT} {V : zM} {x1 : Int} {x2 : Int} (hS : zStr T) (h1 : -2147483648 ≤ (224 * x1) ∧ (224 * x1) ≤ 2147483647) (h2 : -2147483648 ≤ ((224 * x1) + x2) ∧ ((224 * x1) + x2) ≤ 2147483647) (h3 : (0 : Int) ≤ ((224 * x1) + x2) ∧ ((224 * x1) + x2) < 50176) (h4 : -2147483648 ≤ (x2 + 1) ∧ (x2 + 1) ≤ 2147483647) : ev 220 24 [(2, 130), (0, x1), (0, x2), (9, 0), (9, 0), (9, 0), (9, 0), (9, 0), (9, 0), (9, 0), (9, 0)] [] T V = ev 220 14 [(2, 130), (0, x1), (0, (x2 + 1)), (9, 0), (9, 0), (9, 0), (9, 0), (9, 0), (9, 0), (9, 0), (9, 0)] [] T (zwr V 149 ((224 * x1) + x2) 0) := by
  refine Eq.trans (ev_lda (show zcode 220 24 = some (6, 25, 0, 0, []) by decide +kernel) rfl (by decide)) ?_
  refine Eq.trans (ev_gq (show zcode 220 25 = some (56, 28, 12, 33, []) by decide +kernel) (so130 hS) (sp130_33 hS)) ?_
  refine Eq.trans (ev_ci (show zcode 220 28 = some (0, 31, 0, 224, []) by decide +kernel) (by decide)) ?_
  refine Eq.trans (ev_ldi (show zcode 220 31 = some (4, 32, 1, 0, []) by decide +kernel) rfl) ?_
  refine Eq.trans (ev_mul (show zcode 220 32 = some (13, 33, 0, 0, []) by decide +kernel) h1) ?_
  refine Eq.trans (ev_ldi (show zcode 220 33 = some (4, 34, 2, 0, []) by decide +kernel) rfl) ?_
  refine Eq.trans (ev_add (show zcode 220 34 = some (11, 35, 0, 0, []) by decide +kernel) h2) ?_
  refine Eq.trans (ev_cl (show zcode 220 35 = some (1, 36, 0, 0, []) by decide +kernel) (by decide)) ?_
  refine Eq.trans (ev_ls (show zcode 220 36 = some (65, 37, 0, 0, []) by decide +kernel) (sa149 hS) h3) ?_
  refine Eq.trans (ev_inc (show zcode 220 37 = some (10, 40, 2, 1, []) by decide +kernel) rfl h4 (Or.inr (show ¬ (0 : Nat) = 1 by decide))) ?_
  exact ev_goto (show zcode 220 40 = some (53, 43, 14, 0, []) by decide +kernel)
theorem b220_43 {T : zT} {V : zM} {x1 : Int} {x2 : Int} (h1 : -2147483648 ≤ (x1 + 1) ∧ (x1 + 1) ≤ 2147483647) : ev 220 43 [(2, 130), (0, x1), (0, x2), (9, 0), (9, 0), (9, 0), (9, 0), (9, 0), (9, 0), (9, 0), (9, 0)] [] T V = ev 220 2 [(2, 130), (0, (x1 + 1)), (0, x2), (9, 0), (9, 0), (9, 0), (9, 0), (9, 0), (9, 0), (9, 0), (9, 0)] [] T V := by
  refine Eq.trans (ev_inc (show zcode 220 43 = some (10, 46, 1, 1, []) by decide +kernel) rfl h1 (Or.inr (show ¬ (2 : Nat) = 1 by decide))) ?_
  exact ev_goto (show zcode 220 46 = some (53, 49, 2, 0, []) by decide +kernel)
theorem b220_49 {T : zT} {V : zM} {x1 : Int} {v2 : zV} : ev 220 49 [(2, 130), (0, x1), v2, (9, 0), (9, 0), (9, 0), (9, 0), (9, 0), (9, 0), (9, 0), (9, 0)] [] T V = ev 220 51 [(2, 130), (0, 0), v2, (9, 0), (9, 0), (9, 0), (9, 0), (9, 0), (9, 0), (9, 0), (9, 0)] [] T V := by
  refine Eq.trans (ev_ci (show zcode 220 49 = some (0, 50, 0, 0, []) by decide +kernel) (by decide)) ?_
  exact ev_sti (show zcode 220 50 = some (7, 51, 1, 0, []) by decide +kernel) ⟨show 1 < 11 by decide, Or.inr (show ¬ (2 : Nat) = 1 by decide)⟩
theorem b220_51 {T : zT} {V : zM} {x1 : Int} {v2 : zV} {v3 : zV} {v4 : zV} {v5 : zV} {v6 : zV} {v7 : zV} {v8 : zV} {v9 : zV} {v10 : zV} (hS : zStr T)  : ev 220 51 [(2, 130), (0, x1), v2, v3, v4, v5, v6, v7, v8, v9, v10] [] T V = if (V 147 0) ≤ x1 then ev 220 257 [(2, 130), (0, x1), v2, v3, v4, v5, v6, v7, v8, v9, v10] [] T V else ev 220 61 [(2, 130), (0, x1), v2, v3, v4, v5, v6, v7, v8, v9, v10] [] T V := by
  refine Eq.trans (ev_ldi (show zcode 220 51 = some (4, 52, 1, 0, []) by decide +kernel) rfl) ?_
  refine Eq.trans (ev_lda (show zcode 220 52 = some (6, 53, 0, 0, []) by decide +kernel) rfl (by decide)) ?_
  refine Eq.trans (ev_gq (show zcode 220 53 = some (56, 56, 12, 30, []) by decide +kernel) (so130 hS) (sp130_30 hS)) ?_
  refine Eq.trans (ev_ci (show zcode 220 56 = some (0, 57, 0, 0, []) by decide +kernel) (by decide)) ?_
  refine Eq.trans (ev_ia (show zcode 220 57 = some (60, 58, 0, 0, []) by decide +kernel) (sa147 hS) (by decide)) ?_
  exact ev_cge (show zcode 220 58 = some (49, 61, 257, 0, []) by decide +kernel)
theorem b220_61 {T : zT} {V : zM} {x1 : Int} {v2 : zV} {v3 : zV} {v4 : zV} {v5 : zV} {v6 : zV} {v7 : zV} {v8 : zV} {v9 : zV} {v10 : zV} : ev 220 61 [(2, 130), (0, x1), v2, v3, v4, v5, v6, v7, v8, v9, v10] [] T V = ev 220 63 [(2, 130), (0, x1), (0, 0), v3, v4, v5, v6, v7, v8, v9, v10] [] T V := by
  refine Eq.trans (ev_ci (show zcode 220 61 = some (0, 62, 0, 0, []) by decide +kernel) (by decide)) ?_
  exact ev_sti (show zcode 220 62 = some (7, 63, 2, 0, []) by decide +kernel) ⟨show 2 < 11 by decide, Or.inr (show ¬ (0 : Nat) = 1 by decide)⟩
theorem b220_63 {T : zT} {V : zM} {x1 : Int} {x2 : Int} {v3 : zV} {v4 : zV} {v5 : zV} {v6 : zV} {v7 : zV} {v8 : zV} {v9 : zV} {v10 : zV} (hS : zStr T)  : ev 220 63 [(2, 130), (0, x1), (0, x2), v3, v4, v5, v6, v7, v8, v9, v10] [] T V = if (V 147 1) ≤ x2 then ev 220 251 [(2, 130), (0, x1), (0, x2), v3, v4, v5, v6, v7, v8, v9, v10] [] T V else ev 220 73 [(2, 130), (0, x1), (0, x2), v3, v4, v5, v6, v7, v8, v9, v10] [] T V := by
  refine Eq.trans (ev_ldi (show zcode 220 63 = some (4, 64, 2, 0, []) by decide +kernel) rfl) ?_
  refine Eq.trans (ev_lda (show zcode 220 64 = some (6, 65, 0, 0, []) by decide +kernel) rfl (by decide)) ?_
  refine Eq.trans (ev_gq (show zcode 220 65 = some (56, 68, 12, 30, []) by decide +kernel) (so130 hS) (sp130_30 hS)) ?_
  refine Eq.trans (ev_ci (show zcode 220 68 = some (0, 69, 0, 1, []) by decide +kernel) (by decide)) ?_
  refine Eq.trans (ev_ia (show zcode 220 69 = some (60, 70, 0, 0, []) by decide +kernel) (sa147 hS) (by decide)) ?_
  exact ev_cge (show zcode 220 70 = some (49, 73, 251, 0, []) by decide +kernel)
theorem b220_73 {T : zT} {V : zM} {x1 : Int} {x2 : Int} {v3 : zV} {v4 : zV} {v5 : zV} {v6 : zV} {v7 : zV} {v8 : zV} {v9 : zV} {v10 : zV} (hS : zStr T) (h1 : -2147483648 ≤ (224 * x1) ∧ (224 * x1) ≤ 2147483647) (h2 : -2147483648 ≤ ((224 * x1) + x2) ∧ ((224 * x1) + x2) ≤ 2147483647) (h3 : (0 : Int) ≤ ((224 * x1) + x2) ∧ ((224 * x1) + x2) < 50176) : ev 220 73 [(2, 130), (0, x1), (0, x2), v3, v4, v5, v6, v7, v8, v9, v10] [] T V = if (V 148 ((224 * x1) + x2)) = 0 then ev 220 92 [(2, 130), (0, x1), (0, x2), (1, (V 148 ((224 * x1) + x2))), (9, 0), v5, v6, v7, v8, v9, v10] [] T V else ev 220 95 [(2, 130), (0, x1), (0, x2), (1, (V 148 ((224 * x1) + x2))), (9, 0), v5, v6, v7, v8, v9, v10] [] T V := by
  refine Eq.trans (ev_lda (show zcode 220 73 = some (6, 74, 0, 0, []) by decide +kernel) rfl (by decide)) ?_
  refine Eq.trans (ev_gq (show zcode 220 74 = some (56, 77, 12, 32, []) by decide +kernel) (so130 hS) (sp130_32 hS)) ?_
  refine Eq.trans (ev_ci (show zcode 220 77 = some (0, 80, 0, 224, []) by decide +kernel) (by decide)) ?_
  refine Eq.trans (ev_ldi (show zcode 220 80 = some (4, 81, 1, 0, []) by decide +kernel) rfl) ?_
  refine Eq.trans (ev_mul (show zcode 220 81 = some (13, 82, 0, 0, []) by decide +kernel) h1) ?_
  refine Eq.trans (ev_ldi (show zcode 220 82 = some (4, 83, 2, 0, []) by decide +kernel) rfl) ?_
  refine Eq.trans (ev_add (show zcode 220 83 = some (11, 84, 0, 0, []) by decide +kernel) h2) ?_
  refine Eq.trans (ev_la (show zcode 220 84 = some (61, 85, 0, 0, []) by decide +kernel) (sa148 hS) h3) ?_
  refine Eq.trans (ev_stl (show zcode 220 85 = some (8, 86, 3, 0, []) by decide +kernel) ⟨show 4 < 11 by decide, Or.inr (show ¬ (0 : Nat) = 1 by decide)⟩) ?_
  refine Eq.trans (ev_ldl (show zcode 220 86 = some (5, 87, 3, 0, []) by decide +kernel) rfl) ?_
  refine Eq.trans (ev_cl (show zcode 220 87 = some (1, 88, 0, 0, []) by decide +kernel) (by decide)) ?_
  exact ev_lne (show zcode 220 88 = some (31, 89, 0, 0, []) by decide +kernel) (show zcode 220 89 = some (41, 92, 95, 0, []) by decide +kernel)
theorem b220_92 {T : zT} {V : zM} {x1 : Int} {x2 : Int} {x3 : Int} {v5 : zV} {v6 : zV} {v7 : zV} {v8 : zV} {v9 : zV} {v10 : zV} : ev 220 92 [(2, 130), (0, x1), (0, x2), (1, x3), (9, 0), v5, v6, v7, v8, v9, v10] [] T V = ev 220 245 [(2, 130), (0, x1), (0, x2), (1, x3), (9, 0), v5, v6, v7, v8, v9, v10] [] T V := by
  exact ev_goto (show zcode 220 92 = some (53, 95, 245, 0, []) by decide +kernel)
theorem b220_95 {T : zT} {V : zM} {x1 : Int} {x2 : Int} {x3 : Int} {v5 : zV} {v6 : zV} {v7 : zV} {v8 : zV} {v9 : zV} {v10 : zV} : ev 220 95 [(2, 130), (0, x1), (0, x2), (1, x3), (9, 0), v5, v6, v7, v8, v9, v10] [] T V = ev 220 98 [(2, 130), (0, x1), (0, x2), (1, x3), (9, 0), (0, 0), v6, v7, v8, v9, v10] [] T V := by
  refine Eq.trans (ev_ci (show zcode 220 95 = some (0, 96, 0, 0, []) by decide +kernel) (by decide)) ?_
  exact ev_sti (show zcode 220 96 = some (7, 98, 5, 0, []) by decide +kernel) ⟨show 5 < 11 by decide, Or.inr (show ¬ (9 : Nat) = 1 by decide)⟩
theorem b220_98 {T : zT} {V : zM} {x1 : Int} {x2 : Int} {x3 : Int} {x5 : Int} {v6 : zV} {v7 : zV} {v8 : zV} {v9 : zV} {v10 : zV} : ev 220 98 [(2, 130), (0, x1), (0, x2), (1, x3), (9, 0), (0, x5), v6, v7, v8, v9, v10] [] T V = if 27 ≤ x5 then ev 220 245 [(2, 130), (0, x1), (0, x2), (1, x3), (9, 0), (0, x5), v6, v7, v8, v9, v10] [] T V else ev 220 105 [(2, 130), (0, x1), (0, x2), (1, x3), (9, 0), (0, x5), v6, v7, v8, v9, v10] [] T V := by
  refine Eq.trans (ev_ldi (show zcode 220 98 = some (4, 100, 5, 0, []) by decide +kernel) rfl) ?_
  refine Eq.trans (ev_ci (show zcode 220 100 = some (0, 102, 0, 27, []) by decide +kernel) (by decide)) ?_
  exact ev_cge (show zcode 220 102 = some (49, 105, 245, 0, []) by decide +kernel)
theorem b220_105 {T : zT} {V : zM} {x1 : Int} {x2 : Int} {x3 : Int} {x5 : Int} {v6 : zV} {v7 : zV} {v8 : zV} {v9 : zV} {v10 : zV} (hS : zStr T)  : ev 220 105 [(2, 130), (0, x1), (0, x2), (1, x3), (9, 0), (0, x5), v6, v7, v8, v9, v10] [] T V = (zcall 221 [(2, 130), (0, 0), (0, x1), (0, x5)] T V).bind fun x => ev 220 113 [(2, 130), (0, x1), (0, x2), (1, x3), (9, 0), (0, x5), v6, v7, v8, v9, v10] (z_push x.1 []) x.2.1 x.2.2 := by
  refine Eq.trans (ev_lda (show zcode 220 105 = some (6, 106, 0, 0, []) by decide +kernel) rfl (by decide)) ?_
  refine Eq.trans (ev_ci (show zcode 220 106 = some (0, 107, 0, 0, []) by decide +kernel) (by decide)) ?_
  refine Eq.trans (ev_ldi (show zcode 220 107 = some (4, 108, 1, 0, []) by decide +kernel) rfl) ?_
  refine Eq.trans (ev_ldi (show zcode 220 108 = some (4, 110, 5, 0, []) by decide +kernel) rfl) ?_
  exact ev_cvirt (show zcode 220 110 = some (76, 113, 221, 4, [12]) by decide +kernel) (args := [(0, 0), (0, x1), (0, x5)]) (rest := []) rfl (so130 hS) rfl (show 0 ≤ 8 by decide) ⟨by decide, show 4 ≤ 4 by decide⟩
theorem b220_113 {T : zT} {V : zM} {x1 : Int} {x2 : Int} {x3 : Int} {x5 : Int} {v6 : zV} {v7 : zV} {v8 : zV} {v9 : zV} {v10 : zV} {y0 : Int} : ev 220 113 [(2, 130), (0, x1), (0, x2), (1, x3), (9, 0), (0, x5), v6, v7, v8, v9, v10] [(0, y0)] T V = if y0 = (-1) then ev 220 121 [(2, 130), (0, x1), (0, x2), (1, x3), (9, 0), (0, x5), (0, y0), v7, v8, v9, v10] [] T V else ev 220 124 [(2, 130), (0, x1), (0, x2), (1, x3), (9, 0), (0, x5), (0, y0), v7, v8, v9, v10] [] T V := by
  refine Eq.trans (ev_sti (show zcode 220 113 = some (7, 115, 6, 0, []) by decide +kernel) ⟨show 6 < 11 by decide, Or.inr (show ¬ (0 : Nat) = 1 by decide)⟩) ?_
  refine Eq.trans (ev_ldi (show zcode 220 115 = some (4, 117, 6, 0, []) by decide +kernel) rfl) ?_
  refine Eq.trans (ev_ci (show zcode 220 117 = some (0, 118, 0, (-1), []) by decide +kernel) (by decide)) ?_
  exact ev_cne (show zcode 220 118 = some (47, 121, 124, 0, []) by decide +kernel)
theorem b220_121 {T : zT} {V : zM} {x1 : Int} {x2 : Int} {x3 : Int} {x5 : Int} {x6 : Int} {v7 : zV} {v8 : zV} {v9 : zV} {v10 : zV} : ev 220 121 [(2, 130), (0, x1), (0, x2), (1, x3), (9, 0), (0, x5), (0, x6), v7, v8, v9, v10] [] T V = ev 220 239 [(2, 130), (0, x1), (0, x2), (1, x3), (9, 0), (0, x5), (0, x6), v7, v8, v9, v10] [] T V := by
  exact ev_goto (show zcode 220 121 = some (53, 124, 239, 0, []) by decide +kernel)
theorem b220_124 {T : zT} {V : zM} {x1 : Int} {x2 : Int} {x3 : Int} {x5 : Int} {x6 : Int} {v7 : zV} {v8 : zV} {v9 : zV} {v10 : zV} : ev 220 124 [(2, 130), (0, x1), (0, x2), (1, x3), (9, 0), (0, x5), (0, x6), v7, v8, v9, v10] [] T V = ev 220 127 [(2, 130), (0, x1), (0, x2), (1, x3), (9, 0), (0, x5), (0, x6), (0, 0), v8, v9, v10] [] T V := by
  refine Eq.trans (ev_ci (show zcode 220 124 = some (0, 125, 0, 0, []) by decide +kernel) (by decide)) ?_
  exact ev_sti (show zcode 220 125 = some (7, 127, 7, 0, []) by decide +kernel) ⟨show 7 < 11 by decide, Or.inr (show ¬ (0 : Nat) = 1 by decide)⟩
theorem b220_127 {T : zT} {V : zM} {x1 : Int} {x2 : Int} {x3 : Int} {x5 : Int} {x6 : Int} {x7 : Int} {v8 : zV} {v9 : zV} {v10 : zV} : ev 220 127 [(2, 130), (0, x1), (0, x2), (1, x3), (9, 0), (0, x5), (0, x6), (0, x7), v8, v9, v10] [] T V = if 27 ≤ x7 then ev 220 239 [(2, 130), (0, x1), (0, x2), (1, x3), (9, 0), (0, x5), (0, x6), (0, x7), v8, v9, v10] [] T V else ev 220 134 [(2, 130), (0, x1), (0, x2), (1, x3), (9, 0), (0, x5), (0, x6), (0, x7), v8, v9, v10] [] T V := by
  refine Eq.trans (ev_ldi (show zcode 220 127 = some (4, 129, 7, 0, []) by decide +kernel) rfl) ?_
  refine Eq.trans (ev_ci (show zcode 220 129 = some (0, 131, 0, 27, []) by decide +kernel) (by decide)) ?_
  exact ev_cge (show zcode 220 131 = some (49, 134, 239, 0, []) by decide +kernel)
theorem b220_134 {T : zT} {V : zM} {x1 : Int} {x2 : Int} {x3 : Int} {x5 : Int} {x6 : Int} {x7 : Int} {v8 : zV} {v9 : zV} {v10 : zV} (hS : zStr T)  : ev 220 134 [(2, 130), (0, x1), (0, x2), (1, x3), (9, 0), (0, x5), (0, x6), (0, x7), v8, v9, v10] [] T V = (zcall 221 [(2, 130), (0, 1), (0, x2), (0, x7)] T V).bind fun x => ev 220 142 [(2, 130), (0, x1), (0, x2), (1, x3), (9, 0), (0, x5), (0, x6), (0, x7), v8, v9, v10] (z_push x.1 []) x.2.1 x.2.2 := by
  refine Eq.trans (ev_lda (show zcode 220 134 = some (6, 135, 0, 0, []) by decide +kernel) rfl (by decide)) ?_
  refine Eq.trans (ev_ci (show zcode 220 135 = some (0, 136, 0, 1, []) by decide +kernel) (by decide)) ?_
  refine Eq.trans (ev_ldi (show zcode 220 136 = some (4, 137, 2, 0, []) by decide +kernel) rfl) ?_
  refine Eq.trans (ev_ldi (show zcode 220 137 = some (4, 139, 7, 0, []) by decide +kernel) rfl) ?_
  exact ev_cvirt (show zcode 220 139 = some (76, 142, 221, 4, [12]) by decide +kernel) (args := [(0, 1), (0, x2), (0, x7)]) (rest := []) rfl (so130 hS) rfl (show 0 ≤ 8 by decide) ⟨by decide, show 4 ≤ 4 by decide⟩
theorem b220_142 {T : zT} {V : zM} {x1 : Int} {x2 : Int} {x3 : Int} {x5 : Int} {x6 : Int} {x7 : Int} {v8 : zV} {v9 : zV} {v10 : zV} {y0 : Int} : ev 220 142 [(2, 130), (0, x1), (0, x2), (1, x3), (9, 0), (0, x5), (0, x6), (0, x7), v8, v9, v10] [(0, y0)] T V = if y0 = (-1) then ev 220 233 [(2, 130), (0, x1), (0, x2), (1, x3), (9, 0), (0, x5), (0, x6), (0, x7), (0, y0), v9, v10] [] T V else ev 220 150 [(2, 130), (0, x1), (0, x2), (1, x3), (9, 0), (0, x5), (0, x6), (0, x7), (0, y0), v9, v10] [] T V := by
  refine Eq.trans (ev_sti (show zcode 220 142 = some (7, 144, 8, 0, []) by decide +kernel) ⟨show 8 < 11 by decide, Or.inr (show ¬ (0 : Nat) = 1 by decide)⟩) ?_
  refine Eq.trans (ev_ldi (show zcode 220 144 = some (4, 146, 8, 0, []) by decide +kernel) rfl) ?_
  refine Eq.trans (ev_ci (show zcode 220 146 = some (0, 147, 0, (-1), []) by decide +kernel) (by decide)) ?_
  exact ev_ceq (show zcode 220 147 = some (46, 150, 233, 0, []) by decide +kernel)
theorem b220_150 {T : zT} {V : zM} {x1 : Int} {x2 : Int} {x3 : Int} {x5 : Int} {x6 : Int} {x7 : Int} {x8 : Int} {v9 : zV} {v10 : zV} (hS : zStr T) (h1 : -2147483648 ≤ (27 * x5) ∧ (27 * x5) ≤ 2147483647) (h2 : -2147483648 ≤ ((27 * x5) + x7) ∧ ((27 * x5) + x7) ≤ 2147483647) (h3 : (0 : Int) ≤ ((27 * x5) + x7) ∧ ((27 * x5) + x7) < 729) : ev 220 150 [(2, 130), (0, x1), (0, x2), (1, x3), (9, 0), (0, x5), (0, x6), (0, x7), (0, x8), v9, v10] [] T V = if (V 150 ((27 * x5) + x7)) = 0 then ev 220 166 [(2, 130), (0, x1), (0, x2), (1, x3), (9, 0), (0, x5), (0, x6), (0, x7), (0, x8), v9, v10] [] T V else ev 220 169 [(2, 130), (0, x1), (0, x2), (1, x3), (9, 0), (0, x5), (0, x6), (0, x7), (0, x8), v9, v10] [] T V := by
  refine Eq.trans (ev_lda (show zcode 220 150 = some (6, 151, 0, 0, []) by decide +kernel) rfl (by decide)) ?_
  refine Eq.trans (ev_gq (show zcode 220 151 = some (56, 154, 12, 34, []) by decide +kernel) (so130 hS) (sp130_34 hS)) ?_
  refine Eq.trans (ev_ci (show zcode 220 154 = some (0, 156, 0, 27, []) by decide +kernel) (by decide)) ?_
  refine Eq.trans (ev_ldi (show zcode 220 156 = some (4, 158, 5, 0, []) by decide +kernel) rfl) ?_
  refine Eq.trans (ev_mul (show zcode 220 158 = some (13, 159, 0, 0, []) by decide +kernel) h1) ?_
  refine Eq.trans (ev_ldi (show zcode 220 159 = some (4, 161, 7, 0, []) by decide +kernel) rfl) ?_
  refine Eq.trans (ev_add (show zcode 220 161 = some (11, 162, 0, 0, []) by decide +kernel) h2) ?_
  refine Eq.trans (ev_ia (show zcode 220 162 = some (60, 163, 0, 0, []) by decide +kernel) (sa150 hS) h3) ?_
  exact ev_ne (show zcode 220 163 = some (41, 166, 169, 0, []) by decide +kernel)
theorem b220_166 {T : zT} {V : zM} {x1 : Int} {x2 : Int} {x3 : Int} {x5 : Int} {x6 : Int} {x7 : Int} {x8 : Int} {v9 : zV} {v10 : zV} : ev 220 166 [(2, 130), (0, x1), (0, x2), (1, x3), (9, 0), (0, x5), (0, x6), (0, x7), (0, x8), v9, v10] [] T V = ev 220 233 [(2, 130), (0, x1), (0, x2), (1, x3), (9, 0), (0, x5), (0, x6), (0, x7), (0, x8), v9, v10] [] T V := by
  exact ev_goto (show zcode 220 166 = some (53, 169, 233, 0, []) by decide +kernel)
theorem b220_169 {T : zT} {V : zM} {x1 : Int} {x2 : Int} {x3 : Int} {x5 : Int} {x6 : Int} {x7 : Int} {x8 : Int} {v9 : zV} {v10 : zV} (hS : zStr T) (h1 : -2147483648 ≤ (224 * x6) ∧ (224 * x6) ≤ 2147483647) (h2 : -2147483648 ≤ ((224 * x6) + x8) ∧ ((224 * x6) + x8) ≤ 2147483647) (h3 : (0 : Int) ≤ ((224 * x6) + x8) ∧ ((224 * x6) + x8) < 50176) (h4 : -2147483648 ≤ (27 * x5) ∧ (27 * x5) ≤ 2147483647) (h5 : -2147483648 ≤ ((27 * x5) + x7) ∧ ((27 * x5) + x7) ≤ 2147483647) (h6 : (0 : Int) ≤ ((27 * x5) + x7) ∧ ((27 * x5) + x7) < 729) (h7 : -9223372036854775808 ≤ (x3 * (V 150 ((27 * x5) + x7))) ∧ (x3 * (V 150 ((27 * x5) + x7))) ≤ 9223372036854775807) (h8 : -9223372036854775808 ≤ ((V 149 ((224 * x6) + x8)) + (x3 * (V 150 ((27 * x5) + x7)))) ∧ ((V 149 ((224 * x6) + x8)) + (x3 * (V 150 ((27 * x5) + x7)))) ≤ 9223372036854775807) : ev 220 169 [(2, 130), (0, x1), (0, x2), (1, x3), (9, 0), (0, x5), (0, x6), (0, x7), (0, x8), v9, v10] [] T V = if ((V 149 ((224 * x6) + x8)) + (x3 * (V 150 ((27 * x5) + x7)))) ≤ 1000000000000 then ev 220 230 [(2, 130), (0, x1), (0, x2), (1, x3), (9, 0), (0, x5), (0, x6), (0, x7), (0, x8), (1, ((V 149 ((224 * x6) + x8)) + (x3 * (V 150 ((27 * x5) + x7))))), (9, 0)] [(0, ((224 * x6) + x8)), (2, 149)] T V else ev 220 224 [(2, 130), (0, x1), (0, x2), (1, x3), (9, 0), (0, x5), (0, x6), (0, x7), (0, x8), (1, ((V 149 ((224 * x6) + x8)) + (x3 * (V 150 ((27 * x5) + x7))))), (9, 0)] [(0, ((224 * x6) + x8)), (2, 149)] T V := by
  refine Eq.trans (ev_lda (show zcode 220 169 = some (6, 170, 0, 0, []) by decide +kernel) rfl (by decide)) ?_
  refine Eq.trans (ev_gq (show zcode 220 170 = some (56, 173, 12, 33, []) by decide +kernel) (so130 hS) (sp130_33 hS)) ?_
  refine Eq.trans (ev_ci (show zcode 220 173 = some (0, 176, 0, 224, []) by decide +kernel) (by decide)) ?_
  refine Eq.trans (ev_ldi (show zcode 220 176 = some (4, 178, 6, 0, []) by decide +kernel) rfl) ?_
  refine Eq.trans (ev_mul (show zcode 220 178 = some (13, 179, 0, 0, []) by decide +kernel) h1) ?_
  refine Eq.trans (ev_ldi (show zcode 220 179 = some (4, 181, 8, 0, []) by decide +kernel) rfl) ?_
  refine Eq.trans (ev_add (show zcode 220 181 = some (11, 182, 0, 0, []) by decide +kernel) h2) ?_
  refine Eq.trans (ev_la (show zcode 220 182 = some (61, 183, 0, 0, []) by decide +kernel) (sa149 hS) h3) ?_
  refine Eq.trans (ev_ldl (show zcode 220 183 = some (5, 184, 3, 0, []) by decide +kernel) rfl) ?_
  refine Eq.trans (ev_lda (show zcode 220 184 = some (6, 185, 0, 0, []) by decide +kernel) rfl (by decide)) ?_
  refine Eq.trans (ev_gq (show zcode 220 185 = some (56, 188, 12, 34, []) by decide +kernel) (so130 hS) (sp130_34 hS)) ?_
  refine Eq.trans (ev_ci (show zcode 220 188 = some (0, 190, 0, 27, []) by decide +kernel) (by decide)) ?_
  refine Eq.trans (ev_ldi (show zcode 220 190 = some (4, 192, 5, 0, []) by decide +kernel) rfl) ?_
  refine Eq.trans (ev_mul (show zcode 220 192 = some (13, 193, 0, 0, []) by decide +kernel) h4) ?_
  refine Eq.trans (ev_ldi (show zcode 220 193 = some (4, 195, 7, 0, []) by decide +kernel) rfl) ?_
  refine Eq.trans (ev_add (show zcode 220 195 = some (11, 196, 0, 0, []) by decide +kernel) h5) ?_
  refine Eq.trans (ev_ia (show zcode 220 196 = some (60, 197, 0, 0, []) by decide +kernel) (sa150 hS) h6) ?_
  refine Eq.trans (ev_i2l (show zcode 220 197 = some (32, 198, 0, 0, []) by decide +kernel)) ?_
  refine Eq.trans (ev_lmul (show zcode 220 198 = some (25, 199, 0, 0, []) by decide +kernel) h7) ?_
  refine Eq.trans (ev_ladd (show zcode 220 199 = some (23, 200, 0, 0, []) by decide +kernel) h8) ?_
  refine Eq.trans (ev_stl (show zcode 220 200 = some (8, 202, 9, 0, []) by decide +kernel) ⟨show 10 < 11 by decide, Or.inr (show ¬ (0 : Nat) = 1 by decide)⟩) ?_
  refine Eq.trans (ev_lda (show zcode 220 202 = some (6, 203, 0, 0, []) by decide +kernel) rfl (by decide)) ?_
  refine Eq.trans (ev_gq (show zcode 220 203 = some (56, 206, 12, 33, []) by decide +kernel) (so130 hS) (sp130_33 hS)) ?_
  refine Eq.trans (ev_ci (show zcode 220 206 = some (0, 209, 0, 224, []) by decide +kernel) (by decide)) ?_
  refine Eq.trans (ev_ldi (show zcode 220 209 = some (4, 211, 6, 0, []) by decide +kernel) rfl) ?_
  refine Eq.trans (ev_mul (show zcode 220 211 = some (13, 212, 0, 0, []) by decide +kernel) h1) ?_
  refine Eq.trans (ev_ldi (show zcode 220 212 = some (4, 214, 8, 0, []) by decide +kernel) rfl) ?_
  refine Eq.trans (ev_add (show zcode 220 214 = some (11, 215, 0, 0, []) by decide +kernel) h2) ?_
  refine Eq.trans (ev_ldl (show zcode 220 215 = some (5, 217, 9, 0, []) by decide +kernel) rfl) ?_
  refine Eq.trans (ev_cl (show zcode 220 217 = some (1, 220, 0, 1000000000000, []) by decide +kernel) (by decide)) ?_
  exact ev_lle (show zcode 220 220 = some (31, 221, 0, 0, []) by decide +kernel) (show zcode 220 221 = some (45, 224, 230, 0, []) by decide +kernel)
theorem b220_224 {T : zT} {V : zM} {x1 : Int} {x2 : Int} {x3 : Int} {x5 : Int} {x6 : Int} {x7 : Int} {x8 : Int} {x9 : Int} {y1 : Int} : ev 220 224 [(2, 130), (0, x1), (0, x2), (1, x3), (9, 0), (0, x5), (0, x6), (0, x7), (0, x8), (1, x9), (9, 0)] [(0, y1), (2, 149)] T V = ev 220 232 [(2, 130), (0, x1), (0, x2), (1, x3), (9, 0), (0, x5), (0, x6), (0, x7), (0, x8), (1, x9), (9, 0)] [(1, 1000000000000), (0, y1), (2, 149)] T V := by
  refine Eq.trans (ev_cl (show zcode 220 224 = some (1, 227, 0, 1000000000000, []) by decide +kernel) (by decide)) ?_
  exact ev_goto (show zcode 220 227 = some (53, 230, 232, 0, []) by decide +kernel)
theorem b220_230 {T : zT} {V : zM} {x1 : Int} {x2 : Int} {x3 : Int} {x5 : Int} {x6 : Int} {x7 : Int} {x8 : Int} {x9 : Int} {y1 : Int} : ev 220 230 [(2, 130), (0, x1), (0, x2), (1, x3), (9, 0), (0, x5), (0, x6), (0, x7), (0, x8), (1, x9), (9, 0)] [(0, y1), (2, 149)] T V = ev 220 232 [(2, 130), (0, x1), (0, x2), (1, x3), (9, 0), (0, x5), (0, x6), (0, x7), (0, x8), (1, x9), (9, 0)] [(1, x9), (0, y1), (2, 149)] T V := by
  exact ev_ldl (show zcode 220 230 = some (5, 232, 9, 0, []) by decide +kernel) rfl
theorem b220_232 {T : zT} {V : zM} {x1 : Int} {x2 : Int} {x3 : Int} {x5 : Int} {x6 : Int} {x7 : Int} {x8 : Int} {x9 : Int} {y1 : Int} {y2 : Int} (hS : zStr T) (h1 : (0 : Int) ≤ y1 ∧ y1 < 50176) : ev 220 232 [(2, 130), (0, x1), (0, x2), (1, x3), (9, 0), (0, x5), (0, x6), (0, x7), (0, x8), (1, x9), (9, 0)] [(1, y2), (0, y1), (2, 149)] T V = ev 220 233 [(2, 130), (0, x1), (0, x2), (1, x3), (9, 0), (0, x5), (0, x6), (0, x7), (0, x8), (1, x9), (9, 0)] [] T (zwr V 149 y1 y2) := by
  exact ev_ls (show zcode 220 232 = some (65, 233, 0, 0, []) by decide +kernel) (sa149 hS) h1
theorem b220_233 {T : zT} {V : zM} {x1 : Int} {x2 : Int} {x3 : Int} {x5 : Int} {x6 : Int} {x7 : Int} {x8 : Int} {v9 : zV} {v10 : zV} (h1 : -2147483648 ≤ (x7 + 1) ∧ (x7 + 1) ≤ 2147483647) : ev 220 233 [(2, 130), (0, x1), (0, x2), (1, x3), (9, 0), (0, x5), (0, x6), (0, x7), (0, x8), v9, v10] [] T V = ev 220 127 [(2, 130), (0, x1), (0, x2), (1, x3), (9, 0), (0, x5), (0, x6), (0, (x7 + 1)), (0, x8), v9, v10] [] T V := by
  refine Eq.trans (ev_inc (show zcode 220 233 = some (10, 236, 7, 1, []) by decide +kernel) rfl h1 (Or.inr (show ¬ (0 : Nat) = 1 by decide))) ?_
  exact ev_goto (show zcode 220 236 = some (53, 239, 127, 0, []) by decide +kernel)
theorem b220_239 {T : zT} {V : zM} {x1 : Int} {x2 : Int} {x3 : Int} {x5 : Int} {x6 : Int} {v7 : zV} {v8 : zV} {v9 : zV} {v10 : zV} (h1 : -2147483648 ≤ (x5 + 1) ∧ (x5 + 1) ≤ 2147483647) : ev 220 239 [(2, 130), (0, x1), (0, x2), (1, x3), (9, 0), (0, x5), (0, x6), v7, v8, v9, v10] [] T V = ev 220 98 [(2, 130), (0, x1), (0, x2), (1, x3), (9, 0), (0, (x5 + 1)), (0, x6), v7, v8, v9, v10] [] T V := by
  refine Eq.trans (ev_inc (show zcode 220 239 = some (10, 242, 5, 1, []) by decide +kernel) rfl h1 (Or.inr (show ¬ (9 : Nat) = 1 by decide))) ?_
  exact ev_goto (show zcode 220 242 = some (53, 245, 98, 0, []) by decide +kernel)
theorem b220_245 {T : zT} {V : zM} {x1 : Int} {x2 : Int} {x3 : Int} {v5 : zV} {v6 : zV} {v7 : zV} {v8 : zV} {v9 : zV} {v10 : zV} (h1 : -2147483648 ≤ (x2 + 1) ∧ (x2 + 1) ≤ 2147483647) : ev 220 245 [(2, 130), (0, x1), (0, x2), (1, x3), (9, 0), v5, v6, v7, v8, v9, v10] [] T V = ev 220 63 [(2, 130), (0, x1), (0, (x2 + 1)), (1, x3), (9, 0), v5, v6, v7, v8, v9, v10] [] T V := by
  refine Eq.trans (ev_inc (show zcode 220 245 = some (10, 248, 2, 1, []) by decide +kernel) rfl h1 (Or.inr (show ¬ (0 : Nat) = 1 by decide))) ?_
  exact ev_goto (show zcode 220 248 = some (53, 251, 63, 0, []) by decide +kernel)
theorem b220_251 {T : zT} {V : zM} {x1 : Int} {x2 : Int} {v3 : zV} {v4 : zV} {v5 : zV} {v6 : zV} {v7 : zV} {v8 : zV} {v9 : zV} {v10 : zV} (h1 : -2147483648 ≤ (x1 + 1) ∧ (x1 + 1) ≤ 2147483647) : ev 220 251 [(2, 130), (0, x1), (0, x2), v3, v4, v5, v6, v7, v8, v9, v10] [] T V = ev 220 51 [(2, 130), (0, (x1 + 1)), (0, x2), v3, v4, v5, v6, v7, v8, v9, v10] [] T V := by
  refine Eq.trans (ev_inc (show zcode 220 251 = some (10, 254, 1, 1, []) by decide +kernel) rfl h1 (Or.inr (show ¬ (2 : Nat) = 1 by decide))) ?_
  exact ev_goto (show zcode 220 254 = some (53, 257, 51, 0, []) by decide +kernel)
theorem b220_257 {T : zT} {V : zM} {x1 : Int} {v2 : zV} {v3 : zV} {v4 : zV} {v5 : zV} {v6 : zV} {v7 : zV} {v8 : zV} {v9 : zV} {v10 : zV} : ev 220 257 [(2, 130), (0, x1), v2, v3, v4, v5, v6, v7, v8, v9, v10] [] T V = ev 220 259 [(2, 130), (0, 0), v2, v3, v4, v5, v6, v7, v8, v9, v10] [] T V := by
  refine Eq.trans (ev_ci (show zcode 220 257 = some (0, 258, 0, 0, []) by decide +kernel) (by decide)) ?_
  exact ev_sti (show zcode 220 258 = some (7, 259, 1, 0, []) by decide +kernel) ⟨show 1 < 11 by decide, Or.inr (show ¬ (2 : Nat) = 1 by decide)⟩
theorem b220_259 {T : zT} {V : zM} {x1 : Int} {v2 : zV} {v3 : zV} {v4 : zV} {v5 : zV} {v6 : zV} {v7 : zV} {v8 : zV} {v9 : zV} {v10 : zV} (hS : zStr T)  : ev 220 259 [(2, 130), (0, x1), v2, v3, v4, v5, v6, v7, v8, v9, v10] [] T V = if (V 147 0) ≤ x1 then ev 220 317 [(2, 130), (0, x1), v2, v3, v4, v5, v6, v7, v8, v9, v10] [] T V else ev 220 269 [(2, 130), (0, x1), v2, v3, v4, v5, v6, v7, v8, v9, v10] [] T V := by
  refine Eq.trans (ev_ldi (show zcode 220 259 = some (4, 260, 1, 0, []) by decide +kernel) rfl) ?_
  refine Eq.trans (ev_lda (show zcode 220 260 = some (6, 261, 0, 0, []) by decide +kernel) rfl (by decide)) ?_
  refine Eq.trans (ev_gq (show zcode 220 261 = some (56, 264, 12, 30, []) by decide +kernel) (so130 hS) (sp130_30 hS)) ?_
  refine Eq.trans (ev_ci (show zcode 220 264 = some (0, 265, 0, 0, []) by decide +kernel) (by decide)) ?_
  refine Eq.trans (ev_ia (show zcode 220 265 = some (60, 266, 0, 0, []) by decide +kernel) (sa147 hS) (by decide)) ?_
  exact ev_cge (show zcode 220 266 = some (49, 269, 317, 0, []) by decide +kernel)
theorem b220_269 {T : zT} {V : zM} {x1 : Int} {v2 : zV} {v3 : zV} {v4 : zV} {v5 : zV} {v6 : zV} {v7 : zV} {v8 : zV} {v9 : zV} {v10 : zV} : ev 220 269 [(2, 130), (0, x1), v2, v3, v4, v5, v6, v7, v8, v9, v10] [] T V = ev 220 271 [(2, 130), (0, x1), (0, 0), v3, v4, v5, v6, v7, v8, v9, v10] [] T V := by
  refine Eq.trans (ev_ci (show zcode 220 269 = some (0, 270, 0, 0, []) by decide +kernel) (by decide)) ?_
  exact ev_sti (show zcode 220 270 = some (7, 271, 2, 0, []) by decide +kernel) ⟨show 2 < 11 by decide, Or.inr (show ¬ (0 : Nat) = 1 by decide)⟩
theorem b220_271 {T : zT} {V : zM} {x1 : Int} {x2 : Int} {v3 : zV} {v4 : zV} {v5 : zV} {v6 : zV} {v7 : zV} {v8 : zV} {v9 : zV} {v10 : zV} (hS : zStr T)  : ev 220 271 [(2, 130), (0, x1), (0, x2), v3, v4, v5, v6, v7, v8, v9, v10] [] T V = if (V 147 1) ≤ x2 then ev 220 311 [(2, 130), (0, x1), (0, x2), v3, v4, v5, v6, v7, v8, v9, v10] [] T V else ev 220 281 [(2, 130), (0, x1), (0, x2), v3, v4, v5, v6, v7, v8, v9, v10] [] T V := by
  refine Eq.trans (ev_ldi (show zcode 220 271 = some (4, 272, 2, 0, []) by decide +kernel) rfl) ?_
  refine Eq.trans (ev_lda (show zcode 220 272 = some (6, 273, 0, 0, []) by decide +kernel) rfl (by decide)) ?_
  refine Eq.trans (ev_gq (show zcode 220 273 = some (56, 276, 12, 30, []) by decide +kernel) (so130 hS) (sp130_30 hS)) ?_
  refine Eq.trans (ev_ci (show zcode 220 276 = some (0, 277, 0, 1, []) by decide +kernel) (by decide)) ?_
  refine Eq.trans (ev_ia (show zcode 220 277 = some (60, 278, 0, 0, []) by decide +kernel) (sa147 hS) (by decide)) ?_
  exact ev_cge (show zcode 220 278 = some (49, 281, 311, 0, []) by decide +kernel)
theorem b220_281 {T : zT} {V : zM} {x1 : Int} {x2 : Int} {v3 : zV} {v4 : zV} {v5 : zV} {v6 : zV} {v7 : zV} {v8 : zV} {v9 : zV} {v10 : zV} (hS : zStr T) (h1 : -2147483648 ≤ (224 * x1) ∧ (224 * x1) ≤ 2147483647) (h2 : -2147483648 ≤ ((224 * x1) + x2) ∧ ((224 * x1) + x2) ≤ 2147483647) (h3 : (0 : Int) ≤ ((224 * x1) + x2) ∧ ((224 * x1) + x2) < 50176) (h4 : -2147483648 ≤ (x2 + 1) ∧ (x2 + 1) ≤ 2147483647) : ev 220 281 [(2, 130), (0, x1), (0, x2), v3, v4, v5, v6, v7, v8, v9, v10] [] T V = ev 220 271 [(2, 130), (0, x1), (0, (x2 + 1)), v3, v4, v5, v6, v7, v8, v9, v10] [] T (zwr V 148 ((224 * x1) + x2) (V 149 ((224 * x1) + x2))) := by
  refine Eq.trans (ev_lda (show zcode 220 281 = some (6, 282, 0, 0, []) by decide +kernel) rfl (by decide)) ?_
  refine Eq.trans (ev_gq (show zcode 220 282 = some (56, 285, 12, 32, []) by decide +kernel) (so130 hS) (sp130_32 hS)) ?_
  refine Eq.trans (ev_ci (show zcode 220 285 = some (0, 288, 0, 224, []) by decide +kernel) (by decide)) ?_
  refine Eq.trans (ev_ldi (show zcode 220 288 = some (4, 289, 1, 0, []) by decide +kernel) rfl) ?_
  refine Eq.trans (ev_mul (show zcode 220 289 = some (13, 290, 0, 0, []) by decide +kernel) h1) ?_
  refine Eq.trans (ev_ldi (show zcode 220 290 = some (4, 291, 2, 0, []) by decide +kernel) rfl) ?_
  refine Eq.trans (ev_add (show zcode 220 291 = some (11, 292, 0, 0, []) by decide +kernel) h2) ?_
  refine Eq.trans (ev_lda (show zcode 220 292 = some (6, 293, 0, 0, []) by decide +kernel) rfl (by decide)) ?_
  refine Eq.trans (ev_gq (show zcode 220 293 = some (56, 296, 12, 33, []) by decide +kernel) (so130 hS) (sp130_33 hS)) ?_
  refine Eq.trans (ev_ci (show zcode 220 296 = some (0, 299, 0, 224, []) by decide +kernel) (by decide)) ?_
  refine Eq.trans (ev_ldi (show zcode 220 299 = some (4, 300, 1, 0, []) by decide +kernel) rfl) ?_
  refine Eq.trans (ev_mul (show zcode 220 300 = some (13, 301, 0, 0, []) by decide +kernel) h1) ?_
  refine Eq.trans (ev_ldi (show zcode 220 301 = some (4, 302, 2, 0, []) by decide +kernel) rfl) ?_
  refine Eq.trans (ev_add (show zcode 220 302 = some (11, 303, 0, 0, []) by decide +kernel) h2) ?_
  refine Eq.trans (ev_la (show zcode 220 303 = some (61, 304, 0, 0, []) by decide +kernel) (sa149 hS) h3) ?_
  refine Eq.trans (ev_ls (show zcode 220 304 = some (65, 305, 0, 0, []) by decide +kernel) (sa148 hS) h3) ?_
  refine Eq.trans (ev_inc (show zcode 220 305 = some (10, 308, 2, 1, []) by decide +kernel) rfl h4 (Or.inr (show ¬ (0 : Nat) = 1 by decide))) ?_
  exact ev_goto (show zcode 220 308 = some (53, 311, 271, 0, []) by decide +kernel)
theorem b220_311 {T : zT} {V : zM} {x1 : Int} {x2 : Int} {v3 : zV} {v4 : zV} {v5 : zV} {v6 : zV} {v7 : zV} {v8 : zV} {v9 : zV} {v10 : zV} (h1 : -2147483648 ≤ (x1 + 1) ∧ (x1 + 1) ≤ 2147483647) : ev 220 311 [(2, 130), (0, x1), (0, x2), v3, v4, v5, v6, v7, v8, v9, v10] [] T V = ev 220 259 [(2, 130), (0, (x1 + 1)), (0, x2), v3, v4, v5, v6, v7, v8, v9, v10] [] T V := by
  refine Eq.trans (ev_inc (show zcode 220 311 = some (10, 314, 1, 1, []) by decide +kernel) rfl h1 (Or.inr (show ¬ (2 : Nat) = 1 by decide))) ?_
  exact ev_goto (show zcode 220 314 = some (53, 317, 259, 0, []) by decide +kernel)
theorem b220_317 {T : zT} {V : zM} {x1 : Int} {v2 : zV} {v3 : zV} {v4 : zV} {v5 : zV} {v6 : zV} {v7 : zV} {v8 : zV} {v9 : zV} {v10 : zV} : ev 220 317 [(2, 130), (0, x1), v2, v3, v4, v5, v6, v7, v8, v9, v10] [] T V = some ((9, 0), T, V) := by
  exact ev_rn (show zcode 220 317 = some (73, 318, 0, 0, []) by decide +kernel)
/-! 221: TwoWayWallModel.stepOf(III)I -/
theorem e221 {T : zT} {V : zM} {x1 : Int} {x2 : Int} {x3 : Int} : zcall 221 [(2, 130), (0, x1), (0, x2), (0, x3)] T V = ev 221 0 [(2, 130), (0, x1), (0, x2), (0, x3)] [] T V := rfl
theorem b221_0 {T : zT} {V : zM} {x1 : Int} {x2 : Int} {x3 : Int} (hS : zStr T) (h1 : -2147483648 ≤ (224 * x1) ∧ (224 * x1) ≤ 2147483647) (h2 : -2147483648 ≤ ((224 * x1) + x2) ∧ ((224 * x1) + x2) ≤ 2147483647) (h3 : -2147483648 ≤ (((224 * x1) + x2) * 27) ∧ (((224 * x1) + x2) * 27) ≤ 2147483647) (h4 : -2147483648 ≤ ((((224 * x1) + x2) * 27) + x3) ∧ ((((224 * x1) + x2) * 27) + x3) ≤ 2147483647) (h5 : (0 : Int) ≤ ((((224 * x1) + x2) * 27) + x3) ∧ ((((224 * x1) + x2) * 27) + x3) < 12096) : ev 221 0 [(2, 130), (0, x1), (0, x2), (0, x3)] [] T V = some ((0, (V 145 ((((224 * x1) + x2) * 27) + x3))), T, V) := by
  refine Eq.trans (ev_lda (show zcode 221 0 = some (6, 1, 0, 0, []) by decide +kernel) rfl (by decide)) ?_
  refine Eq.trans (ev_gq (show zcode 221 1 = some (56, 4, 12, 28, []) by decide +kernel) (so130 hS) (sp130_28 hS)) ?_
  refine Eq.trans (ev_ci (show zcode 221 4 = some (0, 7, 0, 224, []) by decide +kernel) (by decide)) ?_
  refine Eq.trans (ev_ldi (show zcode 221 7 = some (4, 8, 1, 0, []) by decide +kernel) rfl) ?_
  refine Eq.trans (ev_mul (show zcode 221 8 = some (13, 9, 0, 0, []) by decide +kernel) h1) ?_
  refine Eq.trans (ev_ldi (show zcode 221 9 = some (4, 10, 2, 0, []) by decide +kernel) rfl) ?_
  refine Eq.trans (ev_add (show zcode 221 10 = some (11, 11, 0, 0, []) by decide +kernel) h2) ?_
  refine Eq.trans (ev_ci (show zcode 221 11 = some (0, 13, 0, 27, []) by decide +kernel) (by decide)) ?_
  refine Eq.trans (ev_mul (show zcode 221 13 = some (13, 14, 0, 0, []) by decide +kernel) h3) ?_
  refine Eq.trans (ev_ldi (show zcode 221 14 = some (4, 15, 3, 0, []) by decide +kernel) rfl) ?_
  refine Eq.trans (ev_add (show zcode 221 15 = some (11, 16, 0, 0, []) by decide +kernel) h4) ?_
  refine Eq.trans (ev_ia (show zcode 221 16 = some (60, 17, 0, 0, []) by decide +kernel) (sa145 hS) h5) ?_
  exact ev_ri (show zcode 221 17 = some (72, 18, 0, 0, []) by decide +kernel)
/-! 222: TwoWayWallModel.closed()J -/
theorem e222 {T : zT} {V : zM}  : zcall 222 [(2, 130)] T V = ev 222 0 [(2, 130), (9, 0), (9, 0), (9, 0), (9, 0)] [] T V := rfl
theorem b222_0 {T : zT} {V : zM}  : ev 222 0 [(2, 130), (9, 0), (9, 0), (9, 0), (9, 0)] [] T V = ev 222 4 [(2, 130), (1, 0), (9, 0), (0, 0), (9, 0)] [] T V := by
  refine Eq.trans (ev_cl (show zcode 222 0 = some (1, 1, 0, 0, []) by decide +kernel) (by decide)) ?_
  refine Eq.trans (ev_stl (show zcode 222 1 = some (8, 2, 1, 0, []) by decide +kernel) ⟨show 2 < 5 by decide, Or.inr (show ¬ (2 : Nat) = 1 by decide)⟩) ?_
  refine Eq.trans (ev_ci (show zcode 222 2 = some (0, 3, 0, 0, []) by decide +kernel) (by decide)) ?_
  exact ev_sti (show zcode 222 3 = some (7, 4, 3, 0, []) by decide +kernel) ⟨show 3 < 5 by decide, Or.inr (show ¬ (9 : Nat) = 1 by decide)⟩
theorem b222_4 {T : zT} {V : zM} {x1 : Int} {x3 : Int} {v4 : zV} (hS : zStr T)  : ev 222 4 [(2, 130), (1, x1), (9, 0), (0, x3), v4] [] T V = if (V 147 0) ≤ x3 then ev 222 79 [(2, 130), (1, x1), (9, 0), (0, x3), v4] [] T V else ev 222 14 [(2, 130), (1, x1), (9, 0), (0, x3), v4] [] T V := by
  refine Eq.trans (ev_ldi (show zcode 222 4 = some (4, 5, 3, 0, []) by decide +kernel) rfl) ?_
  refine Eq.trans (ev_lda (show zcode 222 5 = some (6, 6, 0, 0, []) by decide +kernel) rfl (by decide)) ?_
  refine Eq.trans (ev_gq (show zcode 222 6 = some (56, 9, 12, 30, []) by decide +kernel) (so130 hS) (sp130_30 hS)) ?_
  refine Eq.trans (ev_ci (show zcode 222 9 = some (0, 10, 0, 0, []) by decide +kernel) (by decide)) ?_
  refine Eq.trans (ev_ia (show zcode 222 10 = some (60, 11, 0, 0, []) by decide +kernel) (sa147 hS) (by decide)) ?_
  exact ev_cge (show zcode 222 11 = some (49, 14, 79, 0, []) by decide +kernel)
theorem b222_14 {T : zT} {V : zM} {x1 : Int} {x3 : Int} {v4 : zV} : ev 222 14 [(2, 130), (1, x1), (9, 0), (0, x3), v4] [] T V = ev 222 17 [(2, 130), (1, x1), (9, 0), (0, x3), (0, 0)] [] T V := by
  refine Eq.trans (ev_ci (show zcode 222 14 = some (0, 15, 0, 0, []) by decide +kernel) (by decide)) ?_
  exact ev_sti (show zcode 222 15 = some (7, 17, 4, 0, []) by decide +kernel) ⟨show 4 < 5 by decide, Or.inr (show ¬ (0 : Nat) = 1 by decide)⟩
theorem b222_17 {T : zT} {V : zM} {x1 : Int} {x3 : Int} {x4 : Int} (hS : zStr T)  : ev 222 17 [(2, 130), (1, x1), (9, 0), (0, x3), (0, x4)] [] T V = if (V 147 1) ≤ x4 then ev 222 73 [(2, 130), (1, x1), (9, 0), (0, x3), (0, x4)] [] T V else ev 222 28 [(2, 130), (1, x1), (9, 0), (0, x3), (0, x4)] [] T V := by
  refine Eq.trans (ev_ldi (show zcode 222 17 = some (4, 19, 4, 0, []) by decide +kernel) rfl) ?_
  refine Eq.trans (ev_lda (show zcode 222 19 = some (6, 20, 0, 0, []) by decide +kernel) rfl (by decide)) ?_
  refine Eq.trans (ev_gq (show zcode 222 20 = some (56, 23, 12, 30, []) by decide +kernel) (so130 hS) (sp130_30 hS)) ?_
  refine Eq.trans (ev_ci (show zcode 222 23 = some (0, 24, 0, 1, []) by decide +kernel) (by decide)) ?_
  refine Eq.trans (ev_ia (show zcode 222 24 = some (60, 25, 0, 0, []) by decide +kernel) (sa147 hS) (by decide)) ?_
  exact ev_cge (show zcode 222 25 = some (49, 28, 73, 0, []) by decide +kernel)
theorem b222_28 {T : zT} {V : zM} {x1 : Int} {x3 : Int} {x4 : Int} (hS : zStr T) (h1 : (0 : Int) ≤ x3 ∧ x3 < 448) : ev 222 28 [(2, 130), (1, x1), (9, 0), (0, x3), (0, x4)] [] T V = if (V 146 x3) = 0 then ev 222 67 [(2, 130), (1, x1), (9, 0), (0, x3), (0, x4)] [] T V else ev 222 37 [(2, 130), (1, x1), (9, 0), (0, x3), (0, x4)] [] T V := by
  refine Eq.trans (ev_lda (show zcode 222 28 = some (6, 29, 0, 0, []) by decide +kernel) rfl (by decide)) ?_
  refine Eq.trans (ev_gq (show zcode 222 29 = some (56, 32, 12, 29, []) by decide +kernel) (so130 hS) (sp130_29 hS)) ?_
  refine Eq.trans (ev_ldi (show zcode 222 32 = some (4, 33, 3, 0, []) by decide +kernel) rfl) ?_
  refine Eq.trans (ev_za (show zcode 222 33 = some (62, 34, 0, 0, []) by decide +kernel) (sa146 hS) h1) ?_
  exact ev_eq (show zcode 222 34 = some (40, 37, 67, 0, []) by decide +kernel)
theorem b222_37 {T : zT} {V : zM} {x1 : Int} {x3 : Int} {x4 : Int} (hS : zStr T) (h1 : -2147483648 ≤ (224 + x4) ∧ (224 + x4) ≤ 2147483647) (h2 : (0 : Int) ≤ (224 + x4) ∧ (224 + x4) < 448) : ev 222 37 [(2, 130), (1, x1), (9, 0), (0, x3), (0, x4)] [] T V = if (V 146 (224 + x4)) = 0 then ev 222 67 [(2, 130), (1, x1), (9, 0), (0, x3), (0, x4)] [] T V else ev 222 51 [(2, 130), (1, x1), (9, 0), (0, x3), (0, x4)] [] T V := by
  refine Eq.trans (ev_lda (show zcode 222 37 = some (6, 38, 0, 0, []) by decide +kernel) rfl (by decide)) ?_
  refine Eq.trans (ev_gq (show zcode 222 38 = some (56, 41, 12, 29, []) by decide +kernel) (so130 hS) (sp130_29 hS)) ?_
  refine Eq.trans (ev_ci (show zcode 222 41 = some (0, 44, 0, 224, []) by decide +kernel) (by decide)) ?_
  refine Eq.trans (ev_ldi (show zcode 222 44 = some (4, 46, 4, 0, []) by decide +kernel) rfl) ?_
  refine Eq.trans (ev_add (show zcode 222 46 = some (11, 47, 0, 0, []) by decide +kernel) h1) ?_
  refine Eq.trans (ev_za (show zcode 222 47 = some (62, 48, 0, 0, []) by decide +kernel) (sa146 hS) h2) ?_
  exact ev_eq (show zcode 222 48 = some (40, 51, 67, 0, []) by decide +kernel)
theorem b222_51 {T : zT} {V : zM} {x1 : Int} {x3 : Int} {x4 : Int} (hS : zStr T) (h1 : -2147483648 ≤ (224 * x3) ∧ (224 * x3) ≤ 2147483647) (h2 : -2147483648 ≤ ((224 * x3) + x4) ∧ ((224 * x3) + x4) ≤ 2147483647) (h3 : (0 : Int) ≤ ((224 * x3) + x4) ∧ ((224 * x3) + x4) < 50176) (h4 : -9223372036854775808 ≤ (x1 + (V 148 ((224 * x3) + x4))) ∧ (x1 + (V 148 ((224 * x3) + x4))) ≤ 9223372036854775807) : ev 222 51 [(2, 130), (1, x1), (9, 0), (0, x3), (0, x4)] [] T V = ev 222 67 [(2, 130), (1, (x1 + (V 148 ((224 * x3) + x4)))), (9, 0), (0, x3), (0, x4)] [] T V := by
  refine Eq.trans (ev_ldl (show zcode 222 51 = some (5, 52, 1, 0, []) by decide +kernel) rfl) ?_
  refine Eq.trans (ev_lda (show zcode 222 52 = some (6, 53, 0, 0, []) by decide +kernel) rfl (by decide)) ?_
  refine Eq.trans (ev_gq (show zcode 222 53 = some (56, 56, 12, 32, []) by decide +kernel) (so130 hS) (sp130_32 hS)) ?_
  refine Eq.trans (ev_ci (show zcode 222 56 = some (0, 59, 0, 224, []) by decide +kernel) (by decide)) ?_
  refine Eq.trans (ev_ldi (show zcode 222 59 = some (4, 60, 3, 0, []) by decide +kernel) rfl) ?_
  refine Eq.trans (ev_mul (show zcode 222 60 = some (13, 61, 0, 0, []) by decide +kernel) h1) ?_
  refine Eq.trans (ev_ldi (show zcode 222 61 = some (4, 63, 4, 0, []) by decide +kernel) rfl) ?_
  refine Eq.trans (ev_add (show zcode 222 63 = some (11, 64, 0, 0, []) by decide +kernel) h2) ?_
  refine Eq.trans (ev_la (show zcode 222 64 = some (61, 65, 0, 0, []) by decide +kernel) (sa148 hS) h3) ?_
  refine Eq.trans (ev_ladd (show zcode 222 65 = some (23, 66, 0, 0, []) by decide +kernel) h4) ?_
  exact ev_stl (show zcode 222 66 = some (8, 67, 1, 0, []) by decide +kernel) ⟨show 2 < 5 by decide, Or.inr (show ¬ (2 : Nat) = 1 by decide)⟩
theorem b222_67 {T : zT} {V : zM} {x1 : Int} {x3 : Int} {x4 : Int} (h1 : -2147483648 ≤ (x4 + 1) ∧ (x4 + 1) ≤ 2147483647) : ev 222 67 [(2, 130), (1, x1), (9, 0), (0, x3), (0, x4)] [] T V = ev 222 17 [(2, 130), (1, x1), (9, 0), (0, x3), (0, (x4 + 1))] [] T V := by
  refine Eq.trans (ev_inc (show zcode 222 67 = some (10, 70, 4, 1, []) by decide +kernel) rfl h1 (Or.inr (show ¬ (0 : Nat) = 1 by decide))) ?_
  exact ev_goto (show zcode 222 70 = some (53, 73, 17, 0, []) by decide +kernel)
theorem b222_73 {T : zT} {V : zM} {x1 : Int} {x3 : Int} {x4 : Int} (h1 : -2147483648 ≤ (x3 + 1) ∧ (x3 + 1) ≤ 2147483647) : ev 222 73 [(2, 130), (1, x1), (9, 0), (0, x3), (0, x4)] [] T V = ev 222 4 [(2, 130), (1, x1), (9, 0), (0, (x3 + 1)), (0, x4)] [] T V := by
  refine Eq.trans (ev_inc (show zcode 222 73 = some (10, 76, 3, 1, []) by decide +kernel) rfl h1 (Or.inr (show ¬ (9 : Nat) = 1 by decide))) ?_
  exact ev_goto (show zcode 222 76 = some (53, 79, 4, 0, []) by decide +kernel)
theorem b222_79 {T : zT} {V : zM} {x1 : Int} {x3 : Int} {v4 : zV} : ev 222 79 [(2, 130), (1, x1), (9, 0), (0, x3), v4] [] T V = if x1 ≤ 1000000000000 then ev 222 93 [(2, 130), (1, x1), (9, 0), (0, x3), v4] [] T V else ev 222 87 [(2, 130), (1, x1), (9, 0), (0, x3), v4] [] T V := by
  refine Eq.trans (ev_ldl (show zcode 222 79 = some (5, 80, 1, 0, []) by decide +kernel) rfl) ?_
  refine Eq.trans (ev_cl (show zcode 222 80 = some (1, 83, 0, 1000000000000, []) by decide +kernel) (by decide)) ?_
  exact ev_lle (show zcode 222 83 = some (31, 84, 0, 0, []) by decide +kernel) (show zcode 222 84 = some (45, 87, 93, 0, []) by decide +kernel)
theorem b222_87 {T : zT} {V : zM} {x1 : Int} {x3 : Int} {v4 : zV} : ev 222 87 [(2, 130), (1, x1), (9, 0), (0, x3), v4] [] T V = ev 222 94 [(2, 130), (1, x1), (9, 0), (0, x3), v4] [(1, 1000000000000)] T V := by
  refine Eq.trans (ev_cl (show zcode 222 87 = some (1, 90, 0, 1000000000000, []) by decide +kernel) (by decide)) ?_
  exact ev_goto (show zcode 222 90 = some (53, 93, 94, 0, []) by decide +kernel)
theorem b222_93 {T : zT} {V : zM} {x1 : Int} {x3 : Int} {v4 : zV} : ev 222 93 [(2, 130), (1, x1), (9, 0), (0, x3), v4] [] T V = ev 222 94 [(2, 130), (1, x1), (9, 0), (0, x3), v4] [(1, x1)] T V := by
  exact ev_ldl (show zcode 222 93 = some (5, 94, 1, 0, []) by decide +kernel) rfl
theorem b222_94 {T : zT} {V : zM} {x1 : Int} {x3 : Int} {v4 : zV} {y0 : Int} : ev 222 94 [(2, 130), (1, x1), (9, 0), (0, x3), v4] [(1, y0)] T V = some ((1, y0), T, V) := by
  exact ev_rl (show zcode 222 94 = some (72, 95, 1, 0, []) by decide +kernel)
/-! 223: TwoWayWallModel.lengths(I)I -/
theorem e223 {T : zT} {V : zM} {x1 : Int} : zcall 223 [(2, 130), (0, x1)] T V = ev 223 0 [(2, 130), (0, x1), (9, 0), (9, 0)] [] T V := rfl
theorem b223_0 {T : zT} {V : zM} {x1 : Int} : ev 223 0 [(2, 130), (0, x1), (9, 0), (9, 0)] [] T V = if (-1) ≤ x1 then ev 223 7 [(2, 130), (0, x1), (9, 0), (9, 0)] [] T V else ev 223 5 [(2, 130), (0, x1), (9, 0), (9, 0)] [] T V := by
  refine Eq.trans (ev_ldi (show zcode 223 0 = some (4, 1, 1, 0, []) by decide +kernel) rfl) ?_
  refine Eq.trans (ev_ci (show zcode 223 1 = some (0, 2, 0, (-1), []) by decide +kernel) (by decide)) ?_
  exact ev_cge (show zcode 223 2 = some (49, 5, 7, 0, []) by decide +kernel)
theorem b223_5 {T : zT} {V : zM} {x1 : Int} : ev 223 5 [(2, 130), (0, x1), (9, 0), (9, 0)] [] T V = some ((0, (-1)), T, V) := by
  refine Eq.trans (ev_ci (show zcode 223 5 = some (0, 6, 0, (-1), []) by decide +kernel) (by decide)) ?_
  exact ev_ri (show zcode 223 6 = some (72, 7, 0, 0, []) by decide +kernel)
theorem b223_7 {T : zT} {V : zM} {x1 : Int} (hS : zStr T)  : ev 223 7 [(2, 130), (0, x1), (9, 0), (9, 0)] [] T V = (zcall 211 [(2, 130), (0, 0)] T V).bind fun x => ev 223 12 [(2, 130), (0, x1), (9, 0), (9, 0)] (z_push x.1 []) x.2.1 x.2.2 := by
  refine Eq.trans (ev_lda (show zcode 223 7 = some (6, 8, 0, 0, []) by decide +kernel) rfl (by decide)) ?_
  refine Eq.trans (ev_ci (show zcode 223 8 = some (0, 9, 0, 0, []) by decide +kernel) (by decide)) ?_
  exact ev_cvirt (show zcode 223 9 = some (76, 12, 211, 2, [12]) by decide +kernel) (args := [(0, 0)]) (rest := []) rfl (so130 hS) rfl (show 0 ≤ 8 by decide) ⟨by decide, show 2 ≤ 2 by decide⟩
theorem b223_12 {T : zT} {V : zM} {x1 : Int} (hS : zStr T)  : ev 223 12 [(2, 130), (0, x1), (9, 0), (9, 0)] [] T V = (zcall 218 [(2, 130)] T V).bind fun x => ev 223 16 [(2, 130), (0, x1), (9, 0), (9, 0)] (z_push x.1 []) x.2.1 x.2.2 := by
  refine Eq.trans (ev_lda (show zcode 223 12 = some (6, 13, 0, 0, []) by decide +kernel) rfl (by decide)) ?_
  exact ev_cvirt (show zcode 223 13 = some (76, 16, 218, 1, [12]) by decide +kernel) (args := []) (rest := []) rfl (so130 hS) rfl (show 0 ≤ 8 by decide) ⟨by decide, show 1 ≤ 2 by decide⟩
theorem b223_16 {T : zT} {V : zM} {x1 : Int} (hS : zStr T)  : ev 223 16 [(2, 130), (0, x1), (9, 0), (9, 0)] [] T V = (zcall 219 [(2, 130)] T V).bind fun x => ev 223 20 [(2, 130), (0, x1), (9, 0), (9, 0)] (z_push x.1 []) x.2.1 x.2.2 := by
  refine Eq.trans (ev_lda (show zcode 223 16 = some (6, 17, 0, 0, []) by decide +kernel) rfl (by decide)) ?_
  exact ev_cvirt (show zcode 223 17 = some (76, 20, 219, 1, [12]) by decide +kernel) (args := []) (rest := []) rfl (so130 hS) rfl (show 0 ≤ 8 by decide) ⟨by decide, show 1 ≤ 3 by decide⟩
theorem b223_20 {T : zT} {V : zM} {x1 : Int} : ev 223 20 [(2, 130), (0, x1), (9, 0), (9, 0)] [] T V = ev 223 24 [(2, 130), (0, x1), (0, 0), (0, 1)] [] T V := by
  refine Eq.trans (ev_ci (show zcode 223 20 = some (0, 21, 0, 0, []) by decide +kernel) (by decide)) ?_
  refine Eq.trans (ev_sti (show zcode 223 21 = some (7, 22, 2, 0, []) by decide +kernel) ⟨show 2 < 4 by decide, Or.inr (show ¬ (0 : Nat) = 1 by decide)⟩) ?_
  refine Eq.trans (ev_ci (show zcode 223 22 = some (0, 23, 0, 1, []) by decide +kernel) (by decide)) ?_
  exact ev_sti (show zcode 223 23 = some (7, 24, 3, 0, []) by decide +kernel) ⟨show 3 < 4 by decide, Or.inr (show ¬ (0 : Nat) = 1 by decide)⟩
theorem b223_24 {T : zT} {V : zM} {x1 : Int} {x2 : Int} {x3 : Int} : ev 223 24 [(2, 130), (0, x1), (0, x2), (0, x3)] [] T V = if 16 < x3 then ev 223 62 [(2, 130), (0, x1), (0, x2), (0, x3)] [] T V else ev 223 30 [(2, 130), (0, x1), (0, x2), (0, x3)] [] T V := by
  refine Eq.trans (ev_ldi (show zcode 223 24 = some (4, 25, 3, 0, []) by decide +kernel) rfl) ?_
  refine Eq.trans (ev_ci (show zcode 223 25 = some (0, 27, 0, 16, []) by decide +kernel) (by decide)) ?_
  exact ev_cgt (show zcode 223 27 = some (50, 30, 62, 0, []) by decide +kernel)
theorem b223_30 {T : zT} {V : zM} {x1 : Int} {x2 : Int} {x3 : Int} (hS : zStr T)  : ev 223 30 [(2, 130), (0, x1), (0, x2), (0, x3)] [] T V = (zcall 220 [(2, 130)] T V).bind fun x => ev 223 34 [(2, 130), (0, x1), (0, x2), (0, x3)] (z_push x.1 []) x.2.1 x.2.2 := by
  refine Eq.trans (ev_lda (show zcode 223 30 = some (6, 31, 0, 0, []) by decide +kernel) rfl (by decide)) ?_
  exact ev_cvirt (show zcode 223 31 = some (76, 34, 220, 1, [12]) by decide +kernel) (args := []) (rest := []) rfl (so130 hS) rfl (show 0 ≤ 8 by decide) ⟨by decide, show 1 ≤ 11 by decide⟩
theorem b223_34 {T : zT} {V : zM} {x1 : Int} {x2 : Int} {x3 : Int} (hS : zStr T)  : ev 223 34 [(2, 130), (0, x1), (0, x2), (0, x3)] [] T V = (zcall 222 [(2, 130)] T V).bind fun x => ev 223 38 [(2, 130), (0, x1), (0, x2), (0, x3)] (z_push x.1 []) x.2.1 x.2.2 := by
  refine Eq.trans (ev_lda (show zcode 223 34 = some (6, 35, 0, 0, []) by decide +kernel) rfl (by decide)) ?_
  exact ev_cvirt (show zcode 223 35 = some (76, 38, 222, 1, [12]) by decide +kernel) (args := []) (rest := []) rfl (so130 hS) rfl (show 0 ≤ 8 by decide) ⟨by decide, show 1 ≤ 5 by decide⟩
theorem b223_38 {T : zT} {V : zM} {x1 : Int} {x2 : Int} {x3 : Int} {y0 : Int} : ev 223 38 [(2, 130), (0, x1), (0, x2), (0, x3)] [(1, y0)] T V = if y0 = 0 then ev 223 43 [(2, 130), (0, x1), (0, x2), (0, x3)] [] T V else ev 223 46 [(2, 130), (0, x1), (0, x2), (0, x3)] [] T V := by
  refine Eq.trans (ev_cl (show zcode 223 38 = some (1, 39, 0, 0, []) by decide +kernel) (by decide)) ?_
  exact ev_lne (show zcode 223 39 = some (31, 40, 0, 0, []) by decide +kernel) (show zcode 223 40 = some (41, 43, 46, 0, []) by decide +kernel)
theorem b223_43 {T : zT} {V : zM} {x1 : Int} {x2 : Int} {x3 : Int} : ev 223 43 [(2, 130), (0, x1), (0, x2), (0, x3)] [] T V = ev 223 56 [(2, 130), (0, x1), (0, x2), (0, x3)] [] T V := by
  exact ev_goto (show zcode 223 43 = some (53, 46, 56, 0, []) by decide +kernel)
theorem b223_46 {T : zT} {V : zM} {x1 : Int} {x2 : Int} {x3 : Int} : ev 223 46 [(2, 130), (0, x1), (0, x2), (0, x3)] [] T V = if x2 = x1 then ev 223 51 [(2, 130), (0, x1), (0, x2), (0, x3)] [] T V else ev 223 53 [(2, 130), (0, x1), (0, x2), (0, x3)] [] T V := by
  refine Eq.trans (ev_ldi (show zcode 223 46 = some (4, 47, 2, 0, []) by decide +kernel) rfl) ?_
  refine Eq.trans (ev_ldi (show zcode 223 47 = some (4, 48, 1, 0, []) by decide +kernel) rfl) ?_
  exact ev_cne (show zcode 223 48 = some (47, 51, 53, 0, []) by decide +kernel)
theorem b223_51 {T : zT} {V : zM} {x1 : Int} {x2 : Int} {x3 : Int} : ev 223 51 [(2, 130), (0, x1), (0, x2), (0, x3)] [] T V = some ((0, x3), T, V) := by
  refine Eq.trans (ev_ldi (show zcode 223 51 = some (4, 52, 3, 0, []) by decide +kernel) rfl) ?_
  exact ev_ri (show zcode 223 52 = some (72, 53, 0, 0, []) by decide +kernel)
theorem b223_53 {T : zT} {V : zM} {x1 : Int} {x2 : Int} {x3 : Int} (h1 : -2147483648 ≤ (x2 + 1) ∧ (x2 + 1) ≤ 2147483647) : ev 223 53 [(2, 130), (0, x1), (0, x2), (0, x3)] [] T V = ev 223 56 [(2, 130), (0, x1), (0, (x2 + 1)), (0, x3)] [] T V := by
  exact ev_inc (show zcode 223 53 = some (10, 56, 2, 1, []) by decide +kernel) rfl h1 (Or.inr (show ¬ (0 : Nat) = 1 by decide))
theorem b223_56 {T : zT} {V : zM} {x1 : Int} {x2 : Int} {x3 : Int} (h1 : -2147483648 ≤ (x3 + 1) ∧ (x3 + 1) ≤ 2147483647) : ev 223 56 [(2, 130), (0, x1), (0, x2), (0, x3)] [] T V = ev 223 24 [(2, 130), (0, x1), (0, x2), (0, (x3 + 1))] [] T V := by
  refine Eq.trans (ev_inc (show zcode 223 56 = some (10, 59, 3, 1, []) by decide +kernel) rfl h1 (Or.inr (show ¬ (0 : Nat) = 1 by decide))) ?_
  exact ev_goto (show zcode 223 59 = some (53, 62, 24, 0, []) by decide +kernel)
theorem b223_62 {T : zT} {V : zM} {x1 : Int} {x2 : Int} {x3 : Int} : ev 223 62 [(2, 130), (0, x1), (0, x2), (0, x3)] [] T V = if x1 = (-1) then ev 223 67 [(2, 130), (0, x1), (0, x2), (0, x3)] [] T V else ev 223 71 [(2, 130), (0, x1), (0, x2), (0, x3)] [] T V := by
  refine Eq.trans (ev_ldi (show zcode 223 62 = some (4, 63, 1, 0, []) by decide +kernel) rfl) ?_
  refine Eq.trans (ev_ci (show zcode 223 63 = some (0, 64, 0, (-1), []) by decide +kernel) (by decide)) ?_
  exact ev_cne (show zcode 223 64 = some (47, 67, 71, 0, []) by decide +kernel)
theorem b223_67 {T : zT} {V : zM} {x1 : Int} {x2 : Int} {x3 : Int} : ev 223 67 [(2, 130), (0, x1), (0, x2), (0, x3)] [] T V = ev 223 72 [(2, 130), (0, x1), (0, x2), (0, x3)] [(0, x2)] T V := by
  refine Eq.trans (ev_ldi (show zcode 223 67 = some (4, 68, 2, 0, []) by decide +kernel) rfl) ?_
  exact ev_goto (show zcode 223 68 = some (53, 71, 72, 0, []) by decide +kernel)
theorem b223_71 {T : zT} {V : zM} {x1 : Int} {x2 : Int} {x3 : Int} : ev 223 71 [(2, 130), (0, x1), (0, x2), (0, x3)] [] T V = ev 223 72 [(2, 130), (0, x1), (0, x2), (0, x3)] [(0, (-1))] T V := by
  exact ev_ci (show zcode 223 71 = some (0, 72, 0, (-1), []) by decide +kernel) (by decide)
theorem b223_72 {T : zT} {V : zM} {x1 : Int} {x2 : Int} {x3 : Int} {y0 : Int} : ev 223 72 [(2, 130), (0, x1), (0, x2), (0, x3)] [(0, y0)] T V = some ((0, y0), T, V) := by
  exact ev_ri (show zcode 223 72 = some (72, 73, 0, 0, []) by decide +kernel)
/-! 224: TwoWayWallModel.price()I -/
theorem e224 {T : zT} {V : zM}  : zcall 224 [(2, 130)] T V = ev 224 0 [(2, 130)] [] T V := rfl
theorem b224_0 {T : zT} {V : zM}  (hS : zStr T)  : ev 224 0 [(2, 130)] [] T V = (zcall 225 [(2, 130)] T V).bind fun x => ev 224 4 [(2, 130)] (z_push x.1 []) x.2.1 x.2.2 := by
  refine Eq.trans (ev_lda (show zcode 224 0 = some (6, 1, 0, 0, []) by decide +kernel) rfl (by decide)) ?_
  exact ev_cvirt (show zcode 224 1 = some (76, 4, 225, 1, [12]) by decide +kernel) (args := []) (rest := []) rfl (so130 hS) rfl (show 0 ≤ 8 by decide) ⟨by decide, show 1 ≤ 5 by decide⟩
theorem b224_4 {T : zT} {V : zM}  (hS : zStr T)  : ev 224 4 [(2, 130)] [] T V = (zcall 227 [(2, 130), (0, 0), (0, 0), (0, 0)] T V).bind fun x => ev 224 11 [(2, 130)] (z_push x.1 []) x.2.1 x.2.2 := by
  refine Eq.trans (ev_lda (show zcode 224 4 = some (6, 5, 0, 0, []) by decide +kernel) rfl (by decide)) ?_
  refine Eq.trans (ev_ci (show zcode 224 5 = some (0, 6, 0, 0, []) by decide +kernel) (by decide)) ?_
  refine Eq.trans (ev_ci (show zcode 224 6 = some (0, 7, 0, 0, []) by decide +kernel) (by decide)) ?_
  refine Eq.trans (ev_ci (show zcode 224 7 = some (0, 8, 0, 0, []) by decide +kernel) (by decide)) ?_
  exact ev_cvirt (show zcode 224 8 = some (76, 11, 227, 4, [12]) by decide +kernel) (args := [(0, 0), (0, 0), (0, 0)]) (rest := []) rfl (so130 hS) rfl (show 0 ≤ 8 by decide) ⟨by decide, show 4 ≤ 4 by decide⟩
theorem b224_11 {T : zT} {V : zM} {y0 : Int} : ev 224 11 [(2, 130)] [(0, y0)] T V = if y0 = 1000000000 then ev 224 17 [(2, 130)] [] T V else ev 224 21 [(2, 130)] [] T V := by
  refine Eq.trans (ev_ci (show zcode 224 11 = some (0, 14, 0, 1000000000, []) by decide +kernel) (by decide)) ?_
  exact ev_cne (show zcode 224 14 = some (47, 17, 21, 0, []) by decide +kernel)
theorem b224_17 {T : zT} {V : zM}  : ev 224 17 [(2, 130)] [] T V = ev 224 28 [(2, 130)] [(0, (-1))] T V := by
  refine Eq.trans (ev_ci (show zcode 224 17 = some (0, 18, 0, (-1), []) by decide +kernel) (by decide)) ?_
  exact ev_goto (show zcode 224 18 = some (53, 21, 28, 0, []) by decide +kernel)
theorem b224_21 {T : zT} {V : zM}  (hS : zStr T)  : ev 224 21 [(2, 130)] [] T V = (zcall 227 [(2, 130), (0, 0), (0, 0), (0, 0)] T V).bind fun x => ev 224 28 [(2, 130)] (z_push x.1 []) x.2.1 x.2.2 := by
  refine Eq.trans (ev_lda (show zcode 224 21 = some (6, 22, 0, 0, []) by decide +kernel) rfl (by decide)) ?_
  refine Eq.trans (ev_ci (show zcode 224 22 = some (0, 23, 0, 0, []) by decide +kernel) (by decide)) ?_
  refine Eq.trans (ev_ci (show zcode 224 23 = some (0, 24, 0, 0, []) by decide +kernel) (by decide)) ?_
  refine Eq.trans (ev_ci (show zcode 224 24 = some (0, 25, 0, 0, []) by decide +kernel) (by decide)) ?_
  exact ev_cvirt (show zcode 224 25 = some (76, 28, 227, 4, [12]) by decide +kernel) (args := [(0, 0), (0, 0), (0, 0)]) (rest := []) rfl (so130 hS) rfl (show 0 ≤ 8 by decide) ⟨by decide, show 4 ≤ 4 by decide⟩
theorem b224_28 {T : zT} {V : zM} {y0 : Int} : ev 224 28 [(2, 130)] [(0, y0)] T V = some ((0, y0), T, V) := by
  exact ev_ri (show zcode 224 28 = some (72, 29, 0, 0, []) by decide +kernel)
/-! 225: TwoWayWallModel.prices()V -/
theorem e225 {T : zT} {V : zM}  : zcall 225 [(2, 130)] T V = ev 225 0 [(2, 130), (9, 0), (9, 0), (9, 0), (9, 0)] [] T V := rfl
theorem b225_0 {T : zT} {V : zM}  (hS : zStr T)  : ev 225 0 [(2, 130), (9, 0), (9, 0), (9, 0), (9, 0)] [] T V = (zcall 211 [(2, 130), (0, 0)] T V).bind fun x => ev 225 5 [(2, 130), (9, 0), (9, 0), (9, 0), (9, 0)] (z_push x.1 []) x.2.1 x.2.2 := by
  refine Eq.trans (ev_lda (show zcode 225 0 = some (6, 1, 0, 0, []) by decide +kernel) rfl (by decide)) ?_
  refine Eq.trans (ev_ci (show zcode 225 1 = some (0, 2, 0, 0, []) by decide +kernel) (by decide)) ?_
  exact ev_cvirt (show zcode 225 2 = some (76, 5, 211, 2, [12]) by decide +kernel) (args := [(0, 0)]) (rest := []) rfl (so130 hS) rfl (show 0 ≤ 8 by decide) ⟨by decide, show 2 ≤ 2 by decide⟩
theorem b225_5 {T : zT} {V : zM}  (hS : zStr T)  : ev 225 5 [(2, 130), (9, 0), (9, 0), (9, 0), (9, 0)] [] T V = if (V 130 2) = (V 130 1) then ev 225 16 [(2, 130), (9, 0), (9, 0), (9, 0), (9, 0)] [] T V else ev 225 17 [(2, 130), (9, 0), (9, 0), (9, 0), (9, 0)] [] T V := by
  refine Eq.trans (ev_lda (show zcode 225 5 = some (6, 6, 0, 0, []) by decide +kernel) rfl (by decide)) ?_
  refine Eq.trans (ev_gi (show zcode 225 6 = some (55, 9, 12, 2, []) by decide +kernel) (so130 hS)) ?_
  refine Eq.trans (ev_lda (show zcode 225 9 = some (6, 10, 0, 0, []) by decide +kernel) rfl (by decide)) ?_
  refine Eq.trans (ev_gi (show zcode 225 10 = some (55, 13, 12, 1, []) by decide +kernel) (so130 hS)) ?_
  exact ev_cne (show zcode 225 13 = some (47, 16, 17, 0, []) by decide +kernel)
theorem b225_16 {T : zT} {V : zM}  : ev 225 16 [(2, 130), (9, 0), (9, 0), (9, 0), (9, 0)] [] T V = some ((9, 0), T, V) := by
  exact ev_rn (show zcode 225 16 = some (73, 17, 0, 0, []) by decide +kernel)
theorem b225_17 {T : zT} {V : zM}  (hS : zStr T)  : ev 225 17 [(2, 130), (9, 0), (9, 0), (9, 0), (9, 0)] [] T V = ev 225 27 [(2, 130), (0, 0), (9, 0), (9, 0), (9, 0)] [] T (zwr V 130 2 (V 130 1)) := by
  refine Eq.trans (ev_lda (show zcode 225 17 = some (6, 18, 0, 0, []) by decide +kernel) rfl (by decide)) ?_
  refine Eq.trans (ev_lda (show zcode 225 18 = some (6, 19, 0, 0, []) by decide +kernel) rfl (by decide)) ?_
  refine Eq.trans (ev_gi (show zcode 225 19 = some (55, 22, 12, 1, []) by decide +kernel) (so130 hS)) ?_
  refine Eq.trans (ev_pi (show zcode 225 22 = some (57, 25, 12, 2, []) by decide +kernel) (so130 hS)) ?_
  refine Eq.trans (ev_ci (show zcode 225 25 = some (0, 26, 0, 0, []) by decide +kernel) (by decide)) ?_
  exact ev_sti (show zcode 225 26 = some (7, 27, 1, 0, []) by decide +kernel) ⟨show 1 < 5 by decide, Or.inr (show ¬ (2 : Nat) = 1 by decide)⟩
theorem b225_27 {T : zT} {V : zM} {x1 : Int} : ev 225 27 [(2, 130), (0, x1), (9, 0), (9, 0), (9, 0)] [] T V = if 729 ≤ x1 then ev 225 49 [(2, 130), (0, x1), (9, 0), (9, 0), (9, 0)] [] T V else ev 225 34 [(2, 130), (0, x1), (9, 0), (9, 0), (9, 0)] [] T V := by
  refine Eq.trans (ev_ldi (show zcode 225 27 = some (4, 28, 1, 0, []) by decide +kernel) rfl) ?_
  refine Eq.trans (ev_ci (show zcode 225 28 = some (0, 31, 0, 729, []) by decide +kernel) (by decide)) ?_
  exact ev_cge (show zcode 225 31 = some (49, 34, 49, 0, []) by decide +kernel)
theorem b225_34 {T : zT} {V : zM} {x1 : Int} (hS : zStr T) (h1 : (0 : Int) ≤ x1 ∧ x1 < 729) (h2 : -2147483648 ≤ (x1 + 1) ∧ (x1 + 1) ≤ 2147483647) : ev 225 34 [(2, 130), (0, x1), (9, 0), (9, 0), (9, 0)] [] T V = ev 225 27 [(2, 130), (0, (x1 + 1)), (9, 0), (9, 0), (9, 0)] [] T (zwr V 152 x1 1000000000) := by
  refine Eq.trans (ev_lda (show zcode 225 34 = some (6, 35, 0, 0, []) by decide +kernel) rfl (by decide)) ?_
  refine Eq.trans (ev_gq (show zcode 225 35 = some (56, 38, 12, 36, []) by decide +kernel) (so130 hS) (sp130_36 hS)) ?_
  refine Eq.trans (ev_ldi (show zcode 225 38 = some (4, 39, 1, 0, []) by decide +kernel) rfl) ?_
  refine Eq.trans (ev_ci (show zcode 225 39 = some (0, 42, 0, 1000000000, []) by decide +kernel) (by decide)) ?_
  refine Eq.trans (ev_is (show zcode 225 42 = some (64, 43, 0, 0, []) by decide +kernel) (sa152 hS) h1) ?_
  refine Eq.trans (ev_inc (show zcode 225 43 = some (10, 46, 1, 1, []) by decide +kernel) rfl h2 (Or.inr (show ¬ (2 : Nat) = 1 by decide))) ?_
  exact ev_goto (show zcode 225 46 = some (53, 49, 27, 0, []) by decide +kernel)
theorem b225_49 {T : zT} {V : zM} {x1 : Int} : ev 225 49 [(2, 130), (0, x1), (9, 0), (9, 0), (9, 0)] [] T V = ev 225 51 [(2, 130), (0, 0), (9, 0), (9, 0), (9, 0)] [] T V := by
  refine Eq.trans (ev_ci (show zcode 225 49 = some (0, 50, 0, 0, []) by decide +kernel) (by decide)) ?_
  exact ev_sti (show zcode 225 50 = some (7, 51, 1, 0, []) by decide +kernel) ⟨show 1 < 5 by decide, Or.inr (show ¬ (2 : Nat) = 1 by decide)⟩
theorem b225_51 {T : zT} {V : zM} {x1 : Int} : ev 225 51 [(2, 130), (0, x1), (9, 0), (9, 0), (9, 0)] [] T V = if 128 ≤ x1 then ev 225 119 [(2, 130), (0, x1), (9, 0), (9, 0), (9, 0)] [] T V else ev 225 58 [(2, 130), (0, x1), (9, 0), (9, 0), (9, 0)] [] T V := by
  refine Eq.trans (ev_ldi (show zcode 225 51 = some (4, 52, 1, 0, []) by decide +kernel) rfl) ?_
  refine Eq.trans (ev_ci (show zcode 225 52 = some (0, 55, 0, 128, []) by decide +kernel) (by decide)) ?_
  exact ev_cge (show zcode 225 55 = some (49, 58, 119, 0, []) by decide +kernel)
theorem b225_58 {T : zT} {V : zM} {x1 : Int} (hS : zStr T)  : ev 225 58 [(2, 130), (0, x1), (9, 0), (9, 0), (9, 0)] [] T V = (zcall 199 [(2, 130), (0, x1)] T V).bind fun x => ev 225 63 [(2, 130), (0, x1), (9, 0), (9, 0), (9, 0)] (z_push x.1 []) x.2.1 x.2.2 := by
  refine Eq.trans (ev_lda (show zcode 225 58 = some (6, 59, 0, 0, []) by decide +kernel) rfl (by decide)) ?_
  refine Eq.trans (ev_ldi (show zcode 225 59 = some (4, 60, 1, 0, []) by decide +kernel) rfl) ?_
  exact ev_cvirt (show zcode 225 60 = some (76, 63, 199, 2, [12]) by decide +kernel) (args := [(0, x1)]) (rest := []) rfl (so130 hS) rfl (show 0 ≤ 8 by decide) ⟨by decide, show 2 ≤ 4 by decide⟩
theorem b225_63 {T : zT} {V : zM} {x1 : Int} {y0 : Int} (hS : zStr T) (h1 : (0 : Int) ≤ x1 ∧ x1 < 128) (h2 : -2147483648 ≤ (27 * (V 142 x1)) ∧ (27 * (V 142 x1)) ≤ 2147483647) (h3 : -2147483648 ≤ ((27 * (V 142 x1)) + (V 143 x1)) ∧ ((27 * (V 142 x1)) + (V 143 x1)) ≤ 2147483647) (h4 : (0 : Int) ≤ ((27 * (V 142 x1)) + (V 143 x1)) ∧ ((27 * (V 142 x1)) + (V 143 x1)) < 729) : ev 225 63 [(2, 130), (0, x1), (9, 0), (9, 0), (9, 0)] [(0, y0)] T V = if (V 152 ((27 * (V 142 x1)) + (V 143 x1))) ≤ y0 then ev 225 113 [(2, 130), (0, x1), (9, 0), (9, 0), (9, 0)] [] T V else ev 225 87 [(2, 130), (0, x1), (9, 0), (9, 0), (9, 0)] [] T V := by
  refine Eq.trans (ev_lda (show zcode 225 63 = some (6, 64, 0, 0, []) by decide +kernel) rfl (by decide)) ?_
  refine Eq.trans (ev_gq (show zcode 225 64 = some (56, 67, 12, 36, []) by decide +kernel) (so130 hS) (sp130_36 hS)) ?_
  refine Eq.trans (ev_ci (show zcode 225 67 = some (0, 69, 0, 27, []) by decide +kernel) (by decide)) ?_
  refine Eq.trans (ev_lda (show zcode 225 69 = some (6, 70, 0, 0, []) by decide +kernel) rfl (by decide)) ?_
  refine Eq.trans (ev_gq (show zcode 225 70 = some (56, 73, 12, 22, []) by decide +kernel) (so130 hS) (sp130_22 hS)) ?_
  refine Eq.trans (ev_ldi (show zcode 225 73 = some (4, 74, 1, 0, []) by decide +kernel) rfl) ?_
  refine Eq.trans (ev_ia (show zcode 225 74 = some (60, 75, 0, 0, []) by decide +kernel) (sa142 hS) h1) ?_
  refine Eq.trans (ev_mul (show zcode 225 75 = some (13, 76, 0, 0, []) by decide +kernel) h2) ?_
  refine Eq.trans (ev_lda (show zcode 225 76 = some (6, 77, 0, 0, []) by decide +kernel) rfl (by decide)) ?_
  refine Eq.trans (ev_gq (show zcode 225 77 = some (56, 80, 12, 23, []) by decide +kernel) (so130 hS) (sp130_23 hS)) ?_
  refine Eq.trans (ev_ldi (show zcode 225 80 = some (4, 81, 1, 0, []) by decide +kernel) rfl) ?_
  refine Eq.trans (ev_ia (show zcode 225 81 = some (60, 82, 0, 0, []) by decide +kernel) (sa143 hS) h1) ?_
  refine Eq.trans (ev_add (show zcode 225 82 = some (11, 83, 0, 0, []) by decide +kernel) h3) ?_
  refine Eq.trans (ev_ia (show zcode 225 83 = some (60, 84, 0, 0, []) by decide +kernel) (sa152 hS) h4) ?_
  exact ev_cge (show zcode 225 84 = some (49, 87, 113, 0, []) by decide +kernel)
theorem b225_87 {T : zT} {V : zM} {x1 : Int} (hS : zStr T) (h1 : (0 : Int) ≤ x1 ∧ x1 < 128) (h2 : -2147483648 ≤ (27 * (V 142 x1)) ∧ (27 * (V 142 x1)) ≤ 2147483647) (h3 : -2147483648 ≤ ((27 * (V 142 x1)) + (V 143 x1)) ∧ ((27 * (V 142 x1)) + (V 143 x1)) ≤ 2147483647) : ev 225 87 [(2, 130), (0, x1), (9, 0), (9, 0), (9, 0)] [] T V = (zcall 199 [(2, 130), (0, x1)] T V).bind fun x => ev 225 112 [(2, 130), (0, x1), (9, 0), (9, 0), (9, 0)] (z_push x.1 [(0, ((27 * (V 142 x1)) + (V 143 x1))), (2, 152)]) x.2.1 x.2.2 := by
  refine Eq.trans (ev_lda (show zcode 225 87 = some (6, 88, 0, 0, []) by decide +kernel) rfl (by decide)) ?_
  refine Eq.trans (ev_gq (show zcode 225 88 = some (56, 91, 12, 36, []) by decide +kernel) (so130 hS) (sp130_36 hS)) ?_
  refine Eq.trans (ev_ci (show zcode 225 91 = some (0, 93, 0, 27, []) by decide +kernel) (by decide)) ?_
  refine Eq.trans (ev_lda (show zcode 225 93 = some (6, 94, 0, 0, []) by decide +kernel) rfl (by decide)) ?_
  refine Eq.trans (ev_gq (show zcode 225 94 = some (56, 97, 12, 22, []) by decide +kernel) (so130 hS) (sp130_22 hS)) ?_
  refine Eq.trans (ev_ldi (show zcode 225 97 = some (4, 98, 1, 0, []) by decide +kernel) rfl) ?_
  refine Eq.trans (ev_ia (show zcode 225 98 = some (60, 99, 0, 0, []) by decide +kernel) (sa142 hS) h1) ?_
  refine Eq.trans (ev_mul (show zcode 225 99 = some (13, 100, 0, 0, []) by decide +kernel) h2) ?_
  refine Eq.trans (ev_lda (show zcode 225 100 = some (6, 101, 0, 0, []) by decide +kernel) rfl (by decide)) ?_
  refine Eq.trans (ev_gq (show zcode 225 101 = some (56, 104, 12, 23, []) by decide +kernel) (so130 hS) (sp130_23 hS)) ?_
  refine Eq.trans (ev_ldi (show zcode 225 104 = some (4, 105, 1, 0, []) by decide +kernel) rfl) ?_
  refine Eq.trans (ev_ia (show zcode 225 105 = some (60, 106, 0, 0, []) by decide +kernel) (sa143 hS) h1) ?_
  refine Eq.trans (ev_add (show zcode 225 106 = some (11, 107, 0, 0, []) by decide +kernel) h3) ?_
  refine Eq.trans (ev_lda (show zcode 225 107 = some (6, 108, 0, 0, []) by decide +kernel) rfl (by decide)) ?_
  refine Eq.trans (ev_ldi (show zcode 225 108 = some (4, 109, 1, 0, []) by decide +kernel) rfl) ?_
  exact ev_cvirt (show zcode 225 109 = some (76, 112, 199, 2, [12]) by decide +kernel) (args := [(0, x1)]) (rest := [(0, ((27 * (V 142 x1)) + (V 143 x1))), (2, 152)]) rfl (so130 hS) rfl (show 2 ≤ 8 by decide) ⟨by decide, show 2 ≤ 4 by decide⟩
theorem b225_112 {T : zT} {V : zM} {x1 : Int} {y1 : Int} {y2 : Int} (hS : zStr T) (h1 : (0 : Int) ≤ y1 ∧ y1 < 729) : ev 225 112 [(2, 130), (0, x1), (9, 0), (9, 0), (9, 0)] [(0, y2), (0, y1), (2, 152)] T V = ev 225 113 [(2, 130), (0, x1), (9, 0), (9, 0), (9, 0)] [] T (zwr V 152 y1 y2) := by
  exact ev_is (show zcode 225 112 = some (64, 113, 0, 0, []) by decide +kernel) (sa152 hS) h1
theorem b225_113 {T : zT} {V : zM} {x1 : Int} (h1 : -2147483648 ≤ (x1 + 1) ∧ (x1 + 1) ≤ 2147483647) : ev 225 113 [(2, 130), (0, x1), (9, 0), (9, 0), (9, 0)] [] T V = ev 225 51 [(2, 130), (0, (x1 + 1)), (9, 0), (9, 0), (9, 0)] [] T V := by
  refine Eq.trans (ev_inc (show zcode 225 113 = some (10, 116, 1, 1, []) by decide +kernel) rfl h1 (Or.inr (show ¬ (2 : Nat) = 1 by decide))) ?_
  exact ev_goto (show zcode 225 116 = some (53, 119, 51, 0, []) by decide +kernel)
theorem b225_119 {T : zT} {V : zM} {x1 : Int} (hS : zStr T)  : ev 225 119 [(2, 130), (0, x1), (9, 0), (9, 0), (9, 0)] [] T V = ev 225 130 [(2, 130), (0, (V 132 427)), (0, 0), (9, 0), (9, 0)] [] T V := by
  refine Eq.trans (ev_lda (show zcode 225 119 = some (6, 120, 0, 0, []) by decide +kernel) rfl (by decide)) ?_
  refine Eq.trans (ev_gq (show zcode 225 120 = some (56, 123, 12, 4, []) by decide +kernel) (so130 hS) (sp130_4 hS)) ?_
  refine Eq.trans (ev_ci (show zcode 225 123 = some (0, 126, 0, 427, []) by decide +kernel) (by decide)) ?_
  refine Eq.trans (ev_ia (show zcode 225 126 = some (60, 127, 0, 0, []) by decide +kernel) (sa132 hS) (by decide)) ?_
  refine Eq.trans (ev_sti (show zcode 225 127 = some (7, 128, 1, 0, []) by decide +kernel) ⟨show 1 < 5 by decide, Or.inr (show ¬ (2 : Nat) = 1 by decide)⟩) ?_
  refine Eq.trans (ev_ci (show zcode 225 128 = some (0, 129, 0, 0, []) by decide +kernel) (by decide)) ?_
  exact ev_sti (show zcode 225 129 = some (7, 130, 2, 0, []) by decide +kernel) ⟨show 2 < 5 by decide, Or.inr (show ¬ (0 : Nat) = 1 by decide)⟩
theorem b225_130 {T : zT} {V : zM} {x1 : Int} {x2 : Int} {v3 : zV} (hS : zStr T)  : ev 225 130 [(2, 130), (0, x1), (0, x2), v3, (9, 0)] [] T V = if (V 147 0) ≤ x2 then ev 225 211 [(2, 130), (0, x1), (0, x2), v3, (9, 0)] [] T V else ev 225 140 [(2, 130), (0, x1), (0, x2), v3, (9, 0)] [] T V := by
  refine Eq.trans (ev_ldi (show zcode 225 130 = some (4, 131, 2, 0, []) by decide +kernel) rfl) ?_
  refine Eq.trans (ev_lda (show zcode 225 131 = some (6, 132, 0, 0, []) by decide +kernel) rfl (by decide)) ?_
  refine Eq.trans (ev_gq (show zcode 225 132 = some (56, 135, 12, 30, []) by decide +kernel) (so130 hS) (sp130_30 hS)) ?_
  refine Eq.trans (ev_ci (show zcode 225 135 = some (0, 136, 0, 0, []) by decide +kernel) (by decide)) ?_
  refine Eq.trans (ev_ia (show zcode 225 136 = some (60, 137, 0, 0, []) by decide +kernel) (sa147 hS) (by decide)) ?_
  exact ev_cge (show zcode 225 137 = some (49, 140, 211, 0, []) by decide +kernel)
theorem b225_140 {T : zT} {V : zM} {x1 : Int} {x2 : Int} {v3 : zV} : ev 225 140 [(2, 130), (0, x1), (0, x2), v3, (9, 0)] [] T V = ev 225 142 [(2, 130), (0, x1), (0, x2), (0, 0), (9, 0)] [] T V := by
  refine Eq.trans (ev_ci (show zcode 225 140 = some (0, 141, 0, 0, []) by decide +kernel) (by decide)) ?_
  exact ev_sti (show zcode 225 141 = some (7, 142, 3, 0, []) by decide +kernel) ⟨show 3 < 5 by decide, Or.inr (show ¬ (0 : Nat) = 1 by decide)⟩
theorem b225_142 {T : zT} {V : zM} {x1 : Int} {x2 : Int} {x3 : Int} (hS : zStr T)  : ev 225 142 [(2, 130), (0, x1), (0, x2), (0, x3), (9, 0)] [] T V = if (V 147 1) ≤ x3 then ev 225 205 [(2, 130), (0, x1), (0, x2), (0, x3), (9, 0)] [] T V else ev 225 152 [(2, 130), (0, x1), (0, x2), (0, x3), (9, 0)] [] T V := by
  refine Eq.trans (ev_ldi (show zcode 225 142 = some (4, 143, 3, 0, []) by decide +kernel) rfl) ?_
  refine Eq.trans (ev_lda (show zcode 225 143 = some (6, 144, 0, 0, []) by decide +kernel) rfl (by decide)) ?_
  refine Eq.trans (ev_gq (show zcode 225 144 = some (56, 147, 12, 30, []) by decide +kernel) (so130 hS) (sp130_30 hS)) ?_
  refine Eq.trans (ev_ci (show zcode 225 147 = some (0, 148, 0, 1, []) by decide +kernel) (by decide)) ?_
  refine Eq.trans (ev_ia (show zcode 225 148 = some (60, 149, 0, 0, []) by decide +kernel) (sa147 hS) (by decide)) ?_
  exact ev_cge (show zcode 225 149 = some (49, 152, 205, 0, []) by decide +kernel)
theorem b225_152 {T : zT} {V : zM} {x1 : Int} {x2 : Int} {x3 : Int} (hS : zStr T) (h1 : -2147483648 ≤ (224 * x1) ∧ (224 * x1) ≤ 2147483647) (h2 : -2147483648 ≤ ((224 * x1) + x2) ∧ ((224 * x1) + x2) ≤ 2147483647) (h3 : -2147483648 ≤ (((224 * x1) + x2) * 224) ∧ (((224 * x1) + x2) * 224) ≤ 2147483647) (h4 : -2147483648 ≤ ((((224 * x1) + x2) * 224) + x3) ∧ ((((224 * x1) + x2) * 224) + x3) ≤ 2147483647) (h5 : (0 : Int) ≤ x2 ∧ x2 < 448) : ev 225 152 [(2, 130), (0, x1), (0, x2), (0, x3), (9, 0)] [] T V = if (V 146 x2) = 0 then ev 225 195 [(2, 130), (0, x1), (0, x2), (0, x3), (9, 0)] [(0, ((((224 * x1) + x2) * 224) + x3)), (2, 151)] T V else ev 225 178 [(2, 130), (0, x1), (0, x2), (0, x3), (9, 0)] [(0, ((((224 * x1) + x2) * 224) + x3)), (2, 151)] T V := by
  refine Eq.trans (ev_lda (show zcode 225 152 = some (6, 153, 0, 0, []) by decide +kernel) rfl (by decide)) ?_
  refine Eq.trans (ev_gq (show zcode 225 153 = some (56, 156, 12, 35, []) by decide +kernel) (so130 hS) (sp130_35 hS)) ?_
  refine Eq.trans (ev_ci (show zcode 225 156 = some (0, 159, 0, 224, []) by decide +kernel) (by decide)) ?_
  refine Eq.trans (ev_ldi (show zcode 225 159 = some (4, 160, 1, 0, []) by decide +kernel) rfl) ?_
  refine Eq.trans (ev_mul (show zcode 225 160 = some (13, 161, 0, 0, []) by decide +kernel) h1) ?_
  refine Eq.trans (ev_ldi (show zcode 225 161 = some (4, 162, 2, 0, []) by decide +kernel) rfl) ?_
  refine Eq.trans (ev_add (show zcode 225 162 = some (11, 163, 0, 0, []) by decide +kernel) h2) ?_
  refine Eq.trans (ev_ci (show zcode 225 163 = some (0, 166, 0, 224, []) by decide +kernel) (by decide)) ?_
  refine Eq.trans (ev_mul (show zcode 225 166 = some (13, 167, 0, 0, []) by decide +kernel) h3) ?_
  refine Eq.trans (ev_ldi (show zcode 225 167 = some (4, 168, 3, 0, []) by decide +kernel) rfl) ?_
  refine Eq.trans (ev_add (show zcode 225 168 = some (11, 169, 0, 0, []) by decide +kernel) h4) ?_
  refine Eq.trans (ev_lda (show zcode 225 169 = some (6, 170, 0, 0, []) by decide +kernel) rfl (by decide)) ?_
  refine Eq.trans (ev_gq (show zcode 225 170 = some (56, 173, 12, 29, []) by decide +kernel) (so130 hS) (sp130_29 hS)) ?_
  refine Eq.trans (ev_ldi (show zcode 225 173 = some (4, 174, 2, 0, []) by decide +kernel) rfl) ?_
  refine Eq.trans (ev_za (show zcode 225 174 = some (62, 175, 0, 0, []) by decide +kernel) (sa146 hS) h5) ?_
  exact ev_eq (show zcode 225 175 = some (40, 178, 195, 0, []) by decide +kernel)
theorem b225_178 {T : zT} {V : zM} {x1 : Int} {x2 : Int} {x3 : Int} {y1 : Int} (hS : zStr T) (h1 : -2147483648 ≤ (224 + x3) ∧ (224 + x3) ≤ 2147483647) (h2 : (0 : Int) ≤ (224 + x3) ∧ (224 + x3) < 448) : ev 225 178 [(2, 130), (0, x1), (0, x2), (0, x3), (9, 0)] [(0, y1), (2, 151)] T V = if (V 146 (224 + x3)) = 0 then ev 225 195 [(2, 130), (0, x1), (0, x2), (0, x3), (9, 0)] [(0, y1), (2, 151)] T V else ev 225 191 [(2, 130), (0, x1), (0, x2), (0, x3), (9, 0)] [(0, y1), (2, 151)] T V := by
  refine Eq.trans (ev_lda (show zcode 225 178 = some (6, 179, 0, 0, []) by decide +kernel) rfl (by decide)) ?_
  refine Eq.trans (ev_gq (show zcode 225 179 = some (56, 182, 12, 29, []) by decide +kernel) (so130 hS) (sp130_29 hS)) ?_
  refine Eq.trans (ev_ci (show zcode 225 182 = some (0, 185, 0, 224, []) by decide +kernel) (by decide)) ?_
  refine Eq.trans (ev_ldi (show zcode 225 185 = some (4, 186, 3, 0, []) by decide +kernel) rfl) ?_
  refine Eq.trans (ev_add (show zcode 225 186 = some (11, 187, 0, 0, []) by decide +kernel) h1) ?_
  refine Eq.trans (ev_za (show zcode 225 187 = some (62, 188, 0, 0, []) by decide +kernel) (sa146 hS) h2) ?_
  exact ev_eq (show zcode 225 188 = some (40, 191, 195, 0, []) by decide +kernel)
theorem b225_191 {T : zT} {V : zM} {x1 : Int} {x2 : Int} {x3 : Int} {y1 : Int} : ev 225 191 [(2, 130), (0, x1), (0, x2), (0, x3), (9, 0)] [(0, y1), (2, 151)] T V = ev 225 198 [(2, 130), (0, x1), (0, x2), (0, x3), (9, 0)] [(0, 0), (0, y1), (2, 151)] T V := by
  refine Eq.trans (ev_ci (show zcode 225 191 = some (0, 192, 0, 0, []) by decide +kernel) (by decide)) ?_
  exact ev_goto (show zcode 225 192 = some (53, 195, 198, 0, []) by decide +kernel)
theorem b225_195 {T : zT} {V : zM} {x1 : Int} {x2 : Int} {x3 : Int} {y1 : Int} : ev 225 195 [(2, 130), (0, x1), (0, x2), (0, x3), (9, 0)] [(0, y1), (2, 151)] T V = ev 225 198 [(2, 130), (0, x1), (0, x2), (0, x3), (9, 0)] [(0, 1000000000), (0, y1), (2, 151)] T V := by
  exact ev_ci (show zcode 225 195 = some (0, 198, 0, 1000000000, []) by decide +kernel) (by decide)
theorem b225_198 {T : zT} {V : zM} {x1 : Int} {x2 : Int} {x3 : Int} {y1 : Int} {y2 : Int} (hS : zStr T) (h1 : (0 : Int) ≤ y1 ∧ y1 < 852992) (h2 : -2147483648 ≤ (x3 + 1) ∧ (x3 + 1) ≤ 2147483647) : ev 225 198 [(2, 130), (0, x1), (0, x2), (0, x3), (9, 0)] [(0, y2), (0, y1), (2, 151)] T V = ev 225 142 [(2, 130), (0, x1), (0, x2), (0, (x3 + 1)), (9, 0)] [] T (zwr V 151 y1 y2) := by
  refine Eq.trans (ev_is (show zcode 225 198 = some (64, 199, 0, 0, []) by decide +kernel) (sa151 hS) h1) ?_
  refine Eq.trans (ev_inc (show zcode 225 199 = some (10, 202, 3, 1, []) by decide +kernel) rfl h2 (Or.inr (show ¬ (0 : Nat) = 1 by decide))) ?_
  exact ev_goto (show zcode 225 202 = some (53, 205, 142, 0, []) by decide +kernel)
theorem b225_205 {T : zT} {V : zM} {x1 : Int} {x2 : Int} {x3 : Int} (h1 : -2147483648 ≤ (x2 + 1) ∧ (x2 + 1) ≤ 2147483647) : ev 225 205 [(2, 130), (0, x1), (0, x2), (0, x3), (9, 0)] [] T V = ev 225 130 [(2, 130), (0, x1), (0, (x2 + 1)), (0, x3), (9, 0)] [] T V := by
  refine Eq.trans (ev_inc (show zcode 225 205 = some (10, 208, 2, 1, []) by decide +kernel) rfl h1 (Or.inr (show ¬ (0 : Nat) = 1 by decide))) ?_
  exact ev_goto (show zcode 225 208 = some (53, 211, 130, 0, []) by decide +kernel)
theorem b225_211 {T : zT} {V : zM} {x1 : Int} {x2 : Int} {v3 : zV} (h1 : -2147483648 ≤ (x1 - 1) ∧ (x1 - 1) ≤ 2147483647) : ev 225 211 [(2, 130), (0, x1), (0, x2), v3, (9, 0)] [] T V = ev 225 215 [(2, 130), (0, x1), (0, (x1 - 1)), v3, (9, 0)] [] T V := by
  refine Eq.trans (ev_ldi (show zcode 225 211 = some (4, 212, 1, 0, []) by decide +kernel) rfl) ?_
  refine Eq.trans (ev_ci (show zcode 225 212 = some (0, 213, 0, 1, []) by decide +kernel) (by decide)) ?_
  refine Eq.trans (ev_sub (show zcode 225 213 = some (12, 214, 0, 0, []) by decide +kernel) h1) ?_
  exact ev_sti (show zcode 225 214 = some (7, 215, 2, 0, []) by decide +kernel) ⟨show 2 < 5 by decide, Or.inr (show ¬ (0 : Nat) = 1 by decide)⟩
theorem b225_215 {T : zT} {V : zM} {x1 : Int} {x2 : Int} {v3 : zV} {v4 : zV} : ev 225 215 [(2, 130), (0, x1), (0, x2), v3, v4] [] T V = if x2 < 0 then ev 225 290 [(2, 130), (0, x1), (0, x2), v3, v4] [] T V else ev 225 219 [(2, 130), (0, x1), (0, x2), v3, v4] [] T V := by
  refine Eq.trans (ev_ldi (show zcode 225 215 = some (4, 216, 2, 0, []) by decide +kernel) rfl) ?_
  exact ev_lt (show zcode 225 216 = some (42, 219, 290, 0, []) by decide +kernel)
theorem b225_219 {T : zT} {V : zM} {x1 : Int} {x2 : Int} {v3 : zV} {v4 : zV} : ev 225 219 [(2, 130), (0, x1), (0, x2), v3, v4] [] T V = ev 225 221 [(2, 130), (0, x1), (0, x2), (0, 0), v4] [] T V := by
  refine Eq.trans (ev_ci (show zcode 225 219 = some (0, 220, 0, 0, []) by decide +kernel) (by decide)) ?_
  exact ev_sti (show zcode 225 220 = some (7, 221, 3, 0, []) by decide +kernel) ⟨show 3 < 5 by decide, Or.inr (show ¬ (0 : Nat) = 1 by decide)⟩
theorem b225_221 {T : zT} {V : zM} {x1 : Int} {x2 : Int} {x3 : Int} {v4 : zV} (hS : zStr T)  : ev 225 221 [(2, 130), (0, x1), (0, x2), (0, x3), v4] [] T V = if (V 147 0) ≤ x3 then ev 225 284 [(2, 130), (0, x1), (0, x2), (0, x3), v4] [] T V else ev 225 231 [(2, 130), (0, x1), (0, x2), (0, x3), v4] [] T V := by
  refine Eq.trans (ev_ldi (show zcode 225 221 = some (4, 222, 3, 0, []) by decide +kernel) rfl) ?_
  refine Eq.trans (ev_lda (show zcode 225 222 = some (6, 223, 0, 0, []) by decide +kernel) rfl (by decide)) ?_
  refine Eq.trans (ev_gq (show zcode 225 223 = some (56, 226, 12, 30, []) by decide +kernel) (so130 hS) (sp130_30 hS)) ?_
  refine Eq.trans (ev_ci (show zcode 225 226 = some (0, 227, 0, 0, []) by decide +kernel) (by decide)) ?_
  refine Eq.trans (ev_ia (show zcode 225 227 = some (60, 228, 0, 0, []) by decide +kernel) (sa147 hS) (by decide)) ?_
  exact ev_cge (show zcode 225 228 = some (49, 231, 284, 0, []) by decide +kernel)
theorem b225_231 {T : zT} {V : zM} {x1 : Int} {x2 : Int} {x3 : Int} {v4 : zV} : ev 225 231 [(2, 130), (0, x1), (0, x2), (0, x3), v4] [] T V = ev 225 234 [(2, 130), (0, x1), (0, x2), (0, x3), (0, 0)] [] T V := by
  refine Eq.trans (ev_ci (show zcode 225 231 = some (0, 232, 0, 0, []) by decide +kernel) (by decide)) ?_
  exact ev_sti (show zcode 225 232 = some (7, 234, 4, 0, []) by decide +kernel) ⟨show 4 < 5 by decide, Or.inr (show ¬ (0 : Nat) = 1 by decide)⟩
theorem b225_234 {T : zT} {V : zM} {x1 : Int} {x2 : Int} {x3 : Int} {x4 : Int} (hS : zStr T)  : ev 225 234 [(2, 130), (0, x1), (0, x2), (0, x3), (0, x4)] [] T V = if (V 147 1) ≤ x4 then ev 225 278 [(2, 130), (0, x1), (0, x2), (0, x3), (0, x4)] [] T V else ev 225 245 [(2, 130), (0, x1), (0, x2), (0, x3), (0, x4)] [] T V := by
  refine Eq.trans (ev_ldi (show zcode 225 234 = some (4, 236, 4, 0, []) by decide +kernel) rfl) ?_
  refine Eq.trans (ev_lda (show zcode 225 236 = some (6, 237, 0, 0, []) by decide +kernel) rfl (by decide)) ?_
  refine Eq.trans (ev_gq (show zcode 225 237 = some (56, 240, 12, 30, []) by decide +kernel) (so130 hS) (sp130_30 hS)) ?_
  refine Eq.trans (ev_ci (show zcode 225 240 = some (0, 241, 0, 1, []) by decide +kernel) (by decide)) ?_
  refine Eq.trans (ev_ia (show zcode 225 241 = some (60, 242, 0, 0, []) by decide +kernel) (sa147 hS) (by decide)) ?_
  exact ev_cge (show zcode 225 242 = some (49, 245, 278, 0, []) by decide +kernel)
theorem b225_245 {T : zT} {V : zM} {x1 : Int} {x2 : Int} {x3 : Int} {x4 : Int} (hS : zStr T) (h1 : -2147483648 ≤ (224 * x2) ∧ (224 * x2) ≤ 2147483647) (h2 : -2147483648 ≤ ((224 * x2) + x3) ∧ ((224 * x2) + x3) ≤ 2147483647) (h3 : -2147483648 ≤ (((224 * x2) + x3) * 224) ∧ (((224 * x2) + x3) * 224) ≤ 2147483647) (h4 : -2147483648 ≤ ((((224 * x2) + x3) * 224) + x4) ∧ ((((224 * x2) + x3) * 224) + x4) ≤ 2147483647) : ev 225 245 [(2, 130), (0, x1), (0, x2), (0, x3), (0, x4)] [] T V = (zcall 226 [(2, 130), (0, x2), (0, x3), (0, x4)] T V).bind fun x => ev 225 271 [(2, 130), (0, x1), (0, x2), (0, x3), (0, x4)] (z_push x.1 [(0, ((((224 * x2) + x3) * 224) + x4)), (2, 151)]) x.2.1 x.2.2 := by
  refine Eq.trans (ev_lda (show zcode 225 245 = some (6, 246, 0, 0, []) by decide +kernel) rfl (by decide)) ?_
  refine Eq.trans (ev_gq (show zcode 225 246 = some (56, 249, 12, 35, []) by decide +kernel) (so130 hS) (sp130_35 hS)) ?_
  refine Eq.trans (ev_ci (show zcode 225 249 = some (0, 252, 0, 224, []) by decide +kernel) (by decide)) ?_
  refine Eq.trans (ev_ldi (show zcode 225 252 = some (4, 253, 2, 0, []) by decide +kernel) rfl) ?_
  refine Eq.trans (ev_mul (show zcode 225 253 = some (13, 254, 0, 0, []) by decide +kernel) h1) ?_
  refine Eq.trans (ev_ldi (show zcode 225 254 = some (4, 255, 3, 0, []) by decide +kernel) rfl) ?_
  refine Eq.trans (ev_add (show zcode 225 255 = some (11, 256, 0, 0, []) by decide +kernel) h2) ?_
  refine Eq.trans (ev_ci (show zcode 225 256 = some (0, 259, 0, 224, []) by decide +kernel) (by decide)) ?_
  refine Eq.trans (ev_mul (show zcode 225 259 = some (13, 260, 0, 0, []) by decide +kernel) h3) ?_
  refine Eq.trans (ev_ldi (show zcode 225 260 = some (4, 262, 4, 0, []) by decide +kernel) rfl) ?_
  refine Eq.trans (ev_add (show zcode 225 262 = some (11, 263, 0, 0, []) by decide +kernel) h4) ?_
  refine Eq.trans (ev_lda (show zcode 225 263 = some (6, 264, 0, 0, []) by decide +kernel) rfl (by decide)) ?_
  refine Eq.trans (ev_ldi (show zcode 225 264 = some (4, 265, 2, 0, []) by decide +kernel) rfl) ?_
  refine Eq.trans (ev_ldi (show zcode 225 265 = some (4, 266, 3, 0, []) by decide +kernel) rfl) ?_
  refine Eq.trans (ev_ldi (show zcode 225 266 = some (4, 268, 4, 0, []) by decide +kernel) rfl) ?_
  exact ev_cvirt (show zcode 225 268 = some (76, 271, 226, 4, [12]) by decide +kernel) (args := [(0, x2), (0, x3), (0, x4)]) (rest := [(0, ((((224 * x2) + x3) * 224) + x4)), (2, 151)]) rfl (so130 hS) rfl (show 2 ≤ 8 by decide) ⟨by decide, show 4 ≤ 10 by decide⟩
theorem b225_271 {T : zT} {V : zM} {x1 : Int} {x2 : Int} {x3 : Int} {x4 : Int} {y1 : Int} {y2 : Int} (hS : zStr T) (h1 : (0 : Int) ≤ y1 ∧ y1 < 852992) (h2 : -2147483648 ≤ (x4 + 1) ∧ (x4 + 1) ≤ 2147483647) : ev 225 271 [(2, 130), (0, x1), (0, x2), (0, x3), (0, x4)] [(0, y2), (0, y1), (2, 151)] T V = ev 225 234 [(2, 130), (0, x1), (0, x2), (0, x3), (0, (x4 + 1))] [] T (zwr V 151 y1 y2) := by
  refine Eq.trans (ev_is (show zcode 225 271 = some (64, 272, 0, 0, []) by decide +kernel) (sa151 hS) h1) ?_
  refine Eq.trans (ev_inc (show zcode 225 272 = some (10, 275, 4, 1, []) by decide +kernel) rfl h2 (Or.inr (show ¬ (0 : Nat) = 1 by decide))) ?_
  exact ev_goto (show zcode 225 275 = some (53, 278, 234, 0, []) by decide +kernel)
theorem b225_278 {T : zT} {V : zM} {x1 : Int} {x2 : Int} {x3 : Int} {x4 : Int} (h1 : -2147483648 ≤ (x3 + 1) ∧ (x3 + 1) ≤ 2147483647) : ev 225 278 [(2, 130), (0, x1), (0, x2), (0, x3), (0, x4)] [] T V = ev 225 221 [(2, 130), (0, x1), (0, x2), (0, (x3 + 1)), (0, x4)] [] T V := by
  refine Eq.trans (ev_inc (show zcode 225 278 = some (10, 281, 3, 1, []) by decide +kernel) rfl h1 (Or.inr (show ¬ (0 : Nat) = 1 by decide))) ?_
  exact ev_goto (show zcode 225 281 = some (53, 284, 221, 0, []) by decide +kernel)
theorem b225_284 {T : zT} {V : zM} {x1 : Int} {x2 : Int} {x3 : Int} {v4 : zV} (h1 : -2147483648 ≤ (x2 + (-1)) ∧ (x2 + (-1)) ≤ 2147483647) : ev 225 284 [(2, 130), (0, x1), (0, x2), (0, x3), v4] [] T V = ev 225 215 [(2, 130), (0, x1), (0, (x2 + (-1))), (0, x3), v4] [] T V := by
  refine Eq.trans (ev_inc (show zcode 225 284 = some (10, 287, 2, (-1), []) by decide +kernel) rfl h1 (Or.inr (show ¬ (0 : Nat) = 1 by decide))) ?_
  exact ev_goto (show zcode 225 287 = some (53, 290, 215, 0, []) by decide +kernel)
theorem b225_290 {T : zT} {V : zM} {x1 : Int} {x2 : Int} {v3 : zV} {v4 : zV} : ev 225 290 [(2, 130), (0, x1), (0, x2), v3, v4] [] T V = some ((9, 0), T, V) := by
  exact ev_rn (show zcode 225 290 = some (73, 291, 0, 0, []) by decide +kernel)
/-! 226: TwoWayWallModel.leastOf(III)I -/
theorem e226 {T : zT} {V : zM} {x1 : Int} {x2 : Int} {x3 : Int} : zcall 226 [(2, 130), (0, x1), (0, x2), (0, x3)] T V = ev 226 0 [(2, 130), (0, x1), (0, x2), (0, x3), (9, 0), (9, 0), (9, 0), (9, 0), (9, 0), (9, 0)] [] T V := rfl
theorem b226_0 {T : zT} {V : zM} {x1 : Int} {x2 : Int} {x3 : Int} : ev 226 0 [(2, 130), (0, x1), (0, x2), (0, x3), (9, 0), (9, 0), (9, 0), (9, 0), (9, 0), (9, 0)] [] T V = ev 226 8 [(2, 130), (0, x1), (0, x2), (0, x3), (0, 1000000000), (0, 0), (9, 0), (9, 0), (9, 0), (9, 0)] [] T V := by
  refine Eq.trans (ev_ci (show zcode 226 0 = some (0, 3, 0, 1000000000, []) by decide +kernel) (by decide)) ?_
  refine Eq.trans (ev_sti (show zcode 226 3 = some (7, 5, 4, 0, []) by decide +kernel) ⟨show 4 < 10 by decide, Or.inr (show ¬ (0 : Nat) = 1 by decide)⟩) ?_
  refine Eq.trans (ev_ci (show zcode 226 5 = some (0, 6, 0, 0, []) by decide +kernel) (by decide)) ?_
  exact ev_sti (show zcode 226 6 = some (7, 8, 5, 0, []) by decide +kernel) ⟨show 5 < 10 by decide, Or.inr (show ¬ (0 : Nat) = 1 by decide)⟩
theorem b226_8 {T : zT} {V : zM} {x1 : Int} {x2 : Int} {x3 : Int} {x4 : Int} {x5 : Int} {v6 : zV} {v7 : zV} {v8 : zV} {v9 : zV} : ev 226 8 [(2, 130), (0, x1), (0, x2), (0, x3), (0, x4), (0, x5), v6, v7, v8, v9] [] T V = if 27 ≤ x5 then ev 226 151 [(2, 130), (0, x1), (0, x2), (0, x3), (0, x4), (0, x5), v6, v7, v8, v9] [] T V else ev 226 15 [(2, 130), (0, x1), (0, x2), (0, x3), (0, x4), (0, x5), v6, v7, v8, v9] [] T V := by
  refine Eq.trans (ev_ldi (show zcode 226 8 = some (4, 10, 5, 0, []) by decide +kernel) rfl) ?_
  refine Eq.trans (ev_ci (show zcode 226 10 = some (0, 12, 0, 27, []) by decide +kernel) (by decide)) ?_
  exact ev_cge (show zcode 226 12 = some (49, 15, 151, 0, []) by decide +kernel)
theorem b226_15 {T : zT} {V : zM} {x1 : Int} {x2 : Int} {x3 : Int} {x4 : Int} {x5 : Int} {v6 : zV} {v7 : zV} {v8 : zV} {v9 : zV} (hS : zStr T)  : ev 226 15 [(2, 130), (0, x1), (0, x2), (0, x3), (0, x4), (0, x5), v6, v7, v8, v9] [] T V = (zcall 221 [(2, 130), (0, 0), (0, x2), (0, x5)] T V).bind fun x => ev 226 23 [(2, 130), (0, x1), (0, x2), (0, x3), (0, x4), (0, x5), v6, v7, v8, v9] (z_push x.1 []) x.2.1 x.2.2 := by
  refine Eq.trans (ev_lda (show zcode 226 15 = some (6, 16, 0, 0, []) by decide +kernel) rfl (by decide)) ?_
  refine Eq.trans (ev_ci (show zcode 226 16 = some (0, 17, 0, 0, []) by decide +kernel) (by decide)) ?_
  refine Eq.trans (ev_ldi (show zcode 226 17 = some (4, 18, 2, 0, []) by decide +kernel) rfl) ?_
  refine Eq.trans (ev_ldi (show zcode 226 18 = some (4, 20, 5, 0, []) by decide +kernel) rfl) ?_
  exact ev_cvirt (show zcode 226 20 = some (76, 23, 221, 4, [12]) by decide +kernel) (args := [(0, 0), (0, x2), (0, x5)]) (rest := []) rfl (so130 hS) rfl (show 0 ≤ 8 by decide) ⟨by decide, show 4 ≤ 4 by decide⟩
theorem b226_23 {T : zT} {V : zM} {x1 : Int} {x2 : Int} {x3 : Int} {x4 : Int} {x5 : Int} {v6 : zV} {v7 : zV} {v8 : zV} {v9 : zV} {y0 : Int} : ev 226 23 [(2, 130), (0, x1), (0, x2), (0, x3), (0, x4), (0, x5), v6, v7, v8, v9] [(0, y0)] T V = ev 226 28 [(2, 130), (0, x1), (0, x2), (0, x3), (0, x4), (0, x5), (0, y0), (0, 0), v8, v9] [] T V := by
  refine Eq.trans (ev_sti (show zcode 226 23 = some (7, 25, 6, 0, []) by decide +kernel) ⟨show 6 < 10 by decide, Or.inr (show ¬ (0 : Nat) = 1 by decide)⟩) ?_
  refine Eq.trans (ev_ci (show zcode 226 25 = some (0, 26, 0, 0, []) by decide +kernel) (by decide)) ?_
  exact ev_sti (show zcode 226 26 = some (7, 28, 7, 0, []) by decide +kernel) ⟨show 7 < 10 by decide, Or.inr (show ¬ (0 : Nat) = 1 by decide)⟩
theorem b226_28 {T : zT} {V : zM} {x1 : Int} {x2 : Int} {x3 : Int} {x4 : Int} {x5 : Int} {x6 : Int} {x7 : Int} {v8 : zV} {v9 : zV} : ev 226 28 [(2, 130), (0, x1), (0, x2), (0, x3), (0, x4), (0, x5), (0, x6), (0, x7), v8, v9] [] T V = if 27 ≤ x7 then ev 226 145 [(2, 130), (0, x1), (0, x2), (0, x3), (0, x4), (0, x5), (0, x6), (0, x7), v8, v9] [] T V else ev 226 35 [(2, 130), (0, x1), (0, x2), (0, x3), (0, x4), (0, x5), (0, x6), (0, x7), v8, v9] [] T V := by
  refine Eq.trans (ev_ldi (show zcode 226 28 = some (4, 30, 7, 0, []) by decide +kernel) rfl) ?_
  refine Eq.trans (ev_ci (show zcode 226 30 = some (0, 32, 0, 27, []) by decide +kernel) (by decide)) ?_
  exact ev_cge (show zcode 226 32 = some (49, 35, 145, 0, []) by decide +kernel)
theorem b226_35 {T : zT} {V : zM} {x1 : Int} {x2 : Int} {x3 : Int} {x4 : Int} {x5 : Int} {x6 : Int} {x7 : Int} {v8 : zV} {v9 : zV} : ev 226 35 [(2, 130), (0, x1), (0, x2), (0, x3), (0, x4), (0, x5), (0, x6), (0, x7), v8, v9] [] T V = if x6 = (-1) then ev 226 145 [(2, 130), (0, x1), (0, x2), (0, x3), (0, x4), (0, x5), (0, x6), (0, x7), v8, v9] [] T V else ev 226 41 [(2, 130), (0, x1), (0, x2), (0, x3), (0, x4), (0, x5), (0, x6), (0, x7), v8, v9] [] T V := by
  refine Eq.trans (ev_ldi (show zcode 226 35 = some (4, 37, 6, 0, []) by decide +kernel) rfl) ?_
  refine Eq.trans (ev_ci (show zcode 226 37 = some (0, 38, 0, (-1), []) by decide +kernel) (by decide)) ?_
  exact ev_ceq (show zcode 226 38 = some (46, 41, 145, 0, []) by decide +kernel)
theorem b226_41 {T : zT} {V : zM} {x1 : Int} {x2 : Int} {x3 : Int} {x4 : Int} {x5 : Int} {x6 : Int} {x7 : Int} {v8 : zV} {v9 : zV} (hS : zStr T)  : ev 226 41 [(2, 130), (0, x1), (0, x2), (0, x3), (0, x4), (0, x5), (0, x6), (0, x7), v8, v9] [] T V = (zcall 221 [(2, 130), (0, 1), (0, x3), (0, x7)] T V).bind fun x => ev 226 49 [(2, 130), (0, x1), (0, x2), (0, x3), (0, x4), (0, x5), (0, x6), (0, x7), v8, v9] (z_push x.1 []) x.2.1 x.2.2 := by
  refine Eq.trans (ev_lda (show zcode 226 41 = some (6, 42, 0, 0, []) by decide +kernel) rfl (by decide)) ?_
  refine Eq.trans (ev_ci (show zcode 226 42 = some (0, 43, 0, 1, []) by decide +kernel) (by decide)) ?_
  refine Eq.trans (ev_ldi (show zcode 226 43 = some (4, 44, 3, 0, []) by decide +kernel) rfl) ?_
  refine Eq.trans (ev_ldi (show zcode 226 44 = some (4, 46, 7, 0, []) by decide +kernel) rfl) ?_
  exact ev_cvirt (show zcode 226 46 = some (76, 49, 221, 4, [12]) by decide +kernel) (args := [(0, 1), (0, x3), (0, x7)]) (rest := []) rfl (so130 hS) rfl (show 0 ≤ 8 by decide) ⟨by decide, show 4 ≤ 4 by decide⟩
theorem b226_49 {T : zT} {V : zM} {x1 : Int} {x2 : Int} {x3 : Int} {x4 : Int} {x5 : Int} {x6 : Int} {x7 : Int} {v8 : zV} {v9 : zV} {y0 : Int} : ev 226 49 [(2, 130), (0, x1), (0, x2), (0, x3), (0, x4), (0, x5), (0, x6), (0, x7), v8, v9] [(0, y0)] T V = if y0 = (-1) then ev 226 139 [(2, 130), (0, x1), (0, x2), (0, x3), (0, x4), (0, x5), (0, x6), (0, x7), (0, y0), v9] [] T V else ev 226 57 [(2, 130), (0, x1), (0, x2), (0, x3), (0, x4), (0, x5), (0, x6), (0, x7), (0, y0), v9] [] T V := by
  refine Eq.trans (ev_sti (show zcode 226 49 = some (7, 51, 8, 0, []) by decide +kernel) ⟨show 8 < 10 by decide, Or.inr (show ¬ (0 : Nat) = 1 by decide)⟩) ?_
  refine Eq.trans (ev_ldi (show zcode 226 51 = some (4, 53, 8, 0, []) by decide +kernel) rfl) ?_
  refine Eq.trans (ev_ci (show zcode 226 53 = some (0, 54, 0, (-1), []) by decide +kernel) (by decide)) ?_
  exact ev_ceq (show zcode 226 54 = some (46, 57, 139, 0, []) by decide +kernel)
theorem b226_57 {T : zT} {V : zM} {x1 : Int} {x2 : Int} {x3 : Int} {x4 : Int} {x5 : Int} {x6 : Int} {x7 : Int} {x8 : Int} {v9 : zV} (hS : zStr T) (h1 : -2147483648 ≤ (27 * x5) ∧ (27 * x5) ≤ 2147483647) (h2 : -2147483648 ≤ ((27 * x5) + x7) ∧ ((27 * x5) + x7) ≤ 2147483647) (h3 : (0 : Int) ≤ ((27 * x5) + x7) ∧ ((27 * x5) + x7) < 729) : ev 226 57 [(2, 130), (0, x1), (0, x2), (0, x3), (0, x4), (0, x5), (0, x6), (0, x7), (0, x8), v9] [] T V = if (V 152 ((27 * x5) + x7)) = 1000000000 then ev 226 139 [(2, 130), (0, x1), (0, x2), (0, x3), (0, x4), (0, x5), (0, x6), (0, x7), (0, x8), v9] [] T V else ev 226 76 [(2, 130), (0, x1), (0, x2), (0, x3), (0, x4), (0, x5), (0, x6), (0, x7), (0, x8), v9] [] T V := by
  refine Eq.trans (ev_lda (show zcode 226 57 = some (6, 58, 0, 0, []) by decide +kernel) rfl (by decide)) ?_
  refine Eq.trans (ev_gq (show zcode 226 58 = some (56, 61, 12, 36, []) by decide +kernel) (so130 hS) (sp130_36 hS)) ?_
  refine Eq.trans (ev_ci (show zcode 226 61 = some (0, 63, 0, 27, []) by decide +kernel) (by decide)) ?_
  refine Eq.trans (ev_ldi (show zcode 226 63 = some (4, 65, 5, 0, []) by decide +kernel) rfl) ?_
  refine Eq.trans (ev_mul (show zcode 226 65 = some (13, 66, 0, 0, []) by decide +kernel) h1) ?_
  refine Eq.trans (ev_ldi (show zcode 226 66 = some (4, 68, 7, 0, []) by decide +kernel) rfl) ?_
  refine Eq.trans (ev_add (show zcode 226 68 = some (11, 69, 0, 0, []) by decide +kernel) h2) ?_
  refine Eq.trans (ev_ia (show zcode 226 69 = some (60, 70, 0, 0, []) by decide +kernel) (sa152 hS) h3) ?_
  refine Eq.trans (ev_ci (show zcode 226 70 = some (0, 73, 0, 1000000000, []) by decide +kernel) (by decide)) ?_
  exact ev_ceq (show zcode 226 73 = some (46, 76, 139, 0, []) by decide +kernel)
theorem b226_76 {T : zT} {V : zM} {x1 : Int} {x2 : Int} {x3 : Int} {x4 : Int} {x5 : Int} {x6 : Int} {x7 : Int} {x8 : Int} {v9 : zV} (hS : zStr T) (h1 : -2147483648 ≤ (x1 + 1) ∧ (x1 + 1) ≤ 2147483647) : ev 226 76 [(2, 130), (0, x1), (0, x2), (0, x3), (0, x4), (0, x5), (0, x6), (0, x7), (0, x8), v9] [] T V = (zcall 227 [(2, 130), (0, (x1 + 1)), (0, x6), (0, x8)] T V).bind fun x => ev 226 87 [(2, 130), (0, x1), (0, x2), (0, x3), (0, x4), (0, x5), (0, x6), (0, x7), (0, x8), v9] (z_push x.1 []) x.2.1 x.2.2 := by
  refine Eq.trans (ev_lda (show zcode 226 76 = some (6, 77, 0, 0, []) by decide +kernel) rfl (by decide)) ?_
  refine Eq.trans (ev_ldi (show zcode 226 77 = some (4, 78, 1, 0, []) by decide +kernel) rfl) ?_
  refine Eq.trans (ev_ci (show zcode 226 78 = some (0, 79, 0, 1, []) by decide +kernel) (by decide)) ?_
  refine Eq.trans (ev_add (show zcode 226 79 = some (11, 80, 0, 0, []) by decide +kernel) h1) ?_
  refine Eq.trans (ev_ldi (show zcode 226 80 = some (4, 82, 6, 0, []) by decide +kernel) rfl) ?_
  refine Eq.trans (ev_ldi (show zcode 226 82 = some (4, 84, 8, 0, []) by decide +kernel) rfl) ?_
  exact ev_cvirt (show zcode 226 84 = some (76, 87, 227, 4, [12]) by decide +kernel) (args := [(0, (x1 + 1)), (0, x6), (0, x8)]) (rest := []) rfl (so130 hS) rfl (show 0 ≤ 8 by decide) ⟨by decide, show 4 ≤ 4 by decide⟩
theorem b226_87 {T : zT} {V : zM} {x1 : Int} {x2 : Int} {x3 : Int} {x4 : Int} {x5 : Int} {x6 : Int} {x7 : Int} {x8 : Int} {v9 : zV} {y0 : Int} : ev 226 87 [(2, 130), (0, x1), (0, x2), (0, x3), (0, x4), (0, x5), (0, x6), (0, x7), (0, x8), v9] [(0, y0)] T V = if y0 = 1000000000 then ev 226 93 [(2, 130), (0, x1), (0, x2), (0, x3), (0, x4), (0, x5), (0, x6), (0, x7), (0, x8), v9] [] T V else ev 226 96 [(2, 130), (0, x1), (0, x2), (0, x3), (0, x4), (0, x5), (0, x6), (0, x7), (0, x8), v9] [] T V := by
  refine Eq.trans (ev_ci (show zcode 226 87 = some (0, 90, 0, 1000000000, []) by decide +kernel) (by decide)) ?_
  exact ev_cne (show zcode 226 90 = some (47, 93, 96, 0, []) by decide +kernel)
theorem b226_93 {T : zT} {V : zM} {x1 : Int} {x2 : Int} {x3 : Int} {x4 : Int} {x5 : Int} {x6 : Int} {x7 : Int} {x8 : Int} {v9 : zV} : ev 226 93 [(2, 130), (0, x1), (0, x2), (0, x3), (0, x4), (0, x5), (0, x6), (0, x7), (0, x8), v9] [] T V = ev 226 139 [(2, 130), (0, x1), (0, x2), (0, x3), (0, x4), (0, x5), (0, x6), (0, x7), (0, x8), v9] [] T V := by
  exact ev_goto (show zcode 226 93 = some (53, 96, 139, 0, []) by decide +kernel)
theorem b226_96 {T : zT} {V : zM} {x1 : Int} {x2 : Int} {x3 : Int} {x4 : Int} {x5 : Int} {x6 : Int} {x7 : Int} {x8 : Int} {v9 : zV} (hS : zStr T) (h1 : -2147483648 ≤ (27 * x5) ∧ (27 * x5) ≤ 2147483647) (h2 : -2147483648 ≤ ((27 * x5) + x7) ∧ ((27 * x5) + x7) ≤ 2147483647) (h3 : (0 : Int) ≤ ((27 * x5) + x7) ∧ ((27 * x5) + x7) < 729) (h4 : -2147483648 ≤ (x1 + 1) ∧ (x1 + 1) ≤ 2147483647) : ev 226 96 [(2, 130), (0, x1), (0, x2), (0, x3), (0, x4), (0, x5), (0, x6), (0, x7), (0, x8), v9] [] T V = (zcall 227 [(2, 130), (0, (x1 + 1)), (0, x6), (0, x8)] T V).bind fun x => ev 226 120 [(2, 130), (0, x1), (0, x2), (0, x3), (0, x4), (0, x5), (0, x6), (0, x7), (0, x8), v9] (z_push x.1 [(0, (V 152 ((27 * x5) + x7)))]) x.2.1 x.2.2 := by
  refine Eq.trans (ev_lda (show zcode 226 96 = some (6, 97, 0, 0, []) by decide +kernel) rfl (by decide)) ?_
  refine Eq.trans (ev_gq (show zcode 226 97 = some (56, 100, 12, 36, []) by decide +kernel) (so130 hS) (sp130_36 hS)) ?_
  refine Eq.trans (ev_ci (show zcode 226 100 = some (0, 102, 0, 27, []) by decide +kernel) (by decide)) ?_
  refine Eq.trans (ev_ldi (show zcode 226 102 = some (4, 104, 5, 0, []) by decide +kernel) rfl) ?_
  refine Eq.trans (ev_mul (show zcode 226 104 = some (13, 105, 0, 0, []) by decide +kernel) h1) ?_
  refine Eq.trans (ev_ldi (show zcode 226 105 = some (4, 107, 7, 0, []) by decide +kernel) rfl) ?_
  refine Eq.trans (ev_add (show zcode 226 107 = some (11, 108, 0, 0, []) by decide +kernel) h2) ?_
  refine Eq.trans (ev_ia (show zcode 226 108 = some (60, 109, 0, 0, []) by decide +kernel) (sa152 hS) h3) ?_
  refine Eq.trans (ev_lda (show zcode 226 109 = some (6, 110, 0, 0, []) by decide +kernel) rfl (by decide)) ?_
  refine Eq.trans (ev_ldi (show zcode 226 110 = some (4, 111, 1, 0, []) by decide +kernel) rfl) ?_
  refine Eq.trans (ev_ci (show zcode 226 111 = some (0, 112, 0, 1, []) by decide +kernel) (by decide)) ?_
  refine Eq.trans (ev_add (show zcode 226 112 = some (11, 113, 0, 0, []) by decide +kernel) h4) ?_
  refine Eq.trans (ev_ldi (show zcode 226 113 = some (4, 115, 6, 0, []) by decide +kernel) rfl) ?_
  refine Eq.trans (ev_ldi (show zcode 226 115 = some (4, 117, 8, 0, []) by decide +kernel) rfl) ?_
  exact ev_cvirt (show zcode 226 117 = some (76, 120, 227, 4, [12]) by decide +kernel) (args := [(0, (x1 + 1)), (0, x6), (0, x8)]) (rest := [(0, (V 152 ((27 * x5) + x7)))]) rfl (so130 hS) rfl (show 1 ≤ 8 by decide) ⟨by decide, show 4 ≤ 4 by decide⟩
theorem b226_120 {T : zT} {V : zM} {x1 : Int} {x2 : Int} {x3 : Int} {x4 : Int} {x5 : Int} {x6 : Int} {x7 : Int} {x8 : Int} {v9 : zV} {y0 : Int} {y1 : Int} (h1 : -2147483648 ≤ (y0 + y1) ∧ (y0 + y1) ≤ 2147483647) : ev 226 120 [(2, 130), (0, x1), (0, x2), (0, x3), (0, x4), (0, x5), (0, x6), (0, x7), (0, x8), v9] [(0, y1), (0, y0)] T V = if x4 ≤ (y0 + y1) then ev 226 135 [(2, 130), (0, x1), (0, x2), (0, x3), (0, x4), (0, x5), (0, x6), (0, x7), (0, x8), (0, (y0 + y1))] [] T V else ev 226 130 [(2, 130), (0, x1), (0, x2), (0, x3), (0, x4), (0, x5), (0, x6), (0, x7), (0, x8), (0, (y0 + y1))] [] T V := by
  refine Eq.trans (ev_add (show zcode 226 120 = some (11, 121, 0, 0, []) by decide +kernel) h1) ?_
  refine Eq.trans (ev_sti (show zcode 226 121 = some (7, 123, 9, 0, []) by decide +kernel) ⟨show 9 < 10 by decide, Or.inr (show ¬ (0 : Nat) = 1 by decide)⟩) ?_
  refine Eq.trans (ev_ldi (show zcode 226 123 = some (4, 125, 9, 0, []) by decide +kernel) rfl) ?_
  refine Eq.trans (ev_ldi (show zcode 226 125 = some (4, 127, 4, 0, []) by decide +kernel) rfl) ?_
  exact ev_cge (show zcode 226 127 = some (49, 130, 135, 0, []) by decide +kernel)
theorem b226_130 {T : zT} {V : zM} {x1 : Int} {x2 : Int} {x3 : Int} {x4 : Int} {x5 : Int} {x6 : Int} {x7 : Int} {x8 : Int} {x9 : Int} : ev 226 130 [(2, 130), (0, x1), (0, x2), (0, x3), (0, x4), (0, x5), (0, x6), (0, x7), (0, x8), (0, x9)] [] T V = ev 226 137 [(2, 130), (0, x1), (0, x2), (0, x3), (0, x4), (0, x5), (0, x6), (0, x7), (0, x8), (0, x9)] [(0, x9)] T V := by
  refine Eq.trans (ev_ldi (show zcode 226 130 = some (4, 132, 9, 0, []) by decide +kernel) rfl) ?_
  exact ev_goto (show zcode 226 132 = some (53, 135, 137, 0, []) by decide +kernel)
theorem b226_135 {T : zT} {V : zM} {x1 : Int} {x2 : Int} {x3 : Int} {x4 : Int} {x5 : Int} {x6 : Int} {x7 : Int} {x8 : Int} {x9 : Int} : ev 226 135 [(2, 130), (0, x1), (0, x2), (0, x3), (0, x4), (0, x5), (0, x6), (0, x7), (0, x8), (0, x9)] [] T V = ev 226 137 [(2, 130), (0, x1), (0, x2), (0, x3), (0, x4), (0, x5), (0, x6), (0, x7), (0, x8), (0, x9)] [(0, x4)] T V := by
  exact ev_ldi (show zcode 226 135 = some (4, 137, 4, 0, []) by decide +kernel) rfl
theorem b226_137 {T : zT} {V : zM} {x1 : Int} {x2 : Int} {x3 : Int} {x4 : Int} {x5 : Int} {x6 : Int} {x7 : Int} {x8 : Int} {x9 : Int} {y0 : Int} : ev 226 137 [(2, 130), (0, x1), (0, x2), (0, x3), (0, x4), (0, x5), (0, x6), (0, x7), (0, x8), (0, x9)] [(0, y0)] T V = ev 226 139 [(2, 130), (0, x1), (0, x2), (0, x3), (0, y0), (0, x5), (0, x6), (0, x7), (0, x8), (0, x9)] [] T V := by
  exact ev_sti (show zcode 226 137 = some (7, 139, 4, 0, []) by decide +kernel) ⟨show 4 < 10 by decide, Or.inr (show ¬ (0 : Nat) = 1 by decide)⟩
theorem b226_139 {T : zT} {V : zM} {x1 : Int} {x2 : Int} {x3 : Int} {x4 : Int} {x5 : Int} {x6 : Int} {x7 : Int} {x8 : Int} {v9 : zV} (h1 : -2147483648 ≤ (x7 + 1) ∧ (x7 + 1) ≤ 2147483647) : ev 226 139 [(2, 130), (0, x1), (0, x2), (0, x3), (0, x4), (0, x5), (0, x6), (0, x7), (0, x8), v9] [] T V = ev 226 28 [(2, 130), (0, x1), (0, x2), (0, x3), (0, x4), (0, x5), (0, x6), (0, (x7 + 1)), (0, x8), v9] [] T V := by
  refine Eq.trans (ev_inc (show zcode 226 139 = some (10, 142, 7, 1, []) by decide +kernel) rfl h1 (Or.inr (show ¬ (0 : Nat) = 1 by decide))) ?_
  exact ev_goto (show zcode 226 142 = some (53, 145, 28, 0, []) by decide +kernel)
theorem b226_145 {T : zT} {V : zM} {x1 : Int} {x2 : Int} {x3 : Int} {x4 : Int} {x5 : Int} {x6 : Int} {x7 : Int} {v8 : zV} {v9 : zV} (h1 : -2147483648 ≤ (x5 + 1) ∧ (x5 + 1) ≤ 2147483647) : ev 226 145 [(2, 130), (0, x1), (0, x2), (0, x3), (0, x4), (0, x5), (0, x6), (0, x7), v8, v9] [] T V = ev 226 8 [(2, 130), (0, x1), (0, x2), (0, x3), (0, x4), (0, (x5 + 1)), (0, x6), (0, x7), v8, v9] [] T V := by
  refine Eq.trans (ev_inc (show zcode 226 145 = some (10, 148, 5, 1, []) by decide +kernel) rfl h1 (Or.inr (show ¬ (0 : Nat) = 1 by decide))) ?_
  exact ev_goto (show zcode 226 148 = some (53, 151, 8, 0, []) by decide +kernel)
theorem b226_151 {T : zT} {V : zM} {x1 : Int} {x2 : Int} {x3 : Int} {x4 : Int} {x5 : Int} {v6 : zV} {v7 : zV} {v8 : zV} {v9 : zV} : ev 226 151 [(2, 130), (0, x1), (0, x2), (0, x3), (0, x4), (0, x5), v6, v7, v8, v9] [] T V = some ((0, x4), T, V) := by
  refine Eq.trans (ev_ldi (show zcode 226 151 = some (4, 153, 4, 0, []) by decide +kernel) rfl) ?_
  exact ev_ri (show zcode 226 153 = some (72, 154, 0, 0, []) by decide +kernel)
/-! 227: TwoWayWallModel.leftAt(III)I -/
theorem e227 {T : zT} {V : zM} {x1 : Int} {x2 : Int} {x3 : Int} : zcall 227 [(2, 130), (0, x1), (0, x2), (0, x3)] T V = ev 227 0 [(2, 130), (0, x1), (0, x2), (0, x3)] [] T V := rfl
theorem b227_0 {T : zT} {V : zM} {x1 : Int} {x2 : Int} {x3 : Int} (hS : zStr T) (h1 : -2147483648 ≤ (224 * x1) ∧ (224 * x1) ≤ 2147483647) (h2 : -2147483648 ≤ ((224 * x1) + x2) ∧ ((224 * x1) + x2) ≤ 2147483647) (h3 : -2147483648 ≤ (((224 * x1) + x2) * 224) ∧ (((224 * x1) + x2) * 224) ≤ 2147483647) (h4 : -2147483648 ≤ ((((224 * x1) + x2) * 224) + x3) ∧ ((((224 * x1) + x2) * 224) + x3) ≤ 2147483647) (h5 : (0 : Int) ≤ ((((224 * x1) + x2) * 224) + x3) ∧ ((((224 * x1) + x2) * 224) + x3) < 852992) : ev 227 0 [(2, 130), (0, x1), (0, x2), (0, x3)] [] T V = some ((0, (V 151 ((((224 * x1) + x2) * 224) + x3))), T, V) := by
  refine Eq.trans (ev_lda (show zcode 227 0 = some (6, 1, 0, 0, []) by decide +kernel) rfl (by decide)) ?_
  refine Eq.trans (ev_gq (show zcode 227 1 = some (56, 4, 12, 35, []) by decide +kernel) (so130 hS) (sp130_35 hS)) ?_
  refine Eq.trans (ev_ci (show zcode 227 4 = some (0, 7, 0, 224, []) by decide +kernel) (by decide)) ?_
  refine Eq.trans (ev_ldi (show zcode 227 7 = some (4, 8, 1, 0, []) by decide +kernel) rfl) ?_
  refine Eq.trans (ev_mul (show zcode 227 8 = some (13, 9, 0, 0, []) by decide +kernel) h1) ?_
  refine Eq.trans (ev_ldi (show zcode 227 9 = some (4, 10, 2, 0, []) by decide +kernel) rfl) ?_
  refine Eq.trans (ev_add (show zcode 227 10 = some (11, 11, 0, 0, []) by decide +kernel) h2) ?_
  refine Eq.trans (ev_ci (show zcode 227 11 = some (0, 14, 0, 224, []) by decide +kernel) (by decide)) ?_
  refine Eq.trans (ev_mul (show zcode 227 14 = some (13, 15, 0, 0, []) by decide +kernel) h3) ?_
  refine Eq.trans (ev_ldi (show zcode 227 15 = some (4, 16, 3, 0, []) by decide +kernel) rfl) ?_
  refine Eq.trans (ev_add (show zcode 227 16 = some (11, 17, 0, 0, []) by decide +kernel) h4) ?_
  refine Eq.trans (ev_ia (show zcode 227 17 = some (60, 18, 0, 0, []) by decide +kernel) (sa151 hS) h5) ?_
  exact ev_ri (show zcode 227 18 = some (72, 19, 0, 0, []) by decide +kernel)
/-! 228: TwoWayWallModel.first(I)I -/
theorem e228 {T : zT} {V : zM} {x1 : Int} : zcall 228 [(2, 130), (0, x1)] T V = ev 228 0 [(2, 130), (0, x1), (9, 0), (9, 0), (9, 0), (9, 0)] [] T V := rfl
theorem b228_0 {T : zT} {V : zM} {x1 : Int} (hS : zStr T)  : ev 228 0 [(2, 130), (0, x1), (9, 0), (9, 0), (9, 0), (9, 0)] [] T V = (zcall 157 [(2, 130), (0, x1)] T V).bind fun x => ev 228 5 [(2, 130), (0, x1), (9, 0), (9, 0), (9, 0), (9, 0)] (z_push x.1 []) x.2.1 x.2.2 := by
  refine Eq.trans (ev_lda (show zcode 228 0 = some (6, 1, 0, 0, []) by decide +kernel) rfl (by decide)) ?_
  refine Eq.trans (ev_ldi (show zcode 228 1 = some (4, 2, 1, 0, []) by decide +kernel) rfl) ?_
  exact ev_cvirt (show zcode 228 2 = some (76, 5, 157, 2, [12]) by decide +kernel) (args := [(0, x1)]) (rest := []) rfl (so130 hS) rfl (show 0 ≤ 8 by decide) ⟨by decide, show 2 ≤ 2 by decide⟩
theorem b228_5 {T : zT} {V : zM} {x1 : Int} {y0 : Int} : ev 228 5 [(2, 130), (0, x1), (9, 0), (9, 0), (9, 0), (9, 0)] [(0, y0)] T V = if y0 = 0 then ev 228 16 [(2, 130), (0, x1), (9, 0), (9, 0), (9, 0), (9, 0)] [] T V else ev 228 8 [(2, 130), (0, x1), (9, 0), (9, 0), (9, 0), (9, 0)] [] T V := by
  exact ev_eq (show zcode 228 5 = some (40, 8, 16, 0, []) by decide +kernel)
theorem b228_8 {T : zT} {V : zM} {x1 : Int} (hS : zStr T)  : ev 228 8 [(2, 130), (0, x1), (9, 0), (9, 0), (9, 0), (9, 0)] [] T V = (zcall 224 [(2, 130)] T V).bind fun x => ev 228 12 [(2, 130), (0, x1), (9, 0), (9, 0), (9, 0), (9, 0)] (z_push x.1 []) x.2.1 x.2.2 := by
  refine Eq.trans (ev_lda (show zcode 228 8 = some (6, 9, 0, 0, []) by decide +kernel) rfl (by decide)) ?_
  exact ev_cvirt (show zcode 228 9 = some (76, 12, 224, 1, [12]) by decide +kernel) (args := []) (rest := []) rfl (so130 hS) rfl (show 0 ≤ 8 by decide) ⟨by decide, show 1 ≤ 1 by decide⟩
theorem b228_12 {T : zT} {V : zM} {x1 : Int} {y0 : Int} : ev 228 12 [(2, 130), (0, x1), (9, 0), (9, 0), (9, 0), (9, 0)] [(0, y0)] T V = if y0 = (-1) then ev 228 16 [(2, 130), (0, x1), (9, 0), (9, 0), (9, 0), (9, 0)] [] T V else ev 228 18 [(2, 130), (0, x1), (9, 0), (9, 0), (9, 0), (9, 0)] [] T V := by
  refine Eq.trans (ev_ci (show zcode 228 12 = some (0, 13, 0, (-1), []) by decide +kernel) (by decide)) ?_
  exact ev_cne (show zcode 228 13 = some (47, 16, 18, 0, []) by decide +kernel)
theorem b228_16 {T : zT} {V : zM} {x1 : Int} : ev 228 16 [(2, 130), (0, x1), (9, 0), (9, 0), (9, 0), (9, 0)] [] T V = some ((0, (-1)), T, V) := by
  refine Eq.trans (ev_ci (show zcode 228 16 = some (0, 17, 0, (-1), []) by decide +kernel) (by decide)) ?_
  exact ev_ri (show zcode 228 17 = some (72, 18, 0, 0, []) by decide +kernel)
theorem b228_18 {T : zT} {V : zM} {x1 : Int} : ev 228 18 [(2, 130), (0, x1), (9, 0), (9, 0), (9, 0), (9, 0)] [] T V = ev 228 28 [(2, 130), (0, x1), (0, 0), (0, 0), (0, 0), (0, 0)] [] T V := by
  refine Eq.trans (ev_ci (show zcode 228 18 = some (0, 19, 0, 0, []) by decide +kernel) (by decide)) ?_
  refine Eq.trans (ev_sti (show zcode 228 19 = some (7, 20, 2, 0, []) by decide +kernel) ⟨show 2 < 6 by decide, Or.inr (show ¬ (0 : Nat) = 1 by decide)⟩) ?_
  refine Eq.trans (ev_ci (show zcode 228 20 = some (0, 21, 0, 0, []) by decide +kernel) (by decide)) ?_
  refine Eq.trans (ev_sti (show zcode 228 21 = some (7, 22, 3, 0, []) by decide +kernel) ⟨show 3 < 6 by decide, Or.inr (show ¬ (0 : Nat) = 1 by decide)⟩) ?_
  refine Eq.trans (ev_ci (show zcode 228 22 = some (0, 23, 0, 0, []) by decide +kernel) (by decide)) ?_
  refine Eq.trans (ev_sti (show zcode 228 23 = some (7, 25, 4, 0, []) by decide +kernel) ⟨show 4 < 6 by decide, Or.inr (show ¬ (0 : Nat) = 1 by decide)⟩) ?_
  refine Eq.trans (ev_ci (show zcode 228 25 = some (0, 26, 0, 0, []) by decide +kernel) (by decide)) ?_
  exact ev_sti (show zcode 228 26 = some (7, 28, 5, 0, []) by decide +kernel) ⟨show 5 < 6 by decide, Or.inr (show ¬ (0 : Nat) = 1 by decide)⟩
theorem b228_28 {T : zT} {V : zM} {x1 : Int} {x2 : Int} {x3 : Int} {x4 : Int} {x5 : Int} : ev 228 28 [(2, 130), (0, x1), (0, x2), (0, x3), (0, x4), (0, x5)] [] T V = if x1 < x5 then ev 228 90 [(2, 130), (0, x1), (0, x2), (0, x3), (0, x4), (0, x5)] [] T V else ev 228 34 [(2, 130), (0, x1), (0, x2), (0, x3), (0, x4), (0, x5)] [] T V := by
  refine Eq.trans (ev_ldi (show zcode 228 28 = some (4, 30, 5, 0, []) by decide +kernel) rfl) ?_
  refine Eq.trans (ev_ldi (show zcode 228 30 = some (4, 31, 1, 0, []) by decide +kernel) rfl) ?_
  exact ev_cgt (show zcode 228 31 = some (50, 34, 90, 0, []) by decide +kernel)
theorem b228_34 {T : zT} {V : zM} {x1 : Int} {x2 : Int} {x3 : Int} {x4 : Int} {x5 : Int} : ev 228 34 [(2, 130), (0, x1), (0, x2), (0, x3), (0, x4), (0, x5)] [] T V = ev 228 37 [(2, 130), (0, x1), (0, x2), (0, x3), (0, 0), (0, x5)] [] T V := by
  refine Eq.trans (ev_ci (show zcode 228 34 = some (0, 35, 0, 0, []) by decide +kernel) (by decide)) ?_
  exact ev_sti (show zcode 228 35 = some (7, 37, 4, 0, []) by decide +kernel) ⟨show 4 < 6 by decide, Or.inr (show ¬ (0 : Nat) = 1 by decide)⟩
theorem b228_37 {T : zT} {V : zM} {x1 : Int} {x2 : Int} {x3 : Int} {x4 : Int} {x5 : Int} (hS : zStr T)  : ev 228 37 [(2, 130), (0, x1), (0, x2), (0, x3), (0, x4), (0, x5)] [] T V = (zcall 229 [(2, 130), (0, x5), (0, x2), (0, x3), (0, x4)] T V).bind fun x => ev 228 47 [(2, 130), (0, x1), (0, x2), (0, x3), (0, x4), (0, x5)] (z_push x.1 []) x.2.1 x.2.2 := by
  refine Eq.trans (ev_lda (show zcode 228 37 = some (6, 38, 0, 0, []) by decide +kernel) rfl (by decide)) ?_
  refine Eq.trans (ev_ldi (show zcode 228 38 = some (4, 40, 5, 0, []) by decide +kernel) rfl) ?_
  refine Eq.trans (ev_ldi (show zcode 228 40 = some (4, 41, 2, 0, []) by decide +kernel) rfl) ?_
  refine Eq.trans (ev_ldi (show zcode 228 41 = some (4, 42, 3, 0, []) by decide +kernel) rfl) ?_
  refine Eq.trans (ev_ldi (show zcode 228 42 = some (4, 44, 4, 0, []) by decide +kernel) rfl) ?_
  exact ev_cvirt (show zcode 228 44 = some (76, 47, 229, 5, [12]) by decide +kernel) (args := [(0, x5), (0, x2), (0, x3), (0, x4)]) (rest := []) rfl (so130 hS) rfl (show 0 ≤ 8 by decide) ⟨by decide, show 5 ≤ 7 by decide⟩
theorem b228_47 {T : zT} {V : zM} {x1 : Int} {x2 : Int} {x3 : Int} {x4 : Int} {x5 : Int} {y0 : Int} : ev 228 47 [(2, 130), (0, x1), (0, x2), (0, x3), (0, x4), (0, x5)] [(0, y0)] T V = if y0 = 0 then ev 228 50 [(2, 130), (0, x1), (0, x2), (0, x3), (0, x4), (0, x5)] [] T V else ev 228 56 [(2, 130), (0, x1), (0, x2), (0, x3), (0, x4), (0, x5)] [] T V := by
  exact ev_ne (show zcode 228 47 = some (41, 50, 56, 0, []) by decide +kernel)
theorem b228_50 {T : zT} {V : zM} {x1 : Int} {x2 : Int} {x3 : Int} {x4 : Int} {x5 : Int} (h1 : -2147483648 ≤ (x4 + 1) ∧ (x4 + 1) ≤ 2147483647) : ev 228 50 [(2, 130), (0, x1), (0, x2), (0, x3), (0, x4), (0, x5)] [] T V = ev 228 37 [(2, 130), (0, x1), (0, x2), (0, x3), (0, (x4 + 1)), (0, x5)] [] T V := by
  refine Eq.trans (ev_inc (show zcode 228 50 = some (10, 53, 4, 1, []) by decide +kernel) rfl h1 (Or.inr (show ¬ (0 : Nat) = 1 by decide))) ?_
  exact ev_goto (show zcode 228 53 = some (53, 56, 37, 0, []) by decide +kernel)
theorem b228_56 {T : zT} {V : zM} {x1 : Int} {x2 : Int} {x3 : Int} {x4 : Int} {x5 : Int} (hS : zStr T) (h1 : (0 : Int) ≤ x4 ∧ x4 < 128) : ev 228 56 [(2, 130), (0, x1), (0, x2), (0, x3), (0, x4), (0, x5)] [] T V = (zcall 221 [(2, 130), (0, 0), (0, x2), (0, (V 142 x4))] T V).bind fun x => ev 228 69 [(2, 130), (0, x1), (0, x2), (0, x3), (0, x4), (0, x5)] (z_push x.1 []) x.2.1 x.2.2 := by
  refine Eq.trans (ev_lda (show zcode 228 56 = some (6, 57, 0, 0, []) by decide +kernel) rfl (by decide)) ?_
  refine Eq.trans (ev_ci (show zcode 228 57 = some (0, 58, 0, 0, []) by decide +kernel) (by decide)) ?_
  refine Eq.trans (ev_ldi (show zcode 228 58 = some (4, 59, 2, 0, []) by decide +kernel) rfl) ?_
  refine Eq.trans (ev_lda (show zcode 228 59 = some (6, 60, 0, 0, []) by decide +kernel) rfl (by decide)) ?_
  refine Eq.trans (ev_gq (show zcode 228 60 = some (56, 63, 12, 22, []) by decide +kernel) (so130 hS) (sp130_22 hS)) ?_
  refine Eq.trans (ev_ldi (show zcode 228 63 = some (4, 65, 4, 0, []) by decide +kernel) rfl) ?_
  refine Eq.trans (ev_ia (show zcode 228 65 = some (60, 66, 0, 0, []) by decide +kernel) (sa142 hS) h1) ?_
  exact ev_cvirt (show zcode 228 66 = some (76, 69, 221, 4, [12]) by decide +kernel) (args := [(0, 0), (0, x2), (0, (V 142 x4))]) (rest := []) rfl (so130 hS) rfl (show 0 ≤ 8 by decide) ⟨by decide, show 4 ≤ 4 by decide⟩
theorem b228_69 {T : zT} {V : zM} {x1 : Int} {x2 : Int} {x3 : Int} {x4 : Int} {x5 : Int} {y0 : Int} (hS : zStr T) (h1 : (0 : Int) ≤ x4 ∧ x4 < 128) : ev 228 69 [(2, 130), (0, x1), (0, x2), (0, x3), (0, x4), (0, x5)] [(0, y0)] T V = (zcall 221 [(2, 130), (0, 1), (0, x3), (0, (V 143 x4))] T V).bind fun x => ev 228 83 [(2, 130), (0, x1), (0, y0), (0, x3), (0, x4), (0, x5)] (z_push x.1 []) x.2.1 x.2.2 := by
  refine Eq.trans (ev_sti (show zcode 228 69 = some (7, 70, 2, 0, []) by decide +kernel) ⟨show 2 < 6 by decide, Or.inr (show ¬ (0 : Nat) = 1 by decide)⟩) ?_
  refine Eq.trans (ev_lda (show zcode 228 70 = some (6, 71, 0, 0, []) by decide +kernel) rfl (by decide)) ?_
  refine Eq.trans (ev_ci (show zcode 228 71 = some (0, 72, 0, 1, []) by decide +kernel) (by decide)) ?_
  refine Eq.trans (ev_ldi (show zcode 228 72 = some (4, 73, 3, 0, []) by decide +kernel) rfl) ?_
  refine Eq.trans (ev_lda (show zcode 228 73 = some (6, 74, 0, 0, []) by decide +kernel) rfl (by decide)) ?_
  refine Eq.trans (ev_gq (show zcode 228 74 = some (56, 77, 12, 23, []) by decide +kernel) (so130 hS) (sp130_23 hS)) ?_
  refine Eq.trans (ev_ldi (show zcode 228 77 = some (4, 79, 4, 0, []) by decide +kernel) rfl) ?_
  refine Eq.trans (ev_ia (show zcode 228 79 = some (60, 80, 0, 0, []) by decide +kernel) (sa143 hS) h1) ?_
  exact ev_cvirt (show zcode 228 80 = some (76, 83, 221, 4, [12]) by decide +kernel) (args := [(0, 1), (0, x3), (0, (V 143 x4))]) (rest := []) rfl (so130 hS) rfl (show 0 ≤ 8 by decide) ⟨by decide, show 4 ≤ 4 by decide⟩
theorem b228_83 {T : zT} {V : zM} {x1 : Int} {x2 : Int} {x3 : Int} {x4 : Int} {x5 : Int} {y0 : Int} (h1 : -2147483648 ≤ (x5 + 1) ∧ (x5 + 1) ≤ 2147483647) : ev 228 83 [(2, 130), (0, x1), (0, x2), (0, x3), (0, x4), (0, x5)] [(0, y0)] T V = ev 228 28 [(2, 130), (0, x1), (0, x2), (0, y0), (0, x4), (0, (x5 + 1))] [] T V := by
  refine Eq.trans (ev_sti (show zcode 228 83 = some (7, 84, 3, 0, []) by decide +kernel) ⟨show 3 < 6 by decide, Or.inr (show ¬ (0 : Nat) = 1 by decide)⟩) ?_
  refine Eq.trans (ev_inc (show zcode 228 84 = some (10, 87, 5, 1, []) by decide +kernel) rfl h1 (Or.inr (show ¬ (0 : Nat) = 1 by decide))) ?_
  exact ev_goto (show zcode 228 87 = some (53, 90, 28, 0, []) by decide +kernel)
theorem b228_90 {T : zT} {V : zM} {x1 : Int} {x2 : Int} {x3 : Int} {x4 : Int} {x5 : Int} : ev 228 90 [(2, 130), (0, x1), (0, x2), (0, x3), (0, x4), (0, x5)] [] T V = some ((0, x4), T, V) := by
  refine Eq.trans (ev_ldi (show zcode 228 90 = some (4, 92, 4, 0, []) by decide +kernel) rfl) ?_
  exact ev_ri (show zcode 228 92 = some (72, 93, 0, 0, []) by decide +kernel)
/-! 229: TwoWayWallModel.isCheapest(IIII)Z -/
theorem e229 {T : zT} {V : zM} {x1 : Int} {x2 : Int} {x3 : Int} {x4 : Int} : zcall 229 [(2, 130), (0, x1), (0, x2), (0, x3), (0, x4)] T V = ev 229 0 [(2, 130), (0, x1), (0, x2), (0, x3), (0, x4), (9, 0), (9, 0)] [] T V := rfl
theorem b229_0 {T : zT} {V : zM} {x1 : Int} {x2 : Int} {x3 : Int} {x4 : Int} (hS : zStr T) (h1 : (0 : Int) ≤ x4 ∧ x4 < 128) : ev 229 0 [(2, 130), (0, x1), (0, x2), (0, x3), (0, x4), (9, 0), (9, 0)] [] T V = (zcall 221 [(2, 130), (0, 0), (0, x2), (0, (V 142 x4))] T V).bind fun x => ev 229 13 [(2, 130), (0, x1), (0, x2), (0, x3), (0, x4), (9, 0), (9, 0)] (z_push x.1 []) x.2.1 x.2.2 := by
  refine Eq.trans (ev_lda (show zcode 229 0 = some (6, 1, 0, 0, []) by decide +kernel) rfl (by decide)) ?_
  refine Eq.trans (ev_ci (show zcode 229 1 = some (0, 2, 0, 0, []) by decide +kernel) (by decide)) ?_
  refine Eq.trans (ev_ldi (show zcode 229 2 = some (4, 3, 2, 0, []) by decide +kernel) rfl) ?_
  refine Eq.trans (ev_lda (show zcode 229 3 = some (6, 4, 0, 0, []) by decide +kernel) rfl (by decide)) ?_
  refine Eq.trans (ev_gq (show zcode 229 4 = some (56, 7, 12, 22, []) by decide +kernel) (so130 hS) (sp130_22 hS)) ?_
  refine Eq.trans (ev_ldi (show zcode 229 7 = some (4, 9, 4, 0, []) by decide +kernel) rfl) ?_
  refine Eq.trans (ev_ia (show zcode 229 9 = some (60, 10, 0, 0, []) by decide +kernel) (sa142 hS) h1) ?_
  exact ev_cvirt (show zcode 229 10 = some (76, 13, 221, 4, [12]) by decide +kernel) (args := [(0, 0), (0, x2), (0, (V 142 x4))]) (rest := []) rfl (so130 hS) rfl (show 0 ≤ 8 by decide) ⟨by decide, show 4 ≤ 4 by decide⟩
theorem b229_13 {T : zT} {V : zM} {x1 : Int} {x2 : Int} {x3 : Int} {x4 : Int} {y0 : Int} (hS : zStr T) (h1 : (0 : Int) ≤ x4 ∧ x4 < 128) : ev 229 13 [(2, 130), (0, x1), (0, x2), (0, x3), (0, x4), (9, 0), (9, 0)] [(0, y0)] T V = (zcall 221 [(2, 130), (0, 1), (0, x3), (0, (V 143 x4))] T V).bind fun x => ev 229 28 [(2, 130), (0, x1), (0, x2), (0, x3), (0, x4), (0, y0), (9, 0)] (z_push x.1 []) x.2.1 x.2.2 := by
  refine Eq.trans (ev_sti (show zcode 229 13 = some (7, 15, 5, 0, []) by decide +kernel) ⟨show 5 < 7 by decide, Or.inr (show ¬ (0 : Nat) = 1 by decide)⟩) ?_
  refine Eq.trans (ev_lda (show zcode 229 15 = some (6, 16, 0, 0, []) by decide +kernel) rfl (by decide)) ?_
  refine Eq.trans (ev_ci (show zcode 229 16 = some (0, 17, 0, 1, []) by decide +kernel) (by decide)) ?_
  refine Eq.trans (ev_ldi (show zcode 229 17 = some (4, 18, 3, 0, []) by decide +kernel) rfl) ?_
  refine Eq.trans (ev_lda (show zcode 229 18 = some (6, 19, 0, 0, []) by decide +kernel) rfl (by decide)) ?_
  refine Eq.trans (ev_gq (show zcode 229 19 = some (56, 22, 12, 23, []) by decide +kernel) (so130 hS) (sp130_23 hS)) ?_
  refine Eq.trans (ev_ldi (show zcode 229 22 = some (4, 24, 4, 0, []) by decide +kernel) rfl) ?_
  refine Eq.trans (ev_ia (show zcode 229 24 = some (60, 25, 0, 0, []) by decide +kernel) (sa143 hS) h1) ?_
  exact ev_cvirt (show zcode 229 25 = some (76, 28, 221, 4, [12]) by decide +kernel) (args := [(0, 1), (0, x3), (0, (V 143 x4))]) (rest := []) rfl (so130 hS) rfl (show 0 ≤ 8 by decide) ⟨by decide, show 4 ≤ 4 by decide⟩
theorem b229_28 {T : zT} {V : zM} {x1 : Int} {x2 : Int} {x3 : Int} {x4 : Int} {x5 : Int} {y0 : Int} : ev 229 28 [(2, 130), (0, x1), (0, x2), (0, x3), (0, x4), (0, x5), (9, 0)] [(0, y0)] T V = if x5 = (-1) then ev 229 91 [(2, 130), (0, x1), (0, x2), (0, x3), (0, x4), (0, x5), (0, y0)] [] T V else ev 229 36 [(2, 130), (0, x1), (0, x2), (0, x3), (0, x4), (0, x5), (0, y0)] [] T V := by
  refine Eq.trans (ev_sti (show zcode 229 28 = some (7, 30, 6, 0, []) by decide +kernel) ⟨show 6 < 7 by decide, Or.inr (show ¬ (0 : Nat) = 1 by decide)⟩) ?_
  refine Eq.trans (ev_ldi (show zcode 229 30 = some (4, 32, 5, 0, []) by decide +kernel) rfl) ?_
  refine Eq.trans (ev_ci (show zcode 229 32 = some (0, 33, 0, (-1), []) by decide +kernel) (by decide)) ?_
  exact ev_ceq (show zcode 229 33 = some (46, 36, 91, 0, []) by decide +kernel)
theorem b229_36 {T : zT} {V : zM} {x1 : Int} {x2 : Int} {x3 : Int} {x4 : Int} {x5 : Int} {x6 : Int} : ev 229 36 [(2, 130), (0, x1), (0, x2), (0, x3), (0, x4), (0, x5), (0, x6)] [] T V = if x6 = (-1) then ev 229 91 [(2, 130), (0, x1), (0, x2), (0, x3), (0, x4), (0, x5), (0, x6)] [] T V else ev 229 42 [(2, 130), (0, x1), (0, x2), (0, x3), (0, x4), (0, x5), (0, x6)] [] T V := by
  refine Eq.trans (ev_ldi (show zcode 229 36 = some (4, 38, 6, 0, []) by decide +kernel) rfl) ?_
  refine Eq.trans (ev_ci (show zcode 229 38 = some (0, 39, 0, (-1), []) by decide +kernel) (by decide)) ?_
  exact ev_ceq (show zcode 229 39 = some (46, 42, 91, 0, []) by decide +kernel)
theorem b229_42 {T : zT} {V : zM} {x1 : Int} {x2 : Int} {x3 : Int} {x4 : Int} {x5 : Int} {x6 : Int} (hS : zStr T) (h1 : -2147483648 ≤ (x1 + 1) ∧ (x1 + 1) ≤ 2147483647) : ev 229 42 [(2, 130), (0, x1), (0, x2), (0, x3), (0, x4), (0, x5), (0, x6)] [] T V = (zcall 227 [(2, 130), (0, (x1 + 1)), (0, x5), (0, x6)] T V).bind fun x => ev 229 53 [(2, 130), (0, x1), (0, x2), (0, x3), (0, x4), (0, x5), (0, x6)] (z_push x.1 []) x.2.1 x.2.2 := by
  refine Eq.trans (ev_lda (show zcode 229 42 = some (6, 43, 0, 0, []) by decide +kernel) rfl (by decide)) ?_
  refine Eq.trans (ev_ldi (show zcode 229 43 = some (4, 44, 1, 0, []) by decide +kernel) rfl) ?_
  refine Eq.trans (ev_ci (show zcode 229 44 = some (0, 45, 0, 1, []) by decide +kernel) (by decide)) ?_
  refine Eq.trans (ev_add (show zcode 229 45 = some (11, 46, 0, 0, []) by decide +kernel) h1) ?_
  refine Eq.trans (ev_ldi (show zcode 229 46 = some (4, 48, 5, 0, []) by decide +kernel) rfl) ?_
  refine Eq.trans (ev_ldi (show zcode 229 48 = some (4, 50, 6, 0, []) by decide +kernel) rfl) ?_
  exact ev_cvirt (show zcode 229 50 = some (76, 53, 227, 4, [12]) by decide +kernel) (args := [(0, (x1 + 1)), (0, x5), (0, x6)]) (rest := []) rfl (so130 hS) rfl (show 0 ≤ 8 by decide) ⟨by decide, show 4 ≤ 4 by decide⟩
theorem b229_53 {T : zT} {V : zM} {x1 : Int} {x2 : Int} {x3 : Int} {x4 : Int} {x5 : Int} {x6 : Int} {y0 : Int} : ev 229 53 [(2, 130), (0, x1), (0, x2), (0, x3), (0, x4), (0, x5), (0, x6)] [(0, y0)] T V = if y0 = 1000000000 then ev 229 91 [(2, 130), (0, x1), (0, x2), (0, x3), (0, x4), (0, x5), (0, x6)] [] T V else ev 229 59 [(2, 130), (0, x1), (0, x2), (0, x3), (0, x4), (0, x5), (0, x6)] [] T V := by
  refine Eq.trans (ev_ci (show zcode 229 53 = some (0, 56, 0, 1000000000, []) by decide +kernel) (by decide)) ?_
  exact ev_ceq (show zcode 229 56 = some (46, 59, 91, 0, []) by decide +kernel)
theorem b229_59 {T : zT} {V : zM} {x1 : Int} {x2 : Int} {x3 : Int} {x4 : Int} {x5 : Int} {x6 : Int} (hS : zStr T)  : ev 229 59 [(2, 130), (0, x1), (0, x2), (0, x3), (0, x4), (0, x5), (0, x6)] [] T V = (zcall 199 [(2, 130), (0, x4)] T V).bind fun x => ev 229 65 [(2, 130), (0, x1), (0, x2), (0, x3), (0, x4), (0, x5), (0, x6)] (z_push x.1 []) x.2.1 x.2.2 := by
  refine Eq.trans (ev_lda (show zcode 229 59 = some (6, 60, 0, 0, []) by decide +kernel) rfl (by decide)) ?_
  refine Eq.trans (ev_ldi (show zcode 229 60 = some (4, 62, 4, 0, []) by decide +kernel) rfl) ?_
  exact ev_cvirt (show zcode 229 62 = some (76, 65, 199, 2, [12]) by decide +kernel) (args := [(0, x4)]) (rest := []) rfl (so130 hS) rfl (show 0 ≤ 8 by decide) ⟨by decide, show 2 ≤ 4 by decide⟩
theorem b229_65 {T : zT} {V : zM} {x1 : Int} {x2 : Int} {x3 : Int} {x4 : Int} {x5 : Int} {x6 : Int} {y0 : Int} (hS : zStr T) (h1 : -2147483648 ≤ (x1 + 1) ∧ (x1 + 1) ≤ 2147483647) : ev 229 65 [(2, 130), (0, x1), (0, x2), (0, x3), (0, x4), (0, x5), (0, x6)] [(0, y0)] T V = (zcall 227 [(2, 130), (0, (x1 + 1)), (0, x5), (0, x6)] T V).bind fun x => ev 229 76 [(2, 130), (0, x1), (0, x2), (0, x3), (0, x4), (0, x5), (0, x6)] (z_push x.1 [(0, y0)]) x.2.1 x.2.2 := by
  refine Eq.trans (ev_lda (show zcode 229 65 = some (6, 66, 0, 0, []) by decide +kernel) rfl (by decide)) ?_
  refine Eq.trans (ev_ldi (show zcode 229 66 = some (4, 67, 1, 0, []) by decide +kernel) rfl) ?_
  refine Eq.trans (ev_ci (show zcode 229 67 = some (0, 68, 0, 1, []) by decide +kernel) (by decide)) ?_
  refine Eq.trans (ev_add (show zcode 229 68 = some (11, 69, 0, 0, []) by decide +kernel) h1) ?_
  refine Eq.trans (ev_ldi (show zcode 229 69 = some (4, 71, 5, 0, []) by decide +kernel) rfl) ?_
  refine Eq.trans (ev_ldi (show zcode 229 71 = some (4, 73, 6, 0, []) by decide +kernel) rfl) ?_
  exact ev_cvirt (show zcode 229 73 = some (76, 76, 227, 4, [12]) by decide +kernel) (args := [(0, (x1 + 1)), (0, x5), (0, x6)]) (rest := [(0, y0)]) rfl (so130 hS) rfl (show 1 ≤ 8 by decide) ⟨by decide, show 4 ≤ 4 by decide⟩
theorem b229_76 {T : zT} {V : zM} {x1 : Int} {x2 : Int} {x3 : Int} {x4 : Int} {x5 : Int} {x6 : Int} {y0 : Int} {y1 : Int} (hS : zStr T) (h1 : -2147483648 ≤ (y0 + y1) ∧ (y0 + y1) ≤ 2147483647) : ev 229 76 [(2, 130), (0, x1), (0, x2), (0, x3), (0, x4), (0, x5), (0, x6)] [(0, y1), (0, y0)] T V = (zcall 227 [(2, 130), (0, x1), (0, x2), (0, x3)] T V).bind fun x => ev 229 84 [(2, 130), (0, x1), (0, x2), (0, x3), (0, x4), (0, x5), (0, x6)] (z_push x.1 [(0, (y0 + y1))]) x.2.1 x.2.2 := by
  refine Eq.trans (ev_add (show zcode 229 76 = some (11, 77, 0, 0, []) by decide +kernel) h1) ?_
  refine Eq.trans (ev_lda (show zcode 229 77 = some (6, 78, 0, 0, []) by decide +kernel) rfl (by decide)) ?_
  refine Eq.trans (ev_ldi (show zcode 229 78 = some (4, 79, 1, 0, []) by decide +kernel) rfl) ?_
  refine Eq.trans (ev_ldi (show zcode 229 79 = some (4, 80, 2, 0, []) by decide +kernel) rfl) ?_
  refine Eq.trans (ev_ldi (show zcode 229 80 = some (4, 81, 3, 0, []) by decide +kernel) rfl) ?_
  exact ev_cvirt (show zcode 229 81 = some (76, 84, 227, 4, [12]) by decide +kernel) (args := [(0, x1), (0, x2), (0, x3)]) (rest := [(0, (y0 + y1))]) rfl (so130 hS) rfl (show 1 ≤ 8 by decide) ⟨by decide, show 4 ≤ 4 by decide⟩
theorem b229_84 {T : zT} {V : zM} {x1 : Int} {x2 : Int} {x3 : Int} {x4 : Int} {x5 : Int} {x6 : Int} {y0 : Int} {y1 : Int} : ev 229 84 [(2, 130), (0, x1), (0, x2), (0, x3), (0, x4), (0, x5), (0, x6)] [(0, y1), (0, y0)] T V = if y0 = y1 then ev 229 87 [(2, 130), (0, x1), (0, x2), (0, x3), (0, x4), (0, x5), (0, x6)] [] T V else ev 229 91 [(2, 130), (0, x1), (0, x2), (0, x3), (0, x4), (0, x5), (0, x6)] [] T V := by
  exact ev_cne (show zcode 229 84 = some (47, 87, 91, 0, []) by decide +kernel)
theorem b229_87 {T : zT} {V : zM} {x1 : Int} {x2 : Int} {x3 : Int} {x4 : Int} {x5 : Int} {x6 : Int} : ev 229 87 [(2, 130), (0, x1), (0, x2), (0, x3), (0, x4), (0, x5), (0, x6)] [] T V = ev 229 92 [(2, 130), (0, x1), (0, x2), (0, x3), (0, x4), (0, x5), (0, x6)] [(0, 1)] T V := by
  refine Eq.trans (ev_ci (show zcode 229 87 = some (0, 88, 0, 1, []) by decide +kernel) (by decide)) ?_
  exact ev_goto (show zcode 229 88 = some (53, 91, 92, 0, []) by decide +kernel)
theorem b229_91 {T : zT} {V : zM} {x1 : Int} {x2 : Int} {x3 : Int} {x4 : Int} {x5 : Int} {x6 : Int} : ev 229 91 [(2, 130), (0, x1), (0, x2), (0, x3), (0, x4), (0, x5), (0, x6)] [] T V = ev 229 92 [(2, 130), (0, x1), (0, x2), (0, x3), (0, x4), (0, x5), (0, x6)] [(0, 0)] T V := by
  exact ev_ci (show zcode 229 91 = some (0, 92, 0, 0, []) by decide +kernel) (by decide)
theorem b229_92 {T : zT} {V : zM} {x1 : Int} {x2 : Int} {x3 : Int} {x4 : Int} {x5 : Int} {x6 : Int} {y0 : Int} (h1 : (0 : Int) ≤ y0 ∧ y0 ≤ 1) : ev 229 92 [(2, 130), (0, x1), (0, x2), (0, x3), (0, x4), (0, x5), (0, x6)] [(0, y0)] T V = some ((0, y0), T, V) := by
  exact ev_rz (show zcode 229 92 = some (72, 93, 3, 0, []) by decide +kernel) h1
/-! 230: TwoWayWallModel.may()J -/
theorem e230 {T : zT} {V : zM}  : zcall 230 [(2, 130)] T V = ev 230 0 [(2, 130)] [] T V := rfl
theorem b230_0 {T : zT} {V : zM}  (hS : zStr T)  : ev 230 0 [(2, 130)] [] T V = (zcall 231 [(2, 130), (0, (-1)), (0, 0), (0, 0)] T V).bind fun x => ev 230 7 [(2, 130)] (z_push x.1 []) x.2.1 x.2.2 := by
  refine Eq.trans (ev_lda (show zcode 230 0 = some (6, 1, 0, 0, []) by decide +kernel) rfl (by decide)) ?_
  refine Eq.trans (ev_ci (show zcode 230 1 = some (0, 2, 0, (-1), []) by decide +kernel) (by decide)) ?_
  refine Eq.trans (ev_ci (show zcode 230 2 = some (0, 3, 0, 0, []) by decide +kernel) (by decide)) ?_
  refine Eq.trans (ev_ci (show zcode 230 3 = some (0, 4, 0, 0, []) by decide +kernel) (by decide)) ?_
  exact ev_cvirt (show zcode 230 4 = some (76, 7, 231, 4, [12]) by decide +kernel) (args := [(0, (-1)), (0, 0), (0, 0)]) (rest := []) rfl (so130 hS) rfl (show 0 ≤ 8 by decide) ⟨by decide, show 4 ≤ 7 by decide⟩
theorem b230_7 {T : zT} {V : zM} {y0 : Int} : ev 230 7 [(2, 130)] [(1, y0)] T V = some ((1, y0), T, V) := by
  exact ev_rl (show zcode 230 7 = some (72, 8, 1, 0, []) by decide +kernel)
/-! 231: TwoWayWallModel.mays(IIZ)J -/
theorem e231 {T : zT} {V : zM} {x1 : Int} {x2 : Int} {x3 : Int} : zcall 231 [(2, 130), (0, x1), (0, x2), (0, x3)] T V = ev 231 0 [(2, 130), (0, x1), (0, x2), (0, x3), (9, 0), (9, 0), (9, 0)] [] T V := rfl
theorem b231_0 {T : zT} {V : zM} {x1 : Int} {x2 : Int} {x3 : Int} (hS : zStr T)  : ev 231 0 [(2, 130), (0, x1), (0, x2), (0, x3), (9, 0), (9, 0), (9, 0)] [] T V = (zcall 211 [(2, 130), (0, 1)] T V).bind fun x => ev 231 5 [(2, 130), (0, x1), (0, x2), (0, x3), (9, 0), (9, 0), (9, 0)] (z_push x.1 []) x.2.1 x.2.2 := by
  refine Eq.trans (ev_lda (show zcode 231 0 = some (6, 1, 0, 0, []) by decide +kernel) rfl (by decide)) ?_
  refine Eq.trans (ev_ci (show zcode 231 1 = some (0, 2, 0, 1, []) by decide +kernel) (by decide)) ?_
  exact ev_cvirt (show zcode 231 2 = some (76, 5, 211, 2, [12]) by decide +kernel) (args := [(0, 1)]) (rest := []) rfl (so130 hS) rfl (show 0 ≤ 8 by decide) ⟨by decide, show 2 ≤ 2 by decide⟩
theorem b231_5 {T : zT} {V : zM} {x1 : Int} {x2 : Int} {x3 : Int} (hS : zStr T)  : ev 231 5 [(2, 130), (0, x1), (0, x2), (0, x3), (9, 0), (9, 0), (9, 0)] [] T V = (zcall 219 [(2, 130)] T V).bind fun x => ev 231 9 [(2, 130), (0, x1), (0, x2), (0, x3), (9, 0), (9, 0), (9, 0)] (z_push x.1 []) x.2.1 x.2.2 := by
  refine Eq.trans (ev_lda (show zcode 231 5 = some (6, 6, 0, 0, []) by decide +kernel) rfl (by decide)) ?_
  exact ev_cvirt (show zcode 231 6 = some (76, 9, 219, 1, [12]) by decide +kernel) (args := []) (rest := []) rfl (so130 hS) rfl (show 0 ≤ 8 by decide) ⟨by decide, show 1 ≤ 3 by decide⟩
theorem b231_9 {T : zT} {V : zM} {x1 : Int} {x2 : Int} {x3 : Int} : ev 231 9 [(2, 130), (0, x1), (0, x2), (0, x3), (9, 0), (9, 0), (9, 0)] [] T V = ev 231 12 [(2, 130), (0, x1), (0, x2), (0, x3), (0, 0), (9, 0), (9, 0)] [] T V := by
  refine Eq.trans (ev_ci (show zcode 231 9 = some (0, 10, 0, 0, []) by decide +kernel) (by decide)) ?_
  exact ev_sti (show zcode 231 10 = some (7, 12, 4, 0, []) by decide +kernel) ⟨show 4 < 7 by decide, Or.inr (show ¬ (0 : Nat) = 1 by decide)⟩
theorem b231_12 {T : zT} {V : zM} {x1 : Int} {x2 : Int} {x3 : Int} {x4 : Int} {v5 : zV} {v6 : zV} (hS : zStr T)  : ev 231 12 [(2, 130), (0, x1), (0, x2), (0, x3), (0, x4), v5, v6] [] T V = if (V 132 427) ≤ x4 then ev 231 171 [(2, 130), (0, x1), (0, x2), (0, x3), (0, x4), v5, v6] [] T V else ev 231 25 [(2, 130), (0, x1), (0, x2), (0, x3), (0, x4), v5, v6] [] T V := by
  refine Eq.trans (ev_ldi (show zcode 231 12 = some (4, 14, 4, 0, []) by decide +kernel) rfl) ?_
  refine Eq.trans (ev_lda (show zcode 231 14 = some (6, 15, 0, 0, []) by decide +kernel) rfl (by decide)) ?_
  refine Eq.trans (ev_gq (show zcode 231 15 = some (56, 18, 12, 4, []) by decide +kernel) (so130 hS) (sp130_4 hS)) ?_
  refine Eq.trans (ev_ci (show zcode 231 18 = some (0, 21, 0, 427, []) by decide +kernel) (by decide)) ?_
  refine Eq.trans (ev_ia (show zcode 231 21 = some (60, 22, 0, 0, []) by decide +kernel) (sa132 hS) (by decide)) ?_
  exact ev_cge (show zcode 231 22 = some (49, 25, 171, 0, []) by decide +kernel)
theorem b231_25 {T : zT} {V : zM} {x1 : Int} {x2 : Int} {x3 : Int} {x4 : Int} {v5 : zV} {v6 : zV} : ev 231 25 [(2, 130), (0, x1), (0, x2), (0, x3), (0, x4), v5, v6] [] T V = ev 231 28 [(2, 130), (0, x1), (0, x2), (0, x3), (0, x4), (0, 0), v6] [] T V := by
  refine Eq.trans (ev_ci (show zcode 231 25 = some (0, 26, 0, 0, []) by decide +kernel) (by decide)) ?_
  exact ev_sti (show zcode 231 26 = some (7, 28, 5, 0, []) by decide +kernel) ⟨show 5 < 7 by decide, Or.inr (show ¬ (0 : Nat) = 1 by decide)⟩
theorem b231_28 {T : zT} {V : zM} {x1 : Int} {x2 : Int} {x3 : Int} {x4 : Int} {x5 : Int} {v6 : zV} : ev 231 28 [(2, 130), (0, x1), (0, x2), (0, x3), (0, x4), (0, x5), v6] [] T V = if 729 ≤ x5 then ev 231 50 [(2, 130), (0, x1), (0, x2), (0, x3), (0, x4), (0, x5), v6] [] T V else ev 231 36 [(2, 130), (0, x1), (0, x2), (0, x3), (0, x4), (0, x5), v6] [] T V := by
  refine Eq.trans (ev_ldi (show zcode 231 28 = some (4, 30, 5, 0, []) by decide +kernel) rfl) ?_
  refine Eq.trans (ev_ci (show zcode 231 30 = some (0, 33, 0, 729, []) by decide +kernel) (by decide)) ?_
  exact ev_cge (show zcode 231 33 = some (49, 36, 50, 0, []) by decide +kernel)
theorem b231_36 {T : zT} {V : zM} {x1 : Int} {x2 : Int} {x3 : Int} {x4 : Int} {x5 : Int} {v6 : zV} (hS : zStr T) (h1 : (0 : Int) ≤ x5 ∧ x5 < 729) (h2 : -2147483648 ≤ (x5 + 1) ∧ (x5 + 1) ≤ 2147483647) : ev 231 36 [(2, 130), (0, x1), (0, x2), (0, x3), (0, x4), (0, x5), v6] [] T V = ev 231 28 [(2, 130), (0, x1), (0, x2), (0, x3), (0, x4), (0, (x5 + 1)), v6] [] T (zwr V 150 x5 0) := by
  refine Eq.trans (ev_lda (show zcode 231 36 = some (6, 37, 0, 0, []) by decide +kernel) rfl (by decide)) ?_
  refine Eq.trans (ev_gq (show zcode 231 37 = some (56, 40, 12, 34, []) by decide +kernel) (so130 hS) (sp130_34 hS)) ?_
  refine Eq.trans (ev_ldi (show zcode 231 40 = some (4, 42, 5, 0, []) by decide +kernel) rfl) ?_
  refine Eq.trans (ev_ci (show zcode 231 42 = some (0, 43, 0, 0, []) by decide +kernel) (by decide)) ?_
  refine Eq.trans (ev_is (show zcode 231 43 = some (64, 44, 0, 0, []) by decide +kernel) (sa150 hS) h1) ?_
  refine Eq.trans (ev_inc (show zcode 231 44 = some (10, 47, 5, 1, []) by decide +kernel) rfl h2 (Or.inr (show ¬ (0 : Nat) = 1 by decide))) ?_
  exact ev_goto (show zcode 231 47 = some (53, 50, 28, 0, []) by decide +kernel)
theorem b231_50 {T : zT} {V : zM} {x1 : Int} {x2 : Int} {x3 : Int} {x4 : Int} {x5 : Int} {v6 : zV} (hS : zStr T) (h1 : -2147483648 ≤ (316 + x4) ∧ (316 + x4) ≤ 2147483647) (h2 : (0 : Int) ≤ (316 + x4) ∧ (316 + x4) < 428) : ev 231 50 [(2, 130), (0, x1), (0, x2), (0, x3), (0, x4), (0, x5), v6] [] T V = ev 231 66 [(2, 130), (0, x1), (0, x2), (0, x3), (0, x4), (0, (V 132 (316 + x4))), (0, 0)] [] T V := by
  refine Eq.trans (ev_lda (show zcode 231 50 = some (6, 51, 0, 0, []) by decide +kernel) rfl (by decide)) ?_
  refine Eq.trans (ev_gq (show zcode 231 51 = some (56, 54, 12, 4, []) by decide +kernel) (so130 hS) (sp130_4 hS)) ?_
  refine Eq.trans (ev_ci (show zcode 231 54 = some (0, 57, 0, 316, []) by decide +kernel) (by decide)) ?_
  refine Eq.trans (ev_ldi (show zcode 231 57 = some (4, 59, 4, 0, []) by decide +kernel) rfl) ?_
  refine Eq.trans (ev_add (show zcode 231 59 = some (11, 60, 0, 0, []) by decide +kernel) h1) ?_
  refine Eq.trans (ev_ia (show zcode 231 60 = some (60, 61, 0, 0, []) by decide +kernel) (sa132 hS) h2) ?_
  refine Eq.trans (ev_sti (show zcode 231 61 = some (7, 63, 5, 0, []) by decide +kernel) ⟨show 5 < 7 by decide, Or.inr (show ¬ (0 : Nat) = 1 by decide)⟩) ?_
  refine Eq.trans (ev_ci (show zcode 231 63 = some (0, 64, 0, 0, []) by decide +kernel) (by decide)) ?_
  exact ev_sti (show zcode 231 64 = some (7, 66, 6, 0, []) by decide +kernel) ⟨show 6 < 7 by decide, Or.inr (show ¬ (0 : Nat) = 1 by decide)⟩
theorem b231_66 {T : zT} {V : zM} {x1 : Int} {x2 : Int} {x3 : Int} {x4 : Int} {x5 : Int} {x6 : Int} : ev 231 66 [(2, 130), (0, x1), (0, x2), (0, x3), (0, x4), (0, x5), (0, x6)] [] T V = if 128 ≤ x6 then ev 231 161 [(2, 130), (0, x1), (0, x2), (0, x3), (0, x4), (0, x5), (0, x6)] [] T V else ev 231 74 [(2, 130), (0, x1), (0, x2), (0, x3), (0, x4), (0, x5), (0, x6)] [] T V := by
  refine Eq.trans (ev_ldi (show zcode 231 66 = some (4, 68, 6, 0, []) by decide +kernel) rfl) ?_
  refine Eq.trans (ev_ci (show zcode 231 68 = some (0, 71, 0, 128, []) by decide +kernel) (by decide)) ?_
  exact ev_cge (show zcode 231 71 = some (49, 74, 161, 0, []) by decide +kernel)
theorem b231_74 {T : zT} {V : zM} {x1 : Int} {x2 : Int} {x3 : Int} {x4 : Int} {x5 : Int} {x6 : Int} (hS : zStr T) (h1 : -2147483648 ≤ (300 + x4) ∧ (300 + x4) ≤ 2147483647) (h2 : (0 : Int) ≤ (300 + x4) ∧ (300 + x4) < 428) : ev 231 74 [(2, 130), (0, x1), (0, x2), (0, x3), (0, x4), (0, x5), (0, x6)] [] T V = if (zand x6 (zxor x5 (-1))) = (zand (V 132 (300 + x4)) (zxor x5 (-1))) then ev 231 100 [(2, 130), (0, x1), (0, x2), (0, x3), (0, x4), (0, x5), (0, x6)] [] T V else ev 231 155 [(2, 130), (0, x1), (0, x2), (0, x3), (0, x4), (0, x5), (0, x6)] [] T V := by
  refine Eq.trans (ev_ldi (show zcode 231 74 = some (4, 76, 6, 0, []) by decide +kernel) rfl) ?_
  refine Eq.trans (ev_ldi (show zcode 231 76 = some (4, 78, 5, 0, []) by decide +kernel) rfl) ?_
  refine Eq.trans (ev_ci (show zcode 231 78 = some (0, 79, 0, (-1), []) by decide +kernel) (by decide)) ?_
  refine Eq.trans (ev_xor (show zcode 231 79 = some (16, 80, 0, 0, []) by decide +kernel)) ?_
  refine Eq.trans (ev_and (show zcode 231 80 = some (14, 81, 0, 0, []) by decide +kernel)) ?_
  refine Eq.trans (ev_lda (show zcode 231 81 = some (6, 82, 0, 0, []) by decide +kernel) rfl (by decide)) ?_
  refine Eq.trans (ev_gq (show zcode 231 82 = some (56, 85, 12, 4, []) by decide +kernel) (so130 hS) (sp130_4 hS)) ?_
  refine Eq.trans (ev_ci (show zcode 231 85 = some (0, 88, 0, 300, []) by decide +kernel) (by decide)) ?_
  refine Eq.trans (ev_ldi (show zcode 231 88 = some (4, 90, 4, 0, []) by decide +kernel) rfl) ?_
  refine Eq.trans (ev_add (show zcode 231 90 = some (11, 91, 0, 0, []) by decide +kernel) h1) ?_
  refine Eq.trans (ev_ia (show zcode 231 91 = some (60, 92, 0, 0, []) by decide +kernel) (sa132 hS) h2) ?_
  refine Eq.trans (ev_ldi (show zcode 231 92 = some (4, 94, 5, 0, []) by decide +kernel) rfl) ?_
  refine Eq.trans (ev_ci (show zcode 231 94 = some (0, 95, 0, (-1), []) by decide +kernel) (by decide)) ?_
  refine Eq.trans (ev_xor (show zcode 231 95 = some (16, 96, 0, 0, []) by decide +kernel)) ?_
  refine Eq.trans (ev_and (show zcode 231 96 = some (14, 97, 0, 0, []) by decide +kernel)) ?_
  exact ev_cne (show zcode 231 97 = some (47, 100, 155, 0, []) by decide +kernel)
theorem b231_100 {T : zT} {V : zM} {x1 : Int} {x2 : Int} {x3 : Int} {x4 : Int} {x5 : Int} {x6 : Int} : ev 231 100 [(2, 130), (0, x1), (0, x2), (0, x3), (0, x4), (0, x5), (0, x6)] [] T V = if x4 = x1 then ev 231 106 [(2, 130), (0, x1), (0, x2), (0, x3), (0, x4), (0, x5), (0, x6)] [] T V else ev 231 128 [(2, 130), (0, x1), (0, x2), (0, x3), (0, x4), (0, x5), (0, x6)] [] T V := by
  refine Eq.trans (ev_ldi (show zcode 231 100 = some (4, 102, 4, 0, []) by decide +kernel) rfl) ?_
  refine Eq.trans (ev_ldi (show zcode 231 102 = some (4, 103, 1, 0, []) by decide +kernel) rfl) ?_
  exact ev_cne (show zcode 231 103 = some (47, 106, 128, 0, []) by decide +kernel)
theorem b231_106 {T : zT} {V : zM} {x1 : Int} {x2 : Int} {x3 : Int} {x4 : Int} {x5 : Int} {x6 : Int} (h1 : (0 : Int) ≤ x2 ∧ x2 < 32) : ev 231 106 [(2, 130), (0, x1), (0, x2), (0, x3), (0, x4), (0, x5), (0, x6)] [] T V = if (zand (x6 / 2 ^ (x2).toNat) 1) = 1 then ev 231 116 [(2, 130), (0, x1), (0, x2), (0, x3), (0, x4), (0, x5), (0, x6)] [] T V else ev 231 120 [(2, 130), (0, x1), (0, x2), (0, x3), (0, x4), (0, x5), (0, x6)] [] T V := by
  refine Eq.trans (ev_ldi (show zcode 231 106 = some (4, 108, 6, 0, []) by decide +kernel) rfl) ?_
  refine Eq.trans (ev_ldi (show zcode 231 108 = some (4, 109, 2, 0, []) by decide +kernel) rfl) ?_
  refine Eq.trans (ev_shr (show zcode 231 109 = some (21, 110, 0, 0, []) by decide +kernel) h1) ?_
  refine Eq.trans (ev_ci (show zcode 231 110 = some (0, 111, 0, 1, []) by decide +kernel) (by decide)) ?_
  refine Eq.trans (ev_and (show zcode 231 111 = some (14, 112, 0, 0, []) by decide +kernel)) ?_
  refine Eq.trans (ev_ci (show zcode 231 112 = some (0, 113, 0, 1, []) by decide +kernel) (by decide)) ?_
  exact ev_cne (show zcode 231 113 = some (47, 116, 120, 0, []) by decide +kernel)
theorem b231_116 {T : zT} {V : zM} {x1 : Int} {x2 : Int} {x3 : Int} {x4 : Int} {x5 : Int} {x6 : Int} : ev 231 116 [(2, 130), (0, x1), (0, x2), (0, x3), (0, x4), (0, x5), (0, x6)] [] T V = ev 231 121 [(2, 130), (0, x1), (0, x2), (0, x3), (0, x4), (0, x5), (0, x6)] [(0, 1)] T V := by
  refine Eq.trans (ev_ci (show zcode 231 116 = some (0, 117, 0, 1, []) by decide +kernel) (by decide)) ?_
  exact ev_goto (show zcode 231 117 = some (53, 120, 121, 0, []) by decide +kernel)
theorem b231_120 {T : zT} {V : zM} {x1 : Int} {x2 : Int} {x3 : Int} {x4 : Int} {x5 : Int} {x6 : Int} : ev 231 120 [(2, 130), (0, x1), (0, x2), (0, x3), (0, x4), (0, x5), (0, x6)] [] T V = ev 231 121 [(2, 130), (0, x1), (0, x2), (0, x3), (0, x4), (0, x5), (0, x6)] [(0, 0)] T V := by
  exact ev_ci (show zcode 231 120 = some (0, 121, 0, 0, []) by decide +kernel) (by decide)
theorem b231_121 {T : zT} {V : zM} {x1 : Int} {x2 : Int} {x3 : Int} {x4 : Int} {x5 : Int} {x6 : Int} {y0 : Int} : ev 231 121 [(2, 130), (0, x1), (0, x2), (0, x3), (0, x4), (0, x5), (0, x6)] [(0, y0)] T V = if y0 = x3 then ev 231 128 [(2, 130), (0, x1), (0, x2), (0, x3), (0, x4), (0, x5), (0, x6)] [] T V else ev 231 125 [(2, 130), (0, x1), (0, x2), (0, x3), (0, x4), (0, x5), (0, x6)] [] T V := by
  refine Eq.trans (ev_ldi (show zcode 231 121 = some (4, 122, 3, 0, []) by decide +kernel) rfl) ?_
  exact ev_ceq (show zcode 231 122 = some (46, 125, 128, 0, []) by decide +kernel)
theorem b231_125 {T : zT} {V : zM} {x1 : Int} {x2 : Int} {x3 : Int} {x4 : Int} {x5 : Int} {x6 : Int} : ev 231 125 [(2, 130), (0, x1), (0, x2), (0, x3), (0, x4), (0, x5), (0, x6)] [] T V = ev 231 155 [(2, 130), (0, x1), (0, x2), (0, x3), (0, x4), (0, x5), (0, x6)] [] T V := by
  exact ev_goto (show zcode 231 125 = some (53, 128, 155, 0, []) by decide +kernel)
theorem b231_128 {T : zT} {V : zM} {x1 : Int} {x2 : Int} {x3 : Int} {x4 : Int} {x5 : Int} {x6 : Int} (hS : zStr T) (h1 : (0 : Int) ≤ x6 ∧ x6 < 128) (h2 : -2147483648 ≤ (27 * (V 142 x6)) ∧ (27 * (V 142 x6)) ≤ 2147483647) (h3 : -2147483648 ≤ ((27 * (V 142 x6)) + (V 143 x6)) ∧ ((27 * (V 142 x6)) + (V 143 x6)) ≤ 2147483647) (h4 : (0 : Int) ≤ ((27 * (V 142 x6)) + (V 143 x6)) ∧ ((27 * (V 142 x6)) + (V 143 x6)) < 729) (h5 : -2147483648 ≤ ((V 150 ((27 * (V 142 x6)) + (V 143 x6))) + 1) ∧ ((V 150 ((27 * (V 142 x6)) + (V 143 x6))) + 1) ≤ 2147483647) : ev 231 128 [(2, 130), (0, x1), (0, x2), (0, x3), (0, x4), (0, x5), (0, x6)] [] T V = ev 231 155 [(2, 130), (0, x1), (0, x2), (0, x3), (0, x4), (0, x5), (0, x6)] [] T (zwr V 150 ((27 * (V 142 x6)) + (V 143 x6)) ((V 150 ((27 * (V 142 x6)) + (V 143 x6))) + 1)) := by
  refine Eq.trans (ev_lda (show zcode 231 128 = some (6, 129, 0, 0, []) by decide +kernel) rfl (by decide)) ?_
  refine Eq.trans (ev_gq (show zcode 231 129 = some (56, 132, 12, 34, []) by decide +kernel) (so130 hS) (sp130_34 hS)) ?_
  refine Eq.trans (ev_ci (show zcode 231 132 = some (0, 134, 0, 27, []) by decide +kernel) (by decide)) ?_
  refine Eq.trans (ev_lda (show zcode 231 134 = some (6, 135, 0, 0, []) by decide +kernel) rfl (by decide)) ?_
  refine Eq.trans (ev_gq (show zcode 231 135 = some (56, 138, 12, 22, []) by decide +kernel) (so130 hS) (sp130_22 hS)) ?_
  refine Eq.trans (ev_ldi (show zcode 231 138 = some (4, 140, 6, 0, []) by decide +kernel) rfl) ?_
  refine Eq.trans (ev_ia (show zcode 231 140 = some (60, 141, 0, 0, []) by decide +kernel) (sa142 hS) h1) ?_
  refine Eq.trans (ev_mul (show zcode 231 141 = some (13, 142, 0, 0, []) by decide +kernel) h2) ?_
  refine Eq.trans (ev_lda (show zcode 231 142 = some (6, 143, 0, 0, []) by decide +kernel) rfl (by decide)) ?_
  refine Eq.trans (ev_gq (show zcode 231 143 = some (56, 146, 12, 23, []) by decide +kernel) (so130 hS) (sp130_23 hS)) ?_
  refine Eq.trans (ev_ldi (show zcode 231 146 = some (4, 148, 6, 0, []) by decide +kernel) rfl) ?_
  refine Eq.trans (ev_ia (show zcode 231 148 = some (60, 149, 0, 0, []) by decide +kernel) (sa143 hS) h1) ?_
  refine Eq.trans (ev_add (show zcode 231 149 = some (11, 150, 0, 0, []) by decide +kernel) h3) ?_
  refine Eq.trans (ev_dup2 (show zcode 231 150 = some (38, 151, 0, 0, []) by decide +kernel) (by decide)) ?_
  refine Eq.trans (ev_ia (show zcode 231 151 = some (60, 152, 0, 0, []) by decide +kernel) (sa150 hS) h4) ?_
  refine Eq.trans (ev_ci (show zcode 231 152 = some (0, 153, 0, 1, []) by decide +kernel) (by decide)) ?_
  refine Eq.trans (ev_add (show zcode 231 153 = some (11, 154, 0, 0, []) by decide +kernel) h5) ?_
  exact ev_is (show zcode 231 154 = some (64, 155, 0, 0, []) by decide +kernel) (sa150 hS) h4
theorem b231_155 {T : zT} {V : zM} {x1 : Int} {x2 : Int} {x3 : Int} {x4 : Int} {x5 : Int} {x6 : Int} (h1 : -2147483648 ≤ (x6 + 1) ∧ (x6 + 1) ≤ 2147483647) : ev 231 155 [(2, 130), (0, x1), (0, x2), (0, x3), (0, x4), (0, x5), (0, x6)] [] T V = ev 231 66 [(2, 130), (0, x1), (0, x2), (0, x3), (0, x4), (0, x5), (0, (x6 + 1))] [] T V := by
  refine Eq.trans (ev_inc (show zcode 231 155 = some (10, 158, 6, 1, []) by decide +kernel) rfl h1 (Or.inr (show ¬ (0 : Nat) = 1 by decide))) ?_
  exact ev_goto (show zcode 231 158 = some (53, 161, 66, 0, []) by decide +kernel)
theorem b231_161 {T : zT} {V : zM} {x1 : Int} {x2 : Int} {x3 : Int} {x4 : Int} {x5 : Int} {x6 : Int} (hS : zStr T)  : ev 231 161 [(2, 130), (0, x1), (0, x2), (0, x3), (0, x4), (0, x5), (0, x6)] [] T V = (zcall 220 [(2, 130)] T V).bind fun x => ev 231 165 [(2, 130), (0, x1), (0, x2), (0, x3), (0, x4), (0, x5), (0, x6)] (z_push x.1 []) x.2.1 x.2.2 := by
  refine Eq.trans (ev_lda (show zcode 231 161 = some (6, 162, 0, 0, []) by decide +kernel) rfl (by decide)) ?_
  exact ev_cvirt (show zcode 231 162 = some (76, 165, 220, 1, [12]) by decide +kernel) (args := []) (rest := []) rfl (so130 hS) rfl (show 0 ≤ 8 by decide) ⟨by decide, show 1 ≤ 11 by decide⟩
theorem b231_165 {T : zT} {V : zM} {x1 : Int} {x2 : Int} {x3 : Int} {x4 : Int} {x5 : Int} {x6 : Int} (h1 : -2147483648 ≤ (x4 + 1) ∧ (x4 + 1) ≤ 2147483647) : ev 231 165 [(2, 130), (0, x1), (0, x2), (0, x3), (0, x4), (0, x5), (0, x6)] [] T V = ev 231 12 [(2, 130), (0, x1), (0, x2), (0, x3), (0, (x4 + 1)), (0, x5), (0, x6)] [] T V := by
  refine Eq.trans (ev_inc (show zcode 231 165 = some (10, 168, 4, 1, []) by decide +kernel) rfl h1 (Or.inr (show ¬ (0 : Nat) = 1 by decide))) ?_
  exact ev_goto (show zcode 231 168 = some (53, 171, 12, 0, []) by decide +kernel)
theorem b231_171 {T : zT} {V : zM} {x1 : Int} {x2 : Int} {x3 : Int} {x4 : Int} {v5 : zV} {v6 : zV} (hS : zStr T)  : ev 231 171 [(2, 130), (0, x1), (0, x2), (0, x3), (0, x4), v5, v6] [] T V = (zcall 222 [(2, 130)] T V).bind fun x => ev 231 175 [(2, 130), (0, x1), (0, x2), (0, x3), (0, x4), v5, v6] (z_push x.1 []) x.2.1 x.2.2 := by
  refine Eq.trans (ev_lda (show zcode 231 171 = some (6, 172, 0, 0, []) by decide +kernel) rfl (by decide)) ?_
  exact ev_cvirt (show zcode 231 172 = some (76, 175, 222, 1, [12]) by decide +kernel) (args := []) (rest := []) rfl (so130 hS) rfl (show 0 ≤ 8 by decide) ⟨by decide, show 1 ≤ 5 by decide⟩
theorem b231_175 {T : zT} {V : zM} {x1 : Int} {x2 : Int} {x3 : Int} {x4 : Int} {v5 : zV} {v6 : zV} {y0 : Int} : ev 231 175 [(2, 130), (0, x1), (0, x2), (0, x3), (0, x4), v5, v6] [(1, y0)] T V = some ((1, y0), T, V) := by
  exact ev_rl (show zcode 231 175 = some (72, 176, 1, 0, []) by decide +kernel)
/-! 232: TwoWayWallModel.often(II)J -/
theorem e232 {T : zT} {V : zM} {x1 : Int} {x2 : Int} : zcall 232 [(2, 130), (0, x1), (0, x2)] T V = ev 232 0 [(2, 130), (0, x1), (0, x2)] [] T V := rfl
theorem b232_0 {T : zT} {V : zM} {x1 : Int} {x2 : Int} (hS : zStr T)  : ev 232 0 [(2, 130), (0, x1), (0, x2)] [] T V = (zcall 157 [(2, 130), (0, x1)] T V).bind fun x => ev 232 5 [(2, 130), (0, x1), (0, x2)] (z_push x.1 []) x.2.1 x.2.2 := by
  refine Eq.trans (ev_lda (show zcode 232 0 = some (6, 1, 0, 0, []) by decide +kernel) rfl (by decide)) ?_
  refine Eq.trans (ev_ldi (show zcode 232 1 = some (4, 2, 1, 0, []) by decide +kernel) rfl) ?_
  exact ev_cvirt (show zcode 232 2 = some (76, 5, 157, 2, [12]) by decide +kernel) (args := [(0, x1)]) (rest := []) rfl (so130 hS) rfl (show 0 ≤ 8 by decide) ⟨by decide, show 2 ≤ 2 by decide⟩
theorem b232_5 {T : zT} {V : zM} {x1 : Int} {x2 : Int} {y0 : Int} : ev 232 5 [(2, 130), (0, x1), (0, x2)] [(0, y0)] T V = if y0 = 0 then ev 232 30 [(2, 130), (0, x1), (0, x2)] [] T V else ev 232 8 [(2, 130), (0, x1), (0, x2)] [] T V := by
  exact ev_eq (show zcode 232 5 = some (40, 8, 30, 0, []) by decide +kernel)
theorem b232_8 {T : zT} {V : zM} {x1 : Int} {x2 : Int} : ev 232 8 [(2, 130), (0, x1), (0, x2)] [] T V = (zcall 150 [(0, x2), (0, 1), (0, 7)] T V).bind fun x => ev 232 15 [(2, 130), (0, x1), (0, x2)] (z_push x.1 []) x.2.1 x.2.2 := by
  refine Eq.trans (ev_ldi (show zcode 232 8 = some (4, 9, 2, 0, []) by decide +kernel) rfl) ?_
  refine Eq.trans (ev_ci (show zcode 232 9 = some (0, 10, 0, 1, []) by decide +kernel) (by decide)) ?_
  refine Eq.trans (ev_ci (show zcode 232 10 = some (0, 12, 0, 7, []) by decide +kernel) (by decide)) ?_
  exact ev_cstat (show zcode 232 12 = some (74, 15, 150, 3, []) by decide +kernel) (args := [(0, x2), (0, 1), (0, 7)]) (rest := []) rfl rfl (show 0 ≤ 8 by decide) ⟨by decide, show 3 ≤ 3 by decide⟩
theorem b232_15 {T : zT} {V : zM} {x1 : Int} {x2 : Int} {y0 : Int} : ev 232 15 [(2, 130), (0, x1), (0, x2)] [(0, y0)] T V = if y0 = 0 then ev 232 30 [(2, 130), (0, x1), (0, x2)] [] T V else ev 232 18 [(2, 130), (0, x1), (0, x2)] [] T V := by
  exact ev_eq (show zcode 232 15 = some (40, 18, 30, 0, []) by decide +kernel)
theorem b232_18 {T : zT} {V : zM} {x1 : Int} {x2 : Int} (hS : zStr T) (h1 : -2147483648 ≤ (x2 - 1) ∧ (x2 - 1) ≤ 2147483647) : ev 232 18 [(2, 130), (0, x1), (0, x2)] [] T V = (zcall 231 [(2, 130), (0, x1), (0, (x2 - 1)), (0, 1)] T V).bind fun x => ev 232 27 [(2, 130), (0, x1), (0, x2)] (z_push x.1 []) x.2.1 x.2.2 := by
  refine Eq.trans (ev_lda (show zcode 232 18 = some (6, 19, 0, 0, []) by decide +kernel) rfl (by decide)) ?_
  refine Eq.trans (ev_ldi (show zcode 232 19 = some (4, 20, 1, 0, []) by decide +kernel) rfl) ?_
  refine Eq.trans (ev_ldi (show zcode 232 20 = some (4, 21, 2, 0, []) by decide +kernel) rfl) ?_
  refine Eq.trans (ev_ci (show zcode 232 21 = some (0, 22, 0, 1, []) by decide +kernel) (by decide)) ?_
  refine Eq.trans (ev_sub (show zcode 232 22 = some (12, 23, 0, 0, []) by decide +kernel) h1) ?_
  refine Eq.trans (ev_ci (show zcode 232 23 = some (0, 24, 0, 1, []) by decide +kernel) (by decide)) ?_
  exact ev_cvirt (show zcode 232 24 = some (76, 27, 231, 4, [12]) by decide +kernel) (args := [(0, x1), (0, (x2 - 1)), (0, 1)]) (rest := []) rfl (so130 hS) rfl (show 0 ≤ 8 by decide) ⟨by decide, show 4 ≤ 7 by decide⟩
theorem b232_27 {T : zT} {V : zM} {x1 : Int} {x2 : Int} {y0 : Int} : ev 232 27 [(2, 130), (0, x1), (0, x2)] [(1, y0)] T V = ev 232 33 [(2, 130), (0, x1), (0, x2)] [(1, y0)] T V := by
  exact ev_goto (show zcode 232 27 = some (53, 30, 33, 0, []) by decide +kernel)
theorem b232_30 {T : zT} {V : zM} {x1 : Int} {x2 : Int} : ev 232 30 [(2, 130), (0, x1), (0, x2)] [] T V = ev 232 33 [(2, 130), (0, x1), (0, x2)] [(1, (-1))] T V := by
  exact ev_cl (show zcode 232 30 = some (1, 33, 0, (-1), []) by decide +kernel) (by decide)
theorem b232_33 {T : zT} {V : zM} {x1 : Int} {x2 : Int} {y0 : Int} : ev 232 33 [(2, 130), (0, x1), (0, x2)] [(1, y0)] T V = some ((1, y0), T, V) := by
  exact ev_rl (show zcode 232 33 = some (72, 34, 1, 0, []) by decide +kernel)
/-! 233: TwoWayWallModel.sure(II)I -/
theorem e233 {T : zT} {V : zM} {x1 : Int} {x2 : Int} : zcall 233 [(2, 130), (0, x1), (0, x2)] T V = ev 233 0 [(2, 130), (0, x1), (0, x2), (9, 0), (9, 0), (9, 0), (9, 0)] [] T V := rfl
theorem b233_0 {T : zT} {V : zM} {x1 : Int} {x2 : Int} (hS : zStr T)  : ev 233 0 [(2, 130), (0, x1), (0, x2), (9, 0), (9, 0), (9, 0), (9, 0)] [] T V = (zcall 157 [(2, 130), (0, x1)] T V).bind fun x => ev 233 5 [(2, 130), (0, x1), (0, x2), (9, 0), (9, 0), (9, 0), (9, 0)] (z_push x.1 []) x.2.1 x.2.2 := by
  refine Eq.trans (ev_lda (show zcode 233 0 = some (6, 1, 0, 0, []) by decide +kernel) rfl (by decide)) ?_
  refine Eq.trans (ev_ldi (show zcode 233 1 = some (4, 2, 1, 0, []) by decide +kernel) rfl) ?_
  exact ev_cvirt (show zcode 233 2 = some (76, 5, 157, 2, [12]) by decide +kernel) (args := [(0, x1)]) (rest := []) rfl (so130 hS) rfl (show 0 ≤ 8 by decide) ⟨by decide, show 2 ≤ 2 by decide⟩
theorem b233_5 {T : zT} {V : zM} {x1 : Int} {x2 : Int} {y0 : Int} : ev 233 5 [(2, 130), (0, x1), (0, x2), (9, 0), (9, 0), (9, 0), (9, 0)] [(0, y0)] T V = if y0 = 0 then ev 233 26 [(2, 130), (0, x1), (0, x2), (9, 0), (9, 0), (9, 0), (9, 0)] [] T V else ev 233 8 [(2, 130), (0, x1), (0, x2), (9, 0), (9, 0), (9, 0), (9, 0)] [] T V := by
  exact ev_eq (show zcode 233 5 = some (40, 8, 26, 0, []) by decide +kernel)
theorem b233_8 {T : zT} {V : zM} {x1 : Int} {x2 : Int} : ev 233 8 [(2, 130), (0, x1), (0, x2), (9, 0), (9, 0), (9, 0), (9, 0)] [] T V = (zcall 150 [(0, x2), (0, 0), (0, 2)] T V).bind fun x => ev 233 14 [(2, 130), (0, x1), (0, x2), (9, 0), (9, 0), (9, 0), (9, 0)] (z_push x.1 []) x.2.1 x.2.2 := by
  refine Eq.trans (ev_ldi (show zcode 233 8 = some (4, 9, 2, 0, []) by decide +kernel) rfl) ?_
  refine Eq.trans (ev_ci (show zcode 233 9 = some (0, 10, 0, 0, []) by decide +kernel) (by decide)) ?_
  refine Eq.trans (ev_ci (show zcode 233 10 = some (0, 11, 0, 2, []) by decide +kernel) (by decide)) ?_
  exact ev_cstat (show zcode 233 11 = some (74, 14, 150, 3, []) by decide +kernel) (args := [(0, x2), (0, 0), (0, 2)]) (rest := []) rfl rfl (show 0 ≤ 8 by decide) ⟨by decide, show 3 ≤ 3 by decide⟩
theorem b233_14 {T : zT} {V : zM} {x1 : Int} {x2 : Int} {y0 : Int} : ev 233 14 [(2, 130), (0, x1), (0, x2), (9, 0), (9, 0), (9, 0), (9, 0)] [(0, y0)] T V = if y0 = 0 then ev 233 26 [(2, 130), (0, x1), (0, x2), (9, 0), (9, 0), (9, 0), (9, 0)] [] T V else ev 233 17 [(2, 130), (0, x1), (0, x2), (9, 0), (9, 0), (9, 0), (9, 0)] [] T V := by
  exact ev_eq (show zcode 233 14 = some (40, 17, 26, 0, []) by decide +kernel)
theorem b233_17 {T : zT} {V : zM} {x1 : Int} {x2 : Int} (hS : zStr T)  : ev 233 17 [(2, 130), (0, x1), (0, x2), (9, 0), (9, 0), (9, 0), (9, 0)] [] T V = (zcall 230 [(2, 130)] T V).bind fun x => ev 233 21 [(2, 130), (0, x1), (0, x2), (9, 0), (9, 0), (9, 0), (9, 0)] (z_push x.1 []) x.2.1 x.2.2 := by
  refine Eq.trans (ev_lda (show zcode 233 17 = some (6, 18, 0, 0, []) by decide +kernel) rfl (by decide)) ?_
  exact ev_cvirt (show zcode 233 18 = some (76, 21, 230, 1, [12]) by decide +kernel) (args := []) (rest := []) rfl (so130 hS) rfl (show 0 ≤ 8 by decide) ⟨by decide, show 1 ≤ 1 by decide⟩
theorem b233_21 {T : zT} {V : zM} {x1 : Int} {x2 : Int} {y0 : Int} : ev 233 21 [(2, 130), (0, x1), (0, x2), (9, 0), (9, 0), (9, 0), (9, 0)] [(1, y0)] T V = if y0 = 0 then ev 233 26 [(2, 130), (0, x1), (0, x2), (9, 0), (9, 0), (9, 0), (9, 0)] [] T V else ev 233 28 [(2, 130), (0, x1), (0, x2), (9, 0), (9, 0), (9, 0), (9, 0)] [] T V := by
  refine Eq.trans (ev_cl (show zcode 233 21 = some (1, 22, 0, 0, []) by decide +kernel) (by decide)) ?_
  exact ev_lne (show zcode 233 22 = some (31, 23, 0, 0, []) by decide +kernel) (show zcode 233 23 = some (41, 26, 28, 0, []) by decide +kernel)
theorem b233_26 {T : zT} {V : zM} {x1 : Int} {x2 : Int} : ev 233 26 [(2, 130), (0, x1), (0, x2), (9, 0), (9, 0), (9, 0), (9, 0)] [] T V = some ((0, (-1)), T, V) := by
  refine Eq.trans (ev_ci (show zcode 233 26 = some (0, 27, 0, (-1), []) by decide +kernel) (by decide)) ?_
  exact ev_ri (show zcode 233 27 = some (72, 28, 0, 0, []) by decide +kernel)
theorem b233_28 {T : zT} {V : zM} {x1 : Int} {x2 : Int} : ev 233 28 [(2, 130), (0, x1), (0, x2), (9, 0), (9, 0), (9, 0), (9, 0)] [] T V = ev 233 33 [(2, 130), (0, x1), (0, x2), (0, 0), (0, 0), (9, 0), (9, 0)] [] T V := by
  refine Eq.trans (ev_ci (show zcode 233 28 = some (0, 29, 0, 0, []) by decide +kernel) (by decide)) ?_
  refine Eq.trans (ev_sti (show zcode 233 29 = some (7, 30, 3, 0, []) by decide +kernel) ⟨show 3 < 7 by decide, Or.inr (show ¬ (0 : Nat) = 1 by decide)⟩) ?_
  refine Eq.trans (ev_ci (show zcode 233 30 = some (0, 31, 0, 0, []) by decide +kernel) (by decide)) ?_
  exact ev_sti (show zcode 233 31 = some (7, 33, 4, 0, []) by decide +kernel) ⟨show 4 < 7 by decide, Or.inr (show ¬ (0 : Nat) = 1 by decide)⟩
theorem b233_33 {T : zT} {V : zM} {x1 : Int} {x2 : Int} {x3 : Int} {x4 : Int} {v5 : zV} {v6 : zV} : ev 233 33 [(2, 130), (0, x1), (0, x2), (0, x3), (0, x4), v5, v6] [] T V = if 7 ≤ x4 then ev 233 152 [(2, 130), (0, x1), (0, x2), (0, x3), (0, x4), v5, v6] [] T V else ev 233 40 [(2, 130), (0, x1), (0, x2), (0, x3), (0, x4), v5, v6] [] T V := by
  refine Eq.trans (ev_ldi (show zcode 233 33 = some (4, 35, 4, 0, []) by decide +kernel) rfl) ?_
  refine Eq.trans (ev_ci (show zcode 233 35 = some (0, 37, 0, 7, []) by decide +kernel) (by decide)) ?_
  exact ev_cge (show zcode 233 37 = some (49, 40, 152, 0, []) by decide +kernel)
theorem b233_40 {T : zT} {V : zM} {x1 : Int} {x2 : Int} {x3 : Int} {x4 : Int} {v5 : zV} {v6 : zV} (hS : zStr T) (h1 : -2147483648 ≤ (316 + x1) ∧ (316 + x1) ≤ 2147483647) (h2 : (0 : Int) ≤ (316 + x1) ∧ (316 + x1) < 428) (h3 : (0 : Int) ≤ x4 ∧ x4 < 32) : ev 233 40 [(2, 130), (0, x1), (0, x2), (0, x3), (0, x4), v5, v6] [] T V = if (zand ((V 132 (316 + x1)) / 2 ^ (x4).toNat) 1) = 0 then ev 233 58 [(2, 130), (0, x1), (0, x2), (0, x3), (0, x4), v5, v6] [] T V else ev 233 61 [(2, 130), (0, x1), (0, x2), (0, x3), (0, x4), v5, v6] [] T V := by
  refine Eq.trans (ev_lda (show zcode 233 40 = some (6, 41, 0, 0, []) by decide +kernel) rfl (by decide)) ?_
  refine Eq.trans (ev_gq (show zcode 233 41 = some (56, 44, 12, 4, []) by decide +kernel) (so130 hS) (sp130_4 hS)) ?_
  refine Eq.trans (ev_ci (show zcode 233 44 = some (0, 47, 0, 316, []) by decide +kernel) (by decide)) ?_
  refine Eq.trans (ev_ldi (show zcode 233 47 = some (4, 48, 1, 0, []) by decide +kernel) rfl) ?_
  refine Eq.trans (ev_add (show zcode 233 48 = some (11, 49, 0, 0, []) by decide +kernel) h1) ?_
  refine Eq.trans (ev_ia (show zcode 233 49 = some (60, 50, 0, 0, []) by decide +kernel) (sa132 hS) h2) ?_
  refine Eq.trans (ev_ldi (show zcode 233 50 = some (4, 52, 4, 0, []) by decide +kernel) rfl) ?_
  refine Eq.trans (ev_shr (show zcode 233 52 = some (21, 53, 0, 0, []) by decide +kernel) h3) ?_
  refine Eq.trans (ev_ci (show zcode 233 53 = some (0, 54, 0, 1, []) by decide +kernel) (by decide)) ?_
  refine Eq.trans (ev_and (show zcode 233 54 = some (14, 55, 0, 0, []) by decide +kernel)) ?_
  exact ev_ne (show zcode 233 55 = some (41, 58, 61, 0, []) by decide +kernel)
theorem b233_58 {T : zT} {V : zM} {x1 : Int} {x2 : Int} {x3 : Int} {x4 : Int} {v5 : zV} {v6 : zV} : ev 233 58 [(2, 130), (0, x1), (0, x2), (0, x3), (0, x4), v5, v6] [] T V = ev 233 146 [(2, 130), (0, x1), (0, x2), (0, x3), (0, x4), v5, v6] [] T V := by
  exact ev_goto (show zcode 233 58 = some (53, 61, 146, 0, []) by decide +kernel)
theorem b233_61 {T : zT} {V : zM} {x1 : Int} {x2 : Int} {x3 : Int} {x4 : Int} {v5 : zV} {v6 : zV} (hS : zStr T)  : ev 233 61 [(2, 130), (0, x1), (0, x2), (0, x3), (0, x4), v5, v6] [] T V = (zcall 231 [(2, 130), (0, x1), (0, x4), (0, 1)] T V).bind fun x => ev 233 69 [(2, 130), (0, x1), (0, x2), (0, x3), (0, x4), v5, v6] (z_push x.1 []) x.2.1 x.2.2 := by
  refine Eq.trans (ev_lda (show zcode 233 61 = some (6, 62, 0, 0, []) by decide +kernel) rfl (by decide)) ?_
  refine Eq.trans (ev_ldi (show zcode 233 62 = some (4, 63, 1, 0, []) by decide +kernel) rfl) ?_
  refine Eq.trans (ev_ldi (show zcode 233 63 = some (4, 65, 4, 0, []) by decide +kernel) rfl) ?_
  refine Eq.trans (ev_ci (show zcode 233 65 = some (0, 66, 0, 1, []) by decide +kernel) (by decide)) ?_
  exact ev_cvirt (show zcode 233 66 = some (76, 69, 231, 4, [12]) by decide +kernel) (args := [(0, x1), (0, x4), (0, 1)]) (rest := []) rfl (so130 hS) rfl (show 0 ≤ 8 by decide) ⟨by decide, show 4 ≤ 7 by decide⟩
theorem b233_69 {T : zT} {V : zM} {x1 : Int} {x2 : Int} {x3 : Int} {x4 : Int} {v5 : zV} {v6 : zV} {y0 : Int} : ev 233 69 [(2, 130), (0, x1), (0, x2), (0, x3), (0, x4), v5, v6] [(1, y0)] T V = if y0 ≤ 0 then ev 233 78 [(2, 130), (0, x1), (0, x2), (0, x3), (0, x4), v5, v6] [] T V else ev 233 74 [(2, 130), (0, x1), (0, x2), (0, x3), (0, x4), v5, v6] [] T V := by
  refine Eq.trans (ev_cl (show zcode 233 69 = some (1, 70, 0, 0, []) by decide +kernel) (by decide)) ?_
  exact ev_lle (show zcode 233 70 = some (31, 71, 0, 0, []) by decide +kernel) (show zcode 233 71 = some (45, 74, 78, 0, []) by decide +kernel)
theorem b233_74 {T : zT} {V : zM} {x1 : Int} {x2 : Int} {x3 : Int} {x4 : Int} {v5 : zV} {v6 : zV} : ev 233 74 [(2, 130), (0, x1), (0, x2), (0, x3), (0, x4), v5, v6] [] T V = ev 233 79 [(2, 130), (0, x1), (0, x2), (0, x3), (0, x4), v5, v6] [(0, 1)] T V := by
  refine Eq.trans (ev_ci (show zcode 233 74 = some (0, 75, 0, 1, []) by decide +kernel) (by decide)) ?_
  exact ev_goto (show zcode 233 75 = some (53, 78, 79, 0, []) by decide +kernel)
theorem b233_78 {T : zT} {V : zM} {x1 : Int} {x2 : Int} {x3 : Int} {x4 : Int} {v5 : zV} {v6 : zV} : ev 233 78 [(2, 130), (0, x1), (0, x2), (0, x3), (0, x4), v5, v6] [] T V = ev 233 79 [(2, 130), (0, x1), (0, x2), (0, x3), (0, x4), v5, v6] [(0, 0)] T V := by
  exact ev_ci (show zcode 233 78 = some (0, 79, 0, 0, []) by decide +kernel) (by decide)
theorem b233_79 {T : zT} {V : zM} {x1 : Int} {x2 : Int} {x3 : Int} {x4 : Int} {v5 : zV} {v6 : zV} {y0 : Int} (hS : zStr T)  : ev 233 79 [(2, 130), (0, x1), (0, x2), (0, x3), (0, x4), v5, v6] [(0, y0)] T V = (zcall 231 [(2, 130), (0, x1), (0, x4), (0, 0)] T V).bind fun x => ev 233 89 [(2, 130), (0, x1), (0, x2), (0, x3), (0, x4), (0, y0), v6] (z_push x.1 []) x.2.1 x.2.2 := by
  refine Eq.trans (ev_sti (show zcode 233 79 = some (7, 81, 5, 0, []) by decide +kernel) ⟨show 5 < 7 by decide, Or.inr (show ¬ (0 : Nat) = 1 by decide)⟩) ?_
  refine Eq.trans (ev_lda (show zcode 233 81 = some (6, 82, 0, 0, []) by decide +kernel) rfl (by decide)) ?_
  refine Eq.trans (ev_ldi (show zcode 233 82 = some (4, 83, 1, 0, []) by decide +kernel) rfl) ?_
  refine Eq.trans (ev_ldi (show zcode 233 83 = some (4, 85, 4, 0, []) by decide +kernel) rfl) ?_
  refine Eq.trans (ev_ci (show zcode 233 85 = some (0, 86, 0, 0, []) by decide +kernel) (by decide)) ?_
  exact ev_cvirt (show zcode 233 86 = some (76, 89, 231, 4, [12]) by decide +kernel) (args := [(0, x1), (0, x4), (0, 0)]) (rest := []) rfl (so130 hS) rfl (show 0 ≤ 8 by decide) ⟨by decide, show 4 ≤ 7 by decide⟩
theorem b233_89 {T : zT} {V : zM} {x1 : Int} {x2 : Int} {x3 : Int} {x4 : Int} {x5 : Int} {v6 : zV} {y0 : Int} : ev 233 89 [(2, 130), (0, x1), (0, x2), (0, x3), (0, x4), (0, x5), v6] [(1, y0)] T V = if y0 ≤ 0 then ev 233 98 [(2, 130), (0, x1), (0, x2), (0, x3), (0, x4), (0, x5), v6] [] T V else ev 233 94 [(2, 130), (0, x1), (0, x2), (0, x3), (0, x4), (0, x5), v6] [] T V := by
  refine Eq.trans (ev_cl (show zcode 233 89 = some (1, 90, 0, 0, []) by decide +kernel) (by decide)) ?_
  exact ev_lle (show zcode 233 90 = some (31, 91, 0, 0, []) by decide +kernel) (show zcode 233 91 = some (45, 94, 98, 0, []) by decide +kernel)
theorem b233_94 {T : zT} {V : zM} {x1 : Int} {x2 : Int} {x3 : Int} {x4 : Int} {x5 : Int} {v6 : zV} : ev 233 94 [(2, 130), (0, x1), (0, x2), (0, x3), (0, x4), (0, x5), v6] [] T V = ev 233 99 [(2, 130), (0, x1), (0, x2), (0, x3), (0, x4), (0, x5), v6] [(0, 1)] T V := by
  refine Eq.trans (ev_ci (show zcode 233 94 = some (0, 95, 0, 1, []) by decide +kernel) (by decide)) ?_
  exact ev_goto (show zcode 233 95 = some (53, 98, 99, 0, []) by decide +kernel)
theorem b233_98 {T : zT} {V : zM} {x1 : Int} {x2 : Int} {x3 : Int} {x4 : Int} {x5 : Int} {v6 : zV} : ev 233 98 [(2, 130), (0, x1), (0, x2), (0, x3), (0, x4), (0, x5), v6] [] T V = ev 233 99 [(2, 130), (0, x1), (0, x2), (0, x3), (0, x4), (0, x5), v6] [(0, 0)] T V := by
  exact ev_ci (show zcode 233 98 = some (0, 99, 0, 0, []) by decide +kernel) (by decide)
theorem b233_99 {T : zT} {V : zM} {x1 : Int} {x2 : Int} {x3 : Int} {x4 : Int} {x5 : Int} {v6 : zV} {y0 : Int} : ev 233 99 [(2, 130), (0, x1), (0, x2), (0, x3), (0, x4), (0, x5), v6] [(0, y0)] T V = if x2 = 0 then ev 233 106 [(2, 130), (0, x1), (0, x2), (0, x3), (0, x4), (0, x5), (0, y0)] [(0, x3)] T V else ev 233 111 [(2, 130), (0, x1), (0, x2), (0, x3), (0, x4), (0, x5), (0, y0)] [(0, x3)] T V := by
  refine Eq.trans (ev_sti (show zcode 233 99 = some (7, 101, 6, 0, []) by decide +kernel) ⟨show 6 < 7 by decide, Or.inr (show ¬ (0 : Nat) = 1 by decide)⟩) ?_
  refine Eq.trans (ev_ldi (show zcode 233 101 = some (4, 102, 3, 0, []) by decide +kernel) rfl) ?_
  refine Eq.trans (ev_ldi (show zcode 233 102 = some (4, 103, 2, 0, []) by decide +kernel) rfl) ?_
  exact ev_ne (show zcode 233 103 = some (41, 106, 111, 0, []) by decide +kernel)
theorem b233_106 {T : zT} {V : zM} {x1 : Int} {x2 : Int} {x3 : Int} {x4 : Int} {x5 : Int} {x6 : Int} {y0 : Int} : ev 233 106 [(2, 130), (0, x1), (0, x2), (0, x3), (0, x4), (0, x5), (0, x6)] [(0, y0)] T V = if x6 = 0 then ev 233 136 [(2, 130), (0, x1), (0, x2), (0, x3), (0, x4), (0, x5), (0, x6)] [(0, y0)] T V else ev 233 111 [(2, 130), (0, x1), (0, x2), (0, x3), (0, x4), (0, x5), (0, x6)] [(0, y0)] T V := by
  refine Eq.trans (ev_ldi (show zcode 233 106 = some (4, 108, 6, 0, []) by decide +kernel) rfl) ?_
  exact ev_eq (show zcode 233 108 = some (40, 111, 136, 0, []) by decide +kernel)
theorem b233_111 {T : zT} {V : zM} {x1 : Int} {x2 : Int} {x3 : Int} {x4 : Int} {x5 : Int} {x6 : Int} {y0 : Int} : ev 233 111 [(2, 130), (0, x1), (0, x2), (0, x3), (0, x4), (0, x5), (0, x6)] [(0, y0)] T V = if x2 = 1 then ev 233 116 [(2, 130), (0, x1), (0, x2), (0, x3), (0, x4), (0, x5), (0, x6)] [(0, y0)] T V else ev 233 121 [(2, 130), (0, x1), (0, x2), (0, x3), (0, x4), (0, x5), (0, x6)] [(0, y0)] T V := by
  refine Eq.trans (ev_ldi (show zcode 233 111 = some (4, 112, 2, 0, []) by decide +kernel) rfl) ?_
  refine Eq.trans (ev_ci (show zcode 233 112 = some (0, 113, 0, 1, []) by decide +kernel) (by decide)) ?_
  exact ev_cne (show zcode 233 113 = some (47, 116, 121, 0, []) by decide +kernel)
theorem b233_116 {T : zT} {V : zM} {x1 : Int} {x2 : Int} {x3 : Int} {x4 : Int} {x5 : Int} {x6 : Int} {y0 : Int} : ev 233 116 [(2, 130), (0, x1), (0, x2), (0, x3), (0, x4), (0, x5), (0, x6)] [(0, y0)] T V = if x5 = 0 then ev 233 136 [(2, 130), (0, x1), (0, x2), (0, x3), (0, x4), (0, x5), (0, x6)] [(0, y0)] T V else ev 233 121 [(2, 130), (0, x1), (0, x2), (0, x3), (0, x4), (0, x5), (0, x6)] [(0, y0)] T V := by
  refine Eq.trans (ev_ldi (show zcode 233 116 = some (4, 118, 5, 0, []) by decide +kernel) rfl) ?_
  exact ev_eq (show zcode 233 118 = some (40, 121, 136, 0, []) by decide +kernel)
theorem b233_121 {T : zT} {V : zM} {x1 : Int} {x2 : Int} {x3 : Int} {x4 : Int} {x5 : Int} {x6 : Int} {y0 : Int} : ev 233 121 [(2, 130), (0, x1), (0, x2), (0, x3), (0, x4), (0, x5), (0, x6)] [(0, y0)] T V = if x2 = 2 then ev 233 126 [(2, 130), (0, x1), (0, x2), (0, x3), (0, x4), (0, x5), (0, x6)] [(0, y0)] T V else ev 233 143 [(2, 130), (0, x1), (0, x2), (0, x3), (0, x4), (0, x5), (0, x6)] [(0, y0)] T V := by
  refine Eq.trans (ev_ldi (show zcode 233 121 = some (4, 122, 2, 0, []) by decide +kernel) rfl) ?_
  refine Eq.trans (ev_ci (show zcode 233 122 = some (0, 123, 0, 2, []) by decide +kernel) (by decide)) ?_
  exact ev_cne (show zcode 233 123 = some (47, 126, 143, 0, []) by decide +kernel)
theorem b233_126 {T : zT} {V : zM} {x1 : Int} {x2 : Int} {x3 : Int} {x4 : Int} {x5 : Int} {x6 : Int} {y0 : Int} : ev 233 126 [(2, 130), (0, x1), (0, x2), (0, x3), (0, x4), (0, x5), (0, x6)] [(0, y0)] T V = if x5 = 0 then ev 233 143 [(2, 130), (0, x1), (0, x2), (0, x3), (0, x4), (0, x5), (0, x6)] [(0, y0)] T V else ev 233 131 [(2, 130), (0, x1), (0, x2), (0, x3), (0, x4), (0, x5), (0, x6)] [(0, y0)] T V := by
  refine Eq.trans (ev_ldi (show zcode 233 126 = some (4, 128, 5, 0, []) by decide +kernel) rfl) ?_
  exact ev_eq (show zcode 233 128 = some (40, 131, 143, 0, []) by decide +kernel)
theorem b233_131 {T : zT} {V : zM} {x1 : Int} {x2 : Int} {x3 : Int} {x4 : Int} {x5 : Int} {x6 : Int} {y0 : Int} : ev 233 131 [(2, 130), (0, x1), (0, x2), (0, x3), (0, x4), (0, x5), (0, x6)] [(0, y0)] T V = if x6 = 0 then ev 233 143 [(2, 130), (0, x1), (0, x2), (0, x3), (0, x4), (0, x5), (0, x6)] [(0, y0)] T V else ev 233 136 [(2, 130), (0, x1), (0, x2), (0, x3), (0, x4), (0, x5), (0, x6)] [(0, y0)] T V := by
  refine Eq.trans (ev_ldi (show zcode 233 131 = some (4, 133, 6, 0, []) by decide +kernel) rfl) ?_
  exact ev_eq (show zcode 233 133 = some (40, 136, 143, 0, []) by decide +kernel)
theorem b233_136 {T : zT} {V : zM} {x1 : Int} {x2 : Int} {x3 : Int} {x4 : Int} {x5 : Int} {x6 : Int} {y0 : Int} (h1 : (0 : Int) ≤ x4 ∧ x4 ≤ 30) : ev 233 136 [(2, 130), (0, x1), (0, x2), (0, x3), (0, x4), (0, x5), (0, x6)] [(0, y0)] T V = ev 233 144 [(2, 130), (0, x1), (0, x2), (0, x3), (0, x4), (0, x5), (0, x6)] [(0, ((2 : Int) ^ (x4).toNat)), (0, y0)] T V := by
  refine Eq.trans (ev_ci (show zcode 233 136 = some (0, 137, 0, 1, []) by decide +kernel) (by decide)) ?_
  refine Eq.trans (ev_ldi (show zcode 233 137 = some (4, 139, 4, 0, []) by decide +kernel) rfl) ?_
  refine Eq.trans (ev_shl1 (show zcode 233 139 = some (20, 140, 0, 0, []) by decide +kernel) h1) ?_
  exact ev_goto (show zcode 233 140 = some (53, 143, 144, 0, []) by decide +kernel)
theorem b233_143 {T : zT} {V : zM} {x1 : Int} {x2 : Int} {x3 : Int} {x4 : Int} {x5 : Int} {x6 : Int} {y0 : Int} : ev 233 143 [(2, 130), (0, x1), (0, x2), (0, x3), (0, x4), (0, x5), (0, x6)] [(0, y0)] T V = ev 233 144 [(2, 130), (0, x1), (0, x2), (0, x3), (0, x4), (0, x5), (0, x6)] [(0, 0), (0, y0)] T V := by
  exact ev_ci (show zcode 233 143 = some (0, 144, 0, 0, []) by decide +kernel) (by decide)
theorem b233_144 {T : zT} {V : zM} {x1 : Int} {x2 : Int} {x3 : Int} {x4 : Int} {x5 : Int} {x6 : Int} {y0 : Int} {y1 : Int} : ev 233 144 [(2, 130), (0, x1), (0, x2), (0, x3), (0, x4), (0, x5), (0, x6)] [(0, y1), (0, y0)] T V = ev 233 146 [(2, 130), (0, x1), (0, x2), (0, (zor y0 y1)), (0, x4), (0, x5), (0, x6)] [] T V := by
  refine Eq.trans (ev_or (show zcode 233 144 = some (15, 145, 0, 0, []) by decide +kernel)) ?_
  exact ev_sti (show zcode 233 145 = some (7, 146, 3, 0, []) by decide +kernel) ⟨show 3 < 7 by decide, Or.inr (show ¬ (0 : Nat) = 1 by decide)⟩
theorem b233_146 {T : zT} {V : zM} {x1 : Int} {x2 : Int} {x3 : Int} {x4 : Int} {v5 : zV} {v6 : zV} (h1 : -2147483648 ≤ (x4 + 1) ∧ (x4 + 1) ≤ 2147483647) : ev 233 146 [(2, 130), (0, x1), (0, x2), (0, x3), (0, x4), v5, v6] [] T V = ev 233 33 [(2, 130), (0, x1), (0, x2), (0, x3), (0, (x4 + 1)), v5, v6] [] T V := by
  refine Eq.trans (ev_inc (show zcode 233 146 = some (10, 149, 4, 1, []) by decide +kernel) rfl h1 (Or.inr (show ¬ (0 : Nat) = 1 by decide))) ?_
  exact ev_goto (show zcode 233 149 = some (53, 152, 33, 0, []) by decide +kernel)
theorem b233_152 {T : zT} {V : zM} {x1 : Int} {x2 : Int} {x3 : Int} {x4 : Int} {v5 : zV} {v6 : zV} : ev 233 152 [(2, 130), (0, x1), (0, x2), (0, x3), (0, x4), v5, v6] [] T V = some ((0, x3), T, V) := by
  refine Eq.trans (ev_ldi (show zcode 233 152 = some (4, 153, 3, 0, []) by decide +kernel) rfl) ?_
  exact ev_ri (show zcode 233 153 = some (72, 154, 0, 0, []) by decide +kernel)
/-! 234: TwoWayWallModel.yard(IIIII)I -/
theorem e234 {T : zT} {V : zM} {x1 : Int} {x2 : Int} {x3 : Int} {x4 : Int} {x5 : Int} : zcall 234 [(2, 130), (0, x1), (0, x2), (0, x3), (0, x4), (0, x5)] T V = ev 234 0 [(2, 130), (0, x1), (0, x2), (0, x3), (0, x4), (0, x5), (9, 0)] [] T V := rfl
theorem b234_0 {T : zT} {V : zM} {x1 : Int} {x2 : Int} {x3 : Int} {x4 : Int} {x5 : Int} (hS : zStr T)  : ev 234 0 [(2, 130), (0, x1), (0, x2), (0, x3), (0, x4), (0, x5), (9, 0)] [] T V = (zcall 157 [(2, 130), (0, x1)] T V).bind fun x => ev 234 5 [(2, 130), (0, x1), (0, x2), (0, x3), (0, x4), (0, x5), (9, 0)] (z_push x.1 []) x.2.1 x.2.2 := by
  refine Eq.trans (ev_lda (show zcode 234 0 = some (6, 1, 0, 0, []) by decide +kernel) rfl (by decide)) ?_
  refine Eq.trans (ev_ldi (show zcode 234 1 = some (4, 2, 1, 0, []) by decide +kernel) rfl) ?_
  exact ev_cvirt (show zcode 234 2 = some (76, 5, 157, 2, [12]) by decide +kernel) (args := [(0, x1)]) (rest := []) rfl (so130 hS) rfl (show 0 ≤ 8 by decide) ⟨by decide, show 2 ≤ 2 by decide⟩
theorem b234_5 {T : zT} {V : zM} {x1 : Int} {x2 : Int} {x3 : Int} {x4 : Int} {x5 : Int} {y0 : Int} : ev 234 5 [(2, 130), (0, x1), (0, x2), (0, x3), (0, x4), (0, x5), (9, 0)] [(0, y0)] T V = if y0 = 0 then ev 234 54 [(2, 130), (0, x1), (0, x2), (0, x3), (0, x4), (0, x5), (9, 0)] [] T V else ev 234 8 [(2, 130), (0, x1), (0, x2), (0, x3), (0, x4), (0, x5), (9, 0)] [] T V := by
  exact ev_eq (show zcode 234 5 = some (40, 8, 54, 0, []) by decide +kernel)
theorem b234_8 {T : zT} {V : zM} {x1 : Int} {x2 : Int} {x3 : Int} {x4 : Int} {x5 : Int} (hS : zStr T)  : ev 234 8 [(2, 130), (0, x1), (0, x2), (0, x3), (0, x4), (0, x5), (9, 0)] [] T V = (zcall 157 [(2, 130), (0, x2)] T V).bind fun x => ev 234 13 [(2, 130), (0, x1), (0, x2), (0, x3), (0, x4), (0, x5), (9, 0)] (z_push x.1 []) x.2.1 x.2.2 := by
  refine Eq.trans (ev_lda (show zcode 234 8 = some (6, 9, 0, 0, []) by decide +kernel) rfl (by decide)) ?_
  refine Eq.trans (ev_ldi (show zcode 234 9 = some (4, 10, 2, 0, []) by decide +kernel) rfl) ?_
  exact ev_cvirt (show zcode 234 10 = some (76, 13, 157, 2, [12]) by decide +kernel) (args := [(0, x2)]) (rest := []) rfl (so130 hS) rfl (show 0 ≤ 8 by decide) ⟨by decide, show 2 ≤ 2 by decide⟩
theorem b234_13 {T : zT} {V : zM} {x1 : Int} {x2 : Int} {x3 : Int} {x4 : Int} {x5 : Int} {y0 : Int} : ev 234 13 [(2, 130), (0, x1), (0, x2), (0, x3), (0, x4), (0, x5), (9, 0)] [(0, y0)] T V = if y0 = 0 then ev 234 54 [(2, 130), (0, x1), (0, x2), (0, x3), (0, x4), (0, x5), (9, 0)] [] T V else ev 234 16 [(2, 130), (0, x1), (0, x2), (0, x3), (0, x4), (0, x5), (9, 0)] [] T V := by
  exact ev_eq (show zcode 234 13 = some (40, 16, 54, 0, []) by decide +kernel)
theorem b234_16 {T : zT} {V : zM} {x1 : Int} {x2 : Int} {x3 : Int} {x4 : Int} {x5 : Int} : ev 234 16 [(2, 130), (0, x1), (0, x2), (0, x3), (0, x4), (0, x5), (9, 0)] [] T V = if x2 < x1 then ev 234 54 [(2, 130), (0, x1), (0, x2), (0, x3), (0, x4), (0, x5), (9, 0)] [] T V else ev 234 21 [(2, 130), (0, x1), (0, x2), (0, x3), (0, x4), (0, x5), (9, 0)] [] T V := by
  refine Eq.trans (ev_ldi (show zcode 234 16 = some (4, 17, 2, 0, []) by decide +kernel) rfl) ?_
  refine Eq.trans (ev_ldi (show zcode 234 17 = some (4, 18, 1, 0, []) by decide +kernel) rfl) ?_
  exact ev_clt (show zcode 234 18 = some (48, 21, 54, 0, []) by decide +kernel)
theorem b234_21 {T : zT} {V : zM} {x1 : Int} {x2 : Int} {x3 : Int} {x4 : Int} {x5 : Int} : ev 234 21 [(2, 130), (0, x1), (0, x2), (0, x3), (0, x4), (0, x5), (9, 0)] [] T V = (zcall 150 [(0, x3), (0, 0), (0, 51)] T V).bind fun x => ev 234 28 [(2, 130), (0, x1), (0, x2), (0, x3), (0, x4), (0, x5), (9, 0)] (z_push x.1 []) x.2.1 x.2.2 := by
  refine Eq.trans (ev_ldi (show zcode 234 21 = some (4, 22, 3, 0, []) by decide +kernel) rfl) ?_
  refine Eq.trans (ev_ci (show zcode 234 22 = some (0, 23, 0, 0, []) by decide +kernel) (by decide)) ?_
  refine Eq.trans (ev_ci (show zcode 234 23 = some (0, 25, 0, 51, []) by decide +kernel) (by decide)) ?_
  exact ev_cstat (show zcode 234 25 = some (74, 28, 150, 3, []) by decide +kernel) (args := [(0, x3), (0, 0), (0, 51)]) (rest := []) rfl rfl (show 0 ≤ 8 by decide) ⟨by decide, show 3 ≤ 3 by decide⟩
theorem b234_28 {T : zT} {V : zM} {x1 : Int} {x2 : Int} {x3 : Int} {x4 : Int} {x5 : Int} {y0 : Int} : ev 234 28 [(2, 130), (0, x1), (0, x2), (0, x3), (0, x4), (0, x5), (9, 0)] [(0, y0)] T V = if y0 = 0 then ev 234 54 [(2, 130), (0, x1), (0, x2), (0, x3), (0, x4), (0, x5), (9, 0)] [] T V else ev 234 31 [(2, 130), (0, x1), (0, x2), (0, x3), (0, x4), (0, x5), (9, 0)] [] T V := by
  exact ev_eq (show zcode 234 28 = some (40, 31, 54, 0, []) by decide +kernel)
theorem b234_31 {T : zT} {V : zM} {x1 : Int} {x2 : Int} {x3 : Int} {x4 : Int} {x5 : Int} : ev 234 31 [(2, 130), (0, x1), (0, x2), (0, x3), (0, x4), (0, x5), (9, 0)] [] T V = (zcall 150 [(0, x4), (0, x3), (0, 51)] T V).bind fun x => ev 234 39 [(2, 130), (0, x1), (0, x2), (0, x3), (0, x4), (0, x5), (9, 0)] (z_push x.1 []) x.2.1 x.2.2 := by
  refine Eq.trans (ev_ldi (show zcode 234 31 = some (4, 33, 4, 0, []) by decide +kernel) rfl) ?_
  refine Eq.trans (ev_ldi (show zcode 234 33 = some (4, 34, 3, 0, []) by decide +kernel) rfl) ?_
  refine Eq.trans (ev_ci (show zcode 234 34 = some (0, 36, 0, 51, []) by decide +kernel) (by decide)) ?_
  exact ev_cstat (show zcode 234 36 = some (74, 39, 150, 3, []) by decide +kernel) (args := [(0, x4), (0, x3), (0, 51)]) (rest := []) rfl rfl (show 0 ≤ 8 by decide) ⟨by decide, show 3 ≤ 3 by decide⟩
theorem b234_39 {T : zT} {V : zM} {x1 : Int} {x2 : Int} {x3 : Int} {x4 : Int} {x5 : Int} {y0 : Int} : ev 234 39 [(2, 130), (0, x1), (0, x2), (0, x3), (0, x4), (0, x5), (9, 0)] [(0, y0)] T V = if y0 = 0 then ev 234 54 [(2, 130), (0, x1), (0, x2), (0, x3), (0, x4), (0, x5), (9, 0)] [] T V else ev 234 42 [(2, 130), (0, x1), (0, x2), (0, x3), (0, x4), (0, x5), (9, 0)] [] T V := by
  exact ev_eq (show zcode 234 39 = some (40, 42, 54, 0, []) by decide +kernel)
theorem b234_42 {T : zT} {V : zM} {x1 : Int} {x2 : Int} {x3 : Int} {x4 : Int} {x5 : Int} : ev 234 42 [(2, 130), (0, x1), (0, x2), (0, x3), (0, x4), (0, x5), (9, 0)] [] T V = (zcall 150 [(0, x5), (0, 0), (0, 999)] T V).bind fun x => ev 234 51 [(2, 130), (0, x1), (0, x2), (0, x3), (0, x4), (0, x5), (9, 0)] (z_push x.1 []) x.2.1 x.2.2 := by
  refine Eq.trans (ev_ldi (show zcode 234 42 = some (4, 44, 5, 0, []) by decide +kernel) rfl) ?_
  refine Eq.trans (ev_ci (show zcode 234 44 = some (0, 45, 0, 0, []) by decide +kernel) (by decide)) ?_
  refine Eq.trans (ev_ci (show zcode 234 45 = some (0, 48, 0, 999, []) by decide +kernel) (by decide)) ?_
  exact ev_cstat (show zcode 234 48 = some (74, 51, 150, 3, []) by decide +kernel) (args := [(0, x5), (0, 0), (0, 999)]) (rest := []) rfl rfl (show 0 ≤ 8 by decide) ⟨by decide, show 3 ≤ 3 by decide⟩
theorem b234_51 {T : zT} {V : zM} {x1 : Int} {x2 : Int} {x3 : Int} {x4 : Int} {x5 : Int} {y0 : Int} : ev 234 51 [(2, 130), (0, x1), (0, x2), (0, x3), (0, x4), (0, x5), (9, 0)] [(0, y0)] T V = if y0 = 0 then ev 234 54 [(2, 130), (0, x1), (0, x2), (0, x3), (0, x4), (0, x5), (9, 0)] [] T V else ev 234 60 [(2, 130), (0, x1), (0, x2), (0, x3), (0, x4), (0, x5), (9, 0)] [] T V := by
  exact ev_ne (show zcode 234 51 = some (41, 54, 60, 0, []) by decide +kernel)
theorem b234_54 {T : zT} {V : zM} {x1 : Int} {x2 : Int} {x3 : Int} {x4 : Int} {x5 : Int} (hS : zStr T)  : ev 234 54 [(2, 130), (0, x1), (0, x2), (0, x3), (0, x4), (0, x5), (9, 0)] [] T V = (zcall 151 [(2, 130), (0, (-1))] T V).bind fun x => ev 234 59 [(2, 130), (0, x1), (0, x2), (0, x3), (0, x4), (0, x5), (9, 0)] (z_push x.1 []) x.2.1 x.2.2 := by
  refine Eq.trans (ev_lda (show zcode 234 54 = some (6, 55, 0, 0, []) by decide +kernel) rfl (by decide)) ?_
  refine Eq.trans (ev_ci (show zcode 234 55 = some (0, 56, 0, (-1), []) by decide +kernel) (by decide)) ?_
  exact ev_cvirt (show zcode 234 56 = some (76, 59, 151, 2, [12]) by decide +kernel) (args := [(0, (-1))]) (rest := []) rfl (so130 hS) rfl (show 0 ≤ 8 by decide) ⟨by decide, show 2 ≤ 2 by decide⟩
theorem b234_59 {T : zT} {V : zM} {x1 : Int} {x2 : Int} {x3 : Int} {x4 : Int} {x5 : Int} {y0 : Int} : ev 234 59 [(2, 130), (0, x1), (0, x2), (0, x3), (0, x4), (0, x5), (9, 0)] [(0, y0)] T V = some ((0, y0), T, V) := by
  exact ev_ri (show zcode 234 59 = some (72, 60, 0, 0, []) by decide +kernel)
theorem b234_60 {T : zT} {V : zM} {x1 : Int} {x2 : Int} {x3 : Int} {x4 : Int} {x5 : Int} (hS : zStr T)  : ev 234 60 [(2, 130), (0, x1), (0, x2), (0, x3), (0, x4), (0, x5), (9, 0)] [] T V = if (V 132 426) = 10 then ev 234 77 [(2, 130), (0, x1), (0, x2), (0, x3), (0, x4), (0, x5), (0, (V 132 426))] [] T V else ev 234 84 [(2, 130), (0, x1), (0, x2), (0, x3), (0, x4), (0, x5), (0, (V 132 426))] [] T V := by
  refine Eq.trans (ev_lda (show zcode 234 60 = some (6, 61, 0, 0, []) by decide +kernel) rfl (by decide)) ?_
  refine Eq.trans (ev_gq (show zcode 234 61 = some (56, 64, 12, 4, []) by decide +kernel) (so130 hS) (sp130_4 hS)) ?_
  refine Eq.trans (ev_ci (show zcode 234 64 = some (0, 67, 0, 426, []) by decide +kernel) (by decide)) ?_
  refine Eq.trans (ev_ia (show zcode 234 67 = some (60, 68, 0, 0, []) by decide +kernel) (sa132 hS) (by decide)) ?_
  refine Eq.trans (ev_sti (show zcode 234 68 = some (7, 70, 6, 0, []) by decide +kernel) ⟨show 6 < 7 by decide, Or.inr (show ¬ (0 : Nat) = 1 by decide)⟩) ?_
  refine Eq.trans (ev_ldi (show zcode 234 70 = some (4, 72, 6, 0, []) by decide +kernel) rfl) ?_
  refine Eq.trans (ev_ci (show zcode 234 72 = some (0, 74, 0, 10, []) by decide +kernel) (by decide)) ?_
  exact ev_cne (show zcode 234 74 = some (47, 77, 84, 0, []) by decide +kernel)
theorem b234_77 {T : zT} {V : zM} {x1 : Int} {x2 : Int} {x3 : Int} {x4 : Int} {x5 : Int} {x6 : Int} (hS : zStr T)  : ev 234 77 [(2, 130), (0, x1), (0, x2), (0, x3), (0, x4), (0, x5), (0, x6)] [] T V = (zcall 151 [(2, 130), (0, (-5))] T V).bind fun x => ev 234 83 [(2, 130), (0, x1), (0, x2), (0, x3), (0, x4), (0, x5), (0, x6)] (z_push x.1 []) x.2.1 x.2.2 := by
  refine Eq.trans (ev_lda (show zcode 234 77 = some (6, 78, 0, 0, []) by decide +kernel) rfl (by decide)) ?_
  refine Eq.trans (ev_ci (show zcode 234 78 = some (0, 80, 0, (-5), []) by decide +kernel) (by decide)) ?_
  exact ev_cvirt (show zcode 234 80 = some (76, 83, 151, 2, [12]) by decide +kernel) (args := [(0, (-5))]) (rest := []) rfl (so130 hS) rfl (show 0 ≤ 8 by decide) ⟨by decide, show 2 ≤ 2 by decide⟩
theorem b234_83 {T : zT} {V : zM} {x1 : Int} {x2 : Int} {x3 : Int} {x4 : Int} {x5 : Int} {x6 : Int} {y0 : Int} : ev 234 83 [(2, 130), (0, x1), (0, x2), (0, x3), (0, x4), (0, x5), (0, x6)] [(0, y0)] T V = some ((0, y0), T, V) := by
  exact ev_ri (show zcode 234 83 = some (72, 84, 0, 0, []) by decide +kernel)
theorem b234_84 {T : zT} {V : zM} {x1 : Int} {x2 : Int} {x3 : Int} {x4 : Int} {x5 : Int} {x6 : Int} (hS : zStr T) (h1 : -2147483648 ≤ (5 * x6) ∧ (5 * x6) ≤ 2147483647) (h2 : -2147483648 ≤ (376 + (5 * x6)) ∧ (376 + (5 * x6)) ≤ 2147483647) (h3 : (0 : Int) ≤ (376 + (5 * x6)) ∧ (376 + (5 * x6)) < 428) (h4 : -2147483648 ≤ ((376 + (5 * x6)) + 1) ∧ ((376 + (5 * x6)) + 1) ≤ 2147483647) (h5 : (0 : Int) ≤ ((376 + (5 * x6)) + 1) ∧ ((376 + (5 * x6)) + 1) < 428) (h6 : -2147483648 ≤ ((376 + (5 * x6)) + 2) ∧ ((376 + (5 * x6)) + 2) ≤ 2147483647) (h7 : (0 : Int) ≤ ((376 + (5 * x6)) + 2) ∧ ((376 + (5 * x6)) + 2) < 428) (h8 : -2147483648 ≤ ((376 + (5 * x6)) + 3) ∧ ((376 + (5 * x6)) + 3) ≤ 2147483647) (h9 : (0 : Int) ≤ ((376 + (5 * x6)) + 3) ∧ ((376 + (5 * x6)) + 3) < 428) (h10 : -2147483648 ≤ ((376 + (5 * x6)) + 4) ∧ ((376 + (5 * x6)) + 4) ≤ 2147483647) (h11 : (0 : Int) ≤ ((376 + (5 * x6)) + 4) ∧ ((376 + (5 * x6)) + 4) < 428) (h12 : -2147483648 ≤ (((zwr (zwr (zwr (zwr (zwr V 132 (376 + (5 * x6)) x1) 132 ((376 + (5 * x6)) + 1) x2) 132 ((376 + (5 * x6)) + 2) x3) 132 ((376 + (5 * x6)) + 3) x4) 132 ((376 + (5 * x6)) + 4) x5) 132 426) + 1) ∧ (((zwr (zwr (zwr (zwr (zwr V 132 (376 + (5 * x6)) x1) 132 ((376 + (5 * x6)) + 1) x2) 132 ((376 + (5 * x6)) + 2) x3) 132 ((376 + (5 * x6)) + 3) x4) 132 ((376 + (5 * x6)) + 4) x5) 132 426) + 1) ≤ 2147483647) : ev 234 84 [(2, 130), (0, x1), (0, x2), (0, x3), (0, x4), (0, x5), (0, x6)] [] T V = (zcall 152 [(2, 130), (0, x6)] T (zwr (zwr (zwr (zwr (zwr (zwr V 132 (376 + (5 * x6)) x1) 132 ((376 + (5 * x6)) + 1) x2) 132 ((376 + (5 * x6)) + 2) x3) 132 ((376 + (5 * x6)) + 3) x4) 132 ((376 + (5 * x6)) + 4) x5) 132 426 (((zwr (zwr (zwr (zwr (zwr V 132 (376 + (5 * x6)) x1) 132 ((376 + (5 * x6)) + 1) x2) 132 ((376 + (5 * x6)) + 2) x3) 132 ((376 + (5 * x6)) + 3) x4) 132 ((376 + (5 * x6)) + 4) x5) 132 426) + 1))).bind fun x => ev 234 182 [(2, 130), (0, x1), (0, x2), (0, x3), (0, x4), (0, x5), (0, x6)] (z_push x.1 []) x.2.1 x.2.2 := by
  refine Eq.trans (ev_lda (show zcode 234 84 = some (6, 85, 0, 0, []) by decide +kernel) rfl (by decide)) ?_
  refine Eq.trans (ev_gq (show zcode 234 85 = some (56, 88, 12, 4, []) by decide +kernel) (so130 hS) (sp130_4 hS)) ?_
  refine Eq.trans (ev_ci (show zcode 234 88 = some (0, 91, 0, 376, []) by decide +kernel) (by decide)) ?_
  refine Eq.trans (ev_ci (show zcode 234 91 = some (0, 92, 0, 5, []) by decide +kernel) (by decide)) ?_
  refine Eq.trans (ev_ldi (show zcode 234 92 = some (4, 94, 6, 0, []) by decide +kernel) rfl) ?_
  refine Eq.trans (ev_mul (show zcode 234 94 = some (13, 95, 0, 0, []) by decide +kernel) h1) ?_
  refine Eq.trans (ev_add (show zcode 234 95 = some (11, 96, 0, 0, []) by decide +kernel) h2) ?_
  refine Eq.trans (ev_ldi (show zcode 234 96 = some (4, 97, 1, 0, []) by decide +kernel) rfl) ?_
  refine Eq.trans (ev_is (show zcode 234 97 = some (64, 98, 0, 0, []) by decide +kernel) (sa132 hS) h3) ?_
  refine Eq.trans (ev_lda (show zcode 234 98 = some (6, 99, 0, 0, []) by decide +kernel) rfl (by decide)) ?_
  refine Eq.trans (ev_gq (show zcode 234 99 = some (56, 102, 12, 4, []) by decide +kernel) (so130 hS) (sp130_4 hS)) ?_
  refine Eq.trans (ev_ci (show zcode 234 102 = some (0, 105, 0, 376, []) by decide +kernel) (by decide)) ?_
  refine Eq.trans (ev_ci (show zcode 234 105 = some (0, 106, 0, 5, []) by decide +kernel) (by decide)) ?_
  refine Eq.trans (ev_ldi (show zcode 234 106 = some (4, 108, 6, 0, []) by decide +kernel) rfl) ?_
  refine Eq.trans (ev_mul (show zcode 234 108 = some (13, 109, 0, 0, []) by decide +kernel) h1) ?_
  refine Eq.trans (ev_add (show zcode 234 109 = some (11, 110, 0, 0, []) by decide +kernel) h2) ?_
  refine Eq.trans (ev_ci (show zcode 234 110 = some (0, 111, 0, 1, []) by decide +kernel) (by decide)) ?_
  refine Eq.trans (ev_add (show zcode 234 111 = some (11, 112, 0, 0, []) by decide +kernel) h4) ?_
  refine Eq.trans (ev_ldi (show zcode 234 112 = some (4, 113, 2, 0, []) by decide +kernel) rfl) ?_
  refine Eq.trans (ev_is (show zcode 234 113 = some (64, 114, 0, 0, []) by decide +kernel) (sa132 hS) h5) ?_
  refine Eq.trans (ev_lda (show zcode 234 114 = some (6, 115, 0, 0, []) by decide +kernel) rfl (by decide)) ?_
  refine Eq.trans (ev_gq (show zcode 234 115 = some (56, 118, 12, 4, []) by decide +kernel) (so130 hS) (sp130_4 hS)) ?_
  refine Eq.trans (ev_ci (show zcode 234 118 = some (0, 121, 0, 376, []) by decide +kernel) (by decide)) ?_
  refine Eq.trans (ev_ci (show zcode 234 121 = some (0, 122, 0, 5, []) by decide +kernel) (by decide)) ?_
  refine Eq.trans (ev_ldi (show zcode 234 122 = some (4, 124, 6, 0, []) by decide +kernel) rfl) ?_
  refine Eq.trans (ev_mul (show zcode 234 124 = some (13, 125, 0, 0, []) by decide +kernel) h1) ?_
  refine Eq.trans (ev_add (show zcode 234 125 = some (11, 126, 0, 0, []) by decide +kernel) h2) ?_
  refine Eq.trans (ev_ci (show zcode 234 126 = some (0, 127, 0, 2, []) by decide +kernel) (by decide)) ?_
  refine Eq.trans (ev_add (show zcode 234 127 = some (11, 128, 0, 0, []) by decide +kernel) h6) ?_
  refine Eq.trans (ev_ldi (show zcode 234 128 = some (4, 129, 3, 0, []) by decide +kernel) rfl) ?_
  refine Eq.trans (ev_is (show zcode 234 129 = some (64, 130, 0, 0, []) by decide +kernel) (sa132 hS) h7) ?_
  refine Eq.trans (ev_lda (show zcode 234 130 = some (6, 131, 0, 0, []) by decide +kernel) rfl (by decide)) ?_
  refine Eq.trans (ev_gq (show zcode 234 131 = some (56, 134, 12, 4, []) by decide +kernel) (so130 hS) (sp130_4 hS)) ?_
  refine Eq.trans (ev_ci (show zcode 234 134 = some (0, 137, 0, 376, []) by decide +kernel) (by decide)) ?_
  refine Eq.trans (ev_ci (show zcode 234 137 = some (0, 138, 0, 5, []) by decide +kernel) (by decide)) ?_
  refine Eq.trans (ev_ldi (show zcode 234 138 = some (4, 140, 6, 0, []) by decide +kernel) rfl) ?_
  refine Eq.trans (ev_mul (show zcode 234 140 = some (13, 141, 0, 0, []) by decide +kernel) h1) ?_
  refine Eq.trans (ev_add (show zcode 234 141 = some (11, 142, 0, 0, []) by decide +kernel) h2) ?_
  refine Eq.trans (ev_ci (show zcode 234 142 = some (0, 143, 0, 3, []) by decide +kernel) (by decide)) ?_
  refine Eq.trans (ev_add (show zcode 234 143 = some (11, 144, 0, 0, []) by decide +kernel) h8) ?_
  refine Eq.trans (ev_ldi (show zcode 234 144 = some (4, 146, 4, 0, []) by decide +kernel) rfl) ?_
  refine Eq.trans (ev_is (show zcode 234 146 = some (64, 147, 0, 0, []) by decide +kernel) (sa132 hS) h9) ?_
  refine Eq.trans (ev_lda (show zcode 234 147 = some (6, 148, 0, 0, []) by decide +kernel) rfl (by decide)) ?_
  refine Eq.trans (ev_gq (show zcode 234 148 = some (56, 151, 12, 4, []) by decide +kernel) (so130 hS) (sp130_4 hS)) ?_
  refine Eq.trans (ev_ci (show zcode 234 151 = some (0, 154, 0, 376, []) by decide +kernel) (by decide)) ?_
  refine Eq.trans (ev_ci (show zcode 234 154 = some (0, 155, 0, 5, []) by decide +kernel) (by decide)) ?_
  refine Eq.trans (ev_ldi (show zcode 234 155 = some (4, 157, 6, 0, []) by decide +kernel) rfl) ?_
  refine Eq.trans (ev_mul (show zcode 234 157 = some (13, 158, 0, 0, []) by decide +kernel) h1) ?_
  refine Eq.trans (ev_add (show zcode 234 158 = some (11, 159, 0, 0, []) by decide +kernel) h2) ?_
  refine Eq.trans (ev_ci (show zcode 234 159 = some (0, 160, 0, 4, []) by decide +kernel) (by decide)) ?_
  refine Eq.trans (ev_add (show zcode 234 160 = some (11, 161, 0, 0, []) by decide +kernel) h10) ?_
  refine Eq.trans (ev_ldi (show zcode 234 161 = some (4, 163, 5, 0, []) by decide +kernel) rfl) ?_
  refine Eq.trans (ev_is (show zcode 234 163 = some (64, 164, 0, 0, []) by decide +kernel) (sa132 hS) h11) ?_
  refine Eq.trans (ev_lda (show zcode 234 164 = some (6, 165, 0, 0, []) by decide +kernel) rfl (by decide)) ?_
  refine Eq.trans (ev_gq (show zcode 234 165 = some (56, 168, 12, 4, []) by decide +kernel) (so130 hS) (sp130_4 hS)) ?_
  refine Eq.trans (ev_ci (show zcode 234 168 = some (0, 171, 0, 426, []) by decide +kernel) (by decide)) ?_
  refine Eq.trans (ev_dup2 (show zcode 234 171 = some (38, 172, 0, 0, []) by decide +kernel) (by decide)) ?_
  refine Eq.trans (ev_ia (show zcode 234 172 = some (60, 173, 0, 0, []) by decide +kernel) (sa132 hS) (by decide)) ?_
  refine Eq.trans (ev_ci (show zcode 234 173 = some (0, 174, 0, 1, []) by decide +kernel) (by decide)) ?_
  refine Eq.trans (ev_add (show zcode 234 174 = some (11, 175, 0, 0, []) by decide +kernel) h12) ?_
  refine Eq.trans (ev_is (show zcode 234 175 = some (64, 176, 0, 0, []) by decide +kernel) (sa132 hS) (by decide)) ?_
  refine Eq.trans (ev_lda (show zcode 234 176 = some (6, 177, 0, 0, []) by decide +kernel) rfl (by decide)) ?_
  refine Eq.trans (ev_ldi (show zcode 234 177 = some (4, 179, 6, 0, []) by decide +kernel) rfl) ?_
  exact ev_cvirt (show zcode 234 179 = some (76, 182, 152, 2, [12]) by decide +kernel) (args := [(0, x6)]) (rest := []) rfl (so130 hS) rfl (show 0 ≤ 8 by decide) ⟨by decide, show 2 ≤ 2 by decide⟩
theorem b234_182 {T : zT} {V : zM} {x1 : Int} {x2 : Int} {x3 : Int} {x4 : Int} {x5 : Int} {x6 : Int} {y0 : Int} : ev 234 182 [(2, 130), (0, x1), (0, x2), (0, x3), (0, x4), (0, x5), (0, x6)] [(0, y0)] T V = some ((0, y0), T, V) := by
  exact ev_ri (show zcode 234 182 = some (72, 183, 0, 0, []) by decide +kernel)
/-! 235: TwoWayWallModel.drop(I)I -/
theorem e235 {T : zT} {V : zM} {x1 : Int} : zcall 235 [(2, 130), (0, x1)] T V = ev 235 0 [(2, 130), (0, x1), (9, 0)] [] T V := rfl
theorem b235_0 {T : zT} {V : zM} {x1 : Int} (hS : zStr T) (h1 : -2147483648 ≤ ((V 132 426) - 1) ∧ ((V 132 426) - 1) ≤ 2147483647) : ev 235 0 [(2, 130), (0, x1), (9, 0)] [] T V = (zcall 150 [(0, x1), (0, 0), (0, ((V 132 426) - 1))] T V).bind fun x => ev 235 15 [(2, 130), (0, x1), (9, 0)] (z_push x.1 []) x.2.1 x.2.2 := by
  refine Eq.trans (ev_ldi (show zcode 235 0 = some (4, 1, 1, 0, []) by decide +kernel) rfl) ?_
  refine Eq.trans (ev_ci (show zcode 235 1 = some (0, 2, 0, 0, []) by decide +kernel) (by decide)) ?_
  refine Eq.trans (ev_lda (show zcode 235 2 = some (6, 3, 0, 0, []) by decide +kernel) rfl (by decide)) ?_
  refine Eq.trans (ev_gq (show zcode 235 3 = some (56, 6, 12, 4, []) by decide +kernel) (so130 hS) (sp130_4 hS)) ?_
  refine Eq.trans (ev_ci (show zcode 235 6 = some (0, 9, 0, 426, []) by decide +kernel) (by decide)) ?_
  refine Eq.trans (ev_ia (show zcode 235 9 = some (60, 10, 0, 0, []) by decide +kernel) (sa132 hS) (by decide)) ?_
  refine Eq.trans (ev_ci (show zcode 235 10 = some (0, 11, 0, 1, []) by decide +kernel) (by decide)) ?_
  refine Eq.trans (ev_sub (show zcode 235 11 = some (12, 12, 0, 0, []) by decide +kernel) h1) ?_
  exact ev_cstat (show zcode 235 12 = some (74, 15, 150, 3, []) by decide +kernel) (args := [(0, x1), (0, 0), (0, ((V 132 426) - 1))]) (rest := []) rfl rfl (show 0 ≤ 8 by decide) ⟨by decide, show 3 ≤ 3 by decide⟩
theorem b235_15 {T : zT} {V : zM} {x1 : Int} {y0 : Int} : ev 235 15 [(2, 130), (0, x1), (9, 0)] [(0, y0)] T V = if y0 = 0 then ev 235 18 [(2, 130), (0, x1), (9, 0)] [] T V else ev 235 25 [(2, 130), (0, x1), (9, 0)] [] T V := by
  exact ev_ne (show zcode 235 15 = some (41, 18, 25, 0, []) by decide +kernel)
theorem b235_18 {T : zT} {V : zM} {x1 : Int} (hS : zStr T)  : ev 235 18 [(2, 130), (0, x1), (9, 0)] [] T V = (zcall 151 [(2, 130), (0, (-2))] T V).bind fun x => ev 235 24 [(2, 130), (0, x1), (9, 0)] (z_push x.1 []) x.2.1 x.2.2 := by
  refine Eq.trans (ev_lda (show zcode 235 18 = some (6, 19, 0, 0, []) by decide +kernel) rfl (by decide)) ?_
  refine Eq.trans (ev_ci (show zcode 235 19 = some (0, 21, 0, (-2), []) by decide +kernel) (by decide)) ?_
  exact ev_cvirt (show zcode 235 21 = some (76, 24, 151, 2, [12]) by decide +kernel) (args := [(0, (-2))]) (rest := []) rfl (so130 hS) rfl (show 0 ≤ 8 by decide) ⟨by decide, show 2 ≤ 2 by decide⟩
theorem b235_24 {T : zT} {V : zM} {x1 : Int} {y0 : Int} : ev 235 24 [(2, 130), (0, x1), (9, 0)] [(0, y0)] T V = some ((0, y0), T, V) := by
  exact ev_ri (show zcode 235 24 = some (72, 25, 0, 0, []) by decide +kernel)
theorem b235_25 {T : zT} {V : zM} {x1 : Int} (hS : zStr T) (h1 : -2147483648 ≤ ((V 132 426) - 1) ∧ ((V 132 426) - 1) ≤ 2147483647) (h2 : -2147483648 ≤ (5 * x1) ∧ (5 * x1) ≤ 2147483647) : ev 235 25 [(2, 130), (0, x1), (9, 0)] [] T V = ev 235 41 [(2, 130), (0, x1), (0, (5 * x1))] [] T (zwr V 132 426 ((V 132 426) - 1)) := by
  refine Eq.trans (ev_lda (show zcode 235 25 = some (6, 26, 0, 0, []) by decide +kernel) rfl (by decide)) ?_
  refine Eq.trans (ev_gq (show zcode 235 26 = some (56, 29, 12, 4, []) by decide +kernel) (so130 hS) (sp130_4 hS)) ?_
  refine Eq.trans (ev_ci (show zcode 235 29 = some (0, 32, 0, 426, []) by decide +kernel) (by decide)) ?_
  refine Eq.trans (ev_dup2 (show zcode 235 32 = some (38, 33, 0, 0, []) by decide +kernel) (by decide)) ?_
  refine Eq.trans (ev_ia (show zcode 235 33 = some (60, 34, 0, 0, []) by decide +kernel) (sa132 hS) (by decide)) ?_
  refine Eq.trans (ev_ci (show zcode 235 34 = some (0, 35, 0, 1, []) by decide +kernel) (by decide)) ?_
  refine Eq.trans (ev_sub (show zcode 235 35 = some (12, 36, 0, 0, []) by decide +kernel) h1) ?_
  refine Eq.trans (ev_is (show zcode 235 36 = some (64, 37, 0, 0, []) by decide +kernel) (sa132 hS) (by decide)) ?_
  refine Eq.trans (ev_ci (show zcode 235 37 = some (0, 38, 0, 5, []) by decide +kernel) (by decide)) ?_
  refine Eq.trans (ev_ldi (show zcode 235 38 = some (4, 39, 1, 0, []) by decide +kernel) rfl) ?_
  refine Eq.trans (ev_mul (show zcode 235 39 = some (13, 40, 0, 0, []) by decide +kernel) h2) ?_
  exact ev_sti (show zcode 235 40 = some (7, 41, 2, 0, []) by decide +kernel) ⟨show 2 < 3 by decide, Or.inr (show ¬ (0 : Nat) = 1 by decide)⟩
theorem b235_41 {T : zT} {V : zM} {x1 : Int} {x2 : Int} (hS : zStr T) (h1 : -2147483648 ≤ (5 * (V 132 426)) ∧ (5 * (V 132 426)) ≤ 2147483647) : ev 235 41 [(2, 130), (0, x1), (0, x2)] [] T V = if (5 * (V 132 426)) ≤ x2 then ev 235 83 [(2, 130), (0, x1), (0, x2)] [] T V else ev 235 55 [(2, 130), (0, x1), (0, x2)] [] T V := by
  refine Eq.trans (ev_ldi (show zcode 235 41 = some (4, 42, 2, 0, []) by decide +kernel) rfl) ?_
  refine Eq.trans (ev_ci (show zcode 235 42 = some (0, 43, 0, 5, []) by decide +kernel) (by decide)) ?_
  refine Eq.trans (ev_lda (show zcode 235 43 = some (6, 44, 0, 0, []) by decide +kernel) rfl (by decide)) ?_
  refine Eq.trans (ev_gq (show zcode 235 44 = some (56, 47, 12, 4, []) by decide +kernel) (so130 hS) (sp130_4 hS)) ?_
  refine Eq.trans (ev_ci (show zcode 235 47 = some (0, 50, 0, 426, []) by decide +kernel) (by decide)) ?_
  refine Eq.trans (ev_ia (show zcode 235 50 = some (60, 51, 0, 0, []) by decide +kernel) (sa132 hS) (by decide)) ?_
  refine Eq.trans (ev_mul (show zcode 235 51 = some (13, 52, 0, 0, []) by decide +kernel) h1) ?_
  exact ev_cge (show zcode 235 52 = some (49, 55, 83, 0, []) by decide +kernel)
theorem b235_55 {T : zT} {V : zM} {x1 : Int} {x2 : Int} (hS : zStr T) (h1 : -2147483648 ≤ (376 + x2) ∧ (376 + x2) ≤ 2147483647) (h2 : -2147483648 ≤ ((376 + x2) + 5) ∧ ((376 + x2) + 5) ≤ 2147483647) (h3 : (0 : Int) ≤ ((376 + x2) + 5) ∧ ((376 + x2) + 5) < 428) (h4 : (0 : Int) ≤ (376 + x2) ∧ (376 + x2) < 428) (h5 : -2147483648 ≤ (x2 + 1) ∧ (x2 + 1) ≤ 2147483647) : ev 235 55 [(2, 130), (0, x1), (0, x2)] [] T V = ev 235 41 [(2, 130), (0, x1), (0, (x2 + 1))] [] T (zwr V 132 (376 + x2) (V 132 ((376 + x2) + 5))) := by
  refine Eq.trans (ev_lda (show zcode 235 55 = some (6, 56, 0, 0, []) by decide +kernel) rfl (by decide)) ?_
  refine Eq.trans (ev_gq (show zcode 235 56 = some (56, 59, 12, 4, []) by decide +kernel) (so130 hS) (sp130_4 hS)) ?_
  refine Eq.trans (ev_ci (show zcode 235 59 = some (0, 62, 0, 376, []) by decide +kernel) (by decide)) ?_
  refine Eq.trans (ev_ldi (show zcode 235 62 = some (4, 63, 2, 0, []) by decide +kernel) rfl) ?_
  refine Eq.trans (ev_add (show zcode 235 63 = some (11, 64, 0, 0, []) by decide +kernel) h1) ?_
  refine Eq.trans (ev_lda (show zcode 235 64 = some (6, 65, 0, 0, []) by decide +kernel) rfl (by decide)) ?_
  refine Eq.trans (ev_gq (show zcode 235 65 = some (56, 68, 12, 4, []) by decide +kernel) (so130 hS) (sp130_4 hS)) ?_
  refine Eq.trans (ev_ci (show zcode 235 68 = some (0, 71, 0, 376, []) by decide +kernel) (by decide)) ?_
  refine Eq.trans (ev_ldi (show zcode 235 71 = some (4, 72, 2, 0, []) by decide +kernel) rfl) ?_
  refine Eq.trans (ev_add (show zcode 235 72 = some (11, 73, 0, 0, []) by decide +kernel) h1) ?_
  refine Eq.trans (ev_ci (show zcode 235 73 = some (0, 74, 0, 5, []) by decide +kernel) (by decide)) ?_
  refine Eq.trans (ev_add (show zcode 235 74 = some (11, 75, 0, 0, []) by decide +kernel) h2) ?_
  refine Eq.trans (ev_ia (show zcode 235 75 = some (60, 76, 0, 0, []) by decide +kernel) (sa132 hS) h3) ?_
  refine Eq.trans (ev_is (show zcode 235 76 = some (64, 77, 0, 0, []) by decide +kernel) (sa132 hS) h4) ?_
  refine Eq.trans (ev_inc (show zcode 235 77 = some (10, 80, 2, 1, []) by decide +kernel) rfl h5 (Or.inr (show ¬ (0 : Nat) = 1 by decide))) ?_
  exact ev_goto (show zcode 235 80 = some (53, 83, 41, 0, []) by decide +kernel)
theorem b235_83 {T : zT} {V : zM} {x1 : Int} {x2 : Int} (hS : zStr T)  : ev 235 83 [(2, 130), (0, x1), (0, x2)] [] T V = (zcall 152 [(2, 130), (0, (V 132 426))] T V).bind fun x => ev 235 95 [(2, 130), (0, x1), (0, x2)] (z_push x.1 []) x.2.1 x.2.2 := by
  refine Eq.trans (ev_lda (show zcode 235 83 = some (6, 84, 0, 0, []) by decide +kernel) rfl (by decide)) ?_
  refine Eq.trans (ev_lda (show zcode 235 84 = some (6, 85, 0, 0, []) by decide +kernel) rfl (by decide)) ?_
  refine Eq.trans (ev_gq (show zcode 235 85 = some (56, 88, 12, 4, []) by decide +kernel) (so130 hS) (sp130_4 hS)) ?_
  refine Eq.trans (ev_ci (show zcode 235 88 = some (0, 91, 0, 426, []) by decide +kernel) (by decide)) ?_
  refine Eq.trans (ev_ia (show zcode 235 91 = some (60, 92, 0, 0, []) by decide +kernel) (sa132 hS) (by decide)) ?_
  exact ev_cvirt (show zcode 235 92 = some (76, 95, 152, 2, [12]) by decide +kernel) (args := [(0, (V 132 426))]) (rest := []) rfl (so130 hS) rfl (show 0 ≤ 8 by decide) ⟨by decide, show 2 ≤ 2 by decide⟩
theorem b235_95 {T : zT} {V : zM} {x1 : Int} {x2 : Int} {y0 : Int} : ev 235 95 [(2, 130), (0, x1), (0, x2)] [(0, y0)] T V = some ((0, y0), T, V) := by
  exact ev_ri (show zcode 235 95 = some (72, 96, 0, 0, []) by decide +kernel)
/-! 236: TwoWayWallModel.letting(I)I -/
theorem e236 {T : zT} {V : zM} {x1 : Int} : zcall 236 [(2, 130), (0, x1)] T V = ev 236 0 [(2, 130), (0, x1)] [] T V := rfl
theorem b236_0 {T : zT} {V : zM} {x1 : Int} (hS : zStr T) (h1 : (0 : Int) ≤ (V 132 426) ∧ (V 132 426) ≤ 30) (h2 : -2147483648 ≤ (((2 : Int) ^ ((V 132 426)).toNat) - 1) ∧ (((2 : Int) ^ ((V 132 426)).toNat) - 1) ≤ 2147483647) : ev 236 0 [(2, 130), (0, x1)] [] T V = (zcall 150 [(0, x1), (0, 0), (0, (((2 : Int) ^ ((V 132 426)).toNat) - 1))] T V).bind fun x => ev 236 17 [(2, 130), (0, x1)] (z_push x.1 []) x.2.1 x.2.2 := by
  refine Eq.trans (ev_ldi (show zcode 236 0 = some (4, 1, 1, 0, []) by decide +kernel) rfl) ?_
  refine Eq.trans (ev_ci (show zcode 236 1 = some (0, 2, 0, 0, []) by decide +kernel) (by decide)) ?_
  refine Eq.trans (ev_ci (show zcode 236 2 = some (0, 3, 0, 1, []) by decide +kernel) (by decide)) ?_
  refine Eq.trans (ev_lda (show zcode 236 3 = some (6, 4, 0, 0, []) by decide +kernel) rfl (by decide)) ?_
  refine Eq.trans (ev_gq (show zcode 236 4 = some (56, 7, 12, 4, []) by decide +kernel) (so130 hS) (sp130_4 hS)) ?_
  refine Eq.trans (ev_ci (show zcode 236 7 = some (0, 10, 0, 426, []) by decide +kernel) (by decide)) ?_
  refine Eq.trans (ev_ia (show zcode 236 10 = some (60, 11, 0, 0, []) by decide +kernel) (sa132 hS) (by decide)) ?_
  refine Eq.trans (ev_shl1 (show zcode 236 11 = some (20, 12, 0, 0, []) by decide +kernel) h1) ?_
  refine Eq.trans (ev_ci (show zcode 236 12 = some (0, 13, 0, 1, []) by decide +kernel) (by decide)) ?_
  refine Eq.trans (ev_sub (show zcode 236 13 = some (12, 14, 0, 0, []) by decide +kernel) h2) ?_
  exact ev_cstat (show zcode 236 14 = some (74, 17, 150, 3, []) by decide +kernel) (args := [(0, x1), (0, 0), (0, (((2 : Int) ^ ((V 132 426)).toNat) - 1))]) (rest := []) rfl rfl (show 0 ≤ 8 by decide) ⟨by decide, show 3 ≤ 3 by decide⟩
theorem b236_17 {T : zT} {V : zM} {x1 : Int} {y0 : Int} : ev 236 17 [(2, 130), (0, x1)] [(0, y0)] T V = if y0 = 0 then ev 236 28 [(2, 130), (0, x1)] [] T V else ev 236 20 [(2, 130), (0, x1)] [] T V := by
  exact ev_eq (show zcode 236 17 = some (40, 20, 28, 0, []) by decide +kernel)
theorem b236_20 {T : zT} {V : zM} {x1 : Int} (hS : zStr T)  : ev 236 20 [(2, 130), (0, x1)] [] T V = (zcall 237 [(2, 130), (0, x1)] T V).bind fun x => ev 236 25 [(2, 130), (0, x1)] (z_push x.1 []) x.2.1 x.2.2 := by
  refine Eq.trans (ev_lda (show zcode 236 20 = some (6, 21, 0, 0, []) by decide +kernel) rfl (by decide)) ?_
  refine Eq.trans (ev_ldi (show zcode 236 21 = some (4, 22, 1, 0, []) by decide +kernel) rfl) ?_
  exact ev_cvirt (show zcode 236 22 = some (76, 25, 237, 2, [12]) by decide +kernel) (args := [(0, x1)]) (rest := []) rfl (so130 hS) rfl (show 0 ≤ 8 by decide) ⟨by decide, show 2 ≤ 5 by decide⟩
theorem b236_25 {T : zT} {V : zM} {x1 : Int} {y0 : Int} : ev 236 25 [(2, 130), (0, x1)] [(0, y0)] T V = ev 236 29 [(2, 130), (0, x1)] [(0, y0)] T V := by
  exact ev_goto (show zcode 236 25 = some (53, 28, 29, 0, []) by decide +kernel)
theorem b236_28 {T : zT} {V : zM} {x1 : Int} : ev 236 28 [(2, 130), (0, x1)] [] T V = ev 236 29 [(2, 130), (0, x1)] [(0, (-1))] T V := by
  exact ev_ci (show zcode 236 28 = some (0, 29, 0, (-1), []) by decide +kernel) (by decide)
theorem b236_29 {T : zT} {V : zM} {x1 : Int} {y0 : Int} : ev 236 29 [(2, 130), (0, x1)] [(0, y0)] T V = some ((0, y0), T, V) := by
  exact ev_ri (show zcode 236 29 = some (72, 30, 0, 0, []) by decide +kernel)
/-! 237: TwoWayWallModel.rentOf(I)I -/
theorem e237 {T : zT} {V : zM} {x1 : Int} : zcall 237 [(2, 130), (0, x1)] T V = ev 237 0 [(2, 130), (0, x1), (9, 0), (9, 0), (9, 0)] [] T V := rfl
theorem b237_0 {T : zT} {V : zM} {x1 : Int} : ev 237 0 [(2, 130), (0, x1), (9, 0), (9, 0), (9, 0)] [] T V = ev 237 4 [(2, 130), (0, x1), (0, 0), (0, 0), (9, 0)] [] T V := by
  refine Eq.trans (ev_ci (show zcode 237 0 = some (0, 1, 0, 0, []) by decide +kernel) (by decide)) ?_
  refine Eq.trans (ev_sti (show zcode 237 1 = some (7, 2, 2, 0, []) by decide +kernel) ⟨show 2 < 5 by decide, Or.inr (show ¬ (0 : Nat) = 1 by decide)⟩) ?_
  refine Eq.trans (ev_ci (show zcode 237 2 = some (0, 3, 0, 0, []) by decide +kernel) (by decide)) ?_
  exact ev_sti (show zcode 237 3 = some (7, 4, 3, 0, []) by decide +kernel) ⟨show 3 < 5 by decide, Or.inr (show ¬ (0 : Nat) = 1 by decide)⟩
theorem b237_4 {T : zT} {V : zM} {x1 : Int} {x2 : Int} {x3 : Int} {v4 : zV} (hS : zStr T)  : ev 237 4 [(2, 130), (0, x1), (0, x2), (0, x3), v4] [] T V = if (V 132 426) ≤ x3 then ev 237 79 [(2, 130), (0, x1), (0, x2), (0, x3), v4] [] T V else ev 237 16 [(2, 130), (0, x1), (0, x2), (0, x3), v4] [] T V := by
  refine Eq.trans (ev_ldi (show zcode 237 4 = some (4, 5, 3, 0, []) by decide +kernel) rfl) ?_
  refine Eq.trans (ev_lda (show zcode 237 5 = some (6, 6, 0, 0, []) by decide +kernel) rfl (by decide)) ?_
  refine Eq.trans (ev_gq (show zcode 237 6 = some (56, 9, 12, 4, []) by decide +kernel) (so130 hS) (sp130_4 hS)) ?_
  refine Eq.trans (ev_ci (show zcode 237 9 = some (0, 12, 0, 426, []) by decide +kernel) (by decide)) ?_
  refine Eq.trans (ev_ia (show zcode 237 12 = some (60, 13, 0, 0, []) by decide +kernel) (sa132 hS) (by decide)) ?_
  exact ev_cge (show zcode 237 13 = some (49, 16, 79, 0, []) by decide +kernel)
theorem b237_16 {T : zT} {V : zM} {x1 : Int} {x2 : Int} {x3 : Int} {v4 : zV} (h1 : (0 : Int) ≤ x3 ∧ x3 < 32) : ev 237 16 [(2, 130), (0, x1), (0, x2), (0, x3), v4] [] T V = if (zand (x1 / 2 ^ (x3).toNat) 1) = 0 then ev 237 24 [(2, 130), (0, x1), (0, x2), (0, x3), v4] [] T V else ev 237 27 [(2, 130), (0, x1), (0, x2), (0, x3), v4] [] T V := by
  refine Eq.trans (ev_ldi (show zcode 237 16 = some (4, 17, 1, 0, []) by decide +kernel) rfl) ?_
  refine Eq.trans (ev_ldi (show zcode 237 17 = some (4, 18, 3, 0, []) by decide +kernel) rfl) ?_
  refine Eq.trans (ev_shr (show zcode 237 18 = some (21, 19, 0, 0, []) by decide +kernel) h1) ?_
  refine Eq.trans (ev_ci (show zcode 237 19 = some (0, 20, 0, 1, []) by decide +kernel) (by decide)) ?_
  refine Eq.trans (ev_and (show zcode 237 20 = some (14, 21, 0, 0, []) by decide +kernel)) ?_
  exact ev_ne (show zcode 237 21 = some (41, 24, 27, 0, []) by decide +kernel)
theorem b237_24 {T : zT} {V : zM} {x1 : Int} {x2 : Int} {x3 : Int} {v4 : zV} : ev 237 24 [(2, 130), (0, x1), (0, x2), (0, x3), v4] [] T V = ev 237 73 [(2, 130), (0, x1), (0, x2), (0, x3), v4] [] T V := by
  exact ev_goto (show zcode 237 24 = some (53, 27, 73, 0, []) by decide +kernel)
theorem b237_27 {T : zT} {V : zM} {x1 : Int} {x2 : Int} {x3 : Int} {v4 : zV} (hS : zStr T)  : ev 237 27 [(2, 130), (0, x1), (0, x2), (0, x3), v4] [] T V = (zcall 238 [(2, 130), (0, x3), (0, 4)] T V).bind fun x => ev 237 34 [(2, 130), (0, x1), (0, x2), (0, x3), v4] (z_push x.1 [(0, x2)]) x.2.1 x.2.2 := by
  refine Eq.trans (ev_ldi (show zcode 237 27 = some (4, 28, 2, 0, []) by decide +kernel) rfl) ?_
  refine Eq.trans (ev_lda (show zcode 237 28 = some (6, 29, 0, 0, []) by decide +kernel) rfl (by decide)) ?_
  refine Eq.trans (ev_ldi (show zcode 237 29 = some (4, 30, 3, 0, []) by decide +kernel) rfl) ?_
  refine Eq.trans (ev_ci (show zcode 237 30 = some (0, 31, 0, 4, []) by decide +kernel) (by decide)) ?_
  exact ev_cvirt (show zcode 237 31 = some (76, 34, 238, 3, [12]) by decide +kernel) (args := [(0, x3), (0, 4)]) (rest := [(0, x2)]) rfl (so130 hS) rfl (show 1 ≤ 8 by decide) ⟨by decide, show 3 ≤ 3 by decide⟩
theorem b237_34 {T : zT} {V : zM} {x1 : Int} {x2 : Int} {x3 : Int} {v4 : zV} {y0 : Int} {y1 : Int} (h1 : -2147483648 ≤ (y0 + y1) ∧ (y0 + y1) ≤ 2147483647) : ev 237 34 [(2, 130), (0, x1), (0, x2), (0, x3), v4] [(0, y1), (0, y0)] T V = ev 237 39 [(2, 130), (0, x1), (0, (y0 + y1)), (0, x3), (0, 0)] [] T V := by
  refine Eq.trans (ev_add (show zcode 237 34 = some (11, 35, 0, 0, []) by decide +kernel) h1) ?_
  refine Eq.trans (ev_sti (show zcode 237 35 = some (7, 36, 2, 0, []) by decide +kernel) ⟨show 2 < 5 by decide, Or.inr (show ¬ (0 : Nat) = 1 by decide)⟩) ?_
  refine Eq.trans (ev_ci (show zcode 237 36 = some (0, 37, 0, 0, []) by decide +kernel) (by decide)) ?_
  exact ev_sti (show zcode 237 37 = some (7, 39, 4, 0, []) by decide +kernel) ⟨show 4 < 5 by decide, Or.inr (show ¬ (0 : Nat) = 1 by decide)⟩
theorem b237_39 {T : zT} {V : zM} {x1 : Int} {x2 : Int} {x3 : Int} {x4 : Int} : ev 237 39 [(2, 130), (0, x1), (0, x2), (0, x3), (0, x4)] [] T V = if x3 ≤ x4 then ev 237 73 [(2, 130), (0, x1), (0, x2), (0, x3), (0, x4)] [] T V else ev 237 45 [(2, 130), (0, x1), (0, x2), (0, x3), (0, x4)] [] T V := by
  refine Eq.trans (ev_ldi (show zcode 237 39 = some (4, 41, 4, 0, []) by decide +kernel) rfl) ?_
  refine Eq.trans (ev_ldi (show zcode 237 41 = some (4, 42, 3, 0, []) by decide +kernel) rfl) ?_
  exact ev_cge (show zcode 237 42 = some (49, 45, 73, 0, []) by decide +kernel)
theorem b237_45 {T : zT} {V : zM} {x1 : Int} {x2 : Int} {x3 : Int} {x4 : Int} (h1 : (0 : Int) ≤ x4 ∧ x4 < 32) : ev 237 45 [(2, 130), (0, x1), (0, x2), (0, x3), (0, x4)] [] T V = if (zand (x1 / 2 ^ (x4).toNat) 1) = 1 then ev 237 55 [(2, 130), (0, x1), (0, x2), (0, x3), (0, x4)] [] T V else ev 237 67 [(2, 130), (0, x1), (0, x2), (0, x3), (0, x4)] [] T V := by
  refine Eq.trans (ev_ldi (show zcode 237 45 = some (4, 46, 1, 0, []) by decide +kernel) rfl) ?_
  refine Eq.trans (ev_ldi (show zcode 237 46 = some (4, 48, 4, 0, []) by decide +kernel) rfl) ?_
  refine Eq.trans (ev_shr (show zcode 237 48 = some (21, 49, 0, 0, []) by decide +kernel) h1) ?_
  refine Eq.trans (ev_ci (show zcode 237 49 = some (0, 50, 0, 1, []) by decide +kernel) (by decide)) ?_
  refine Eq.trans (ev_and (show zcode 237 50 = some (14, 51, 0, 0, []) by decide +kernel)) ?_
  refine Eq.trans (ev_ci (show zcode 237 51 = some (0, 52, 0, 1, []) by decide +kernel) (by decide)) ?_
  exact ev_cne (show zcode 237 52 = some (47, 55, 67, 0, []) by decide +kernel)
theorem b237_55 {T : zT} {V : zM} {x1 : Int} {x2 : Int} {x3 : Int} {x4 : Int} (hS : zStr T)  : ev 237 55 [(2, 130), (0, x1), (0, x2), (0, x3), (0, x4)] [] T V = (zcall 239 [(2, 130), (0, x3), (0, x4)] T V).bind fun x => ev 237 62 [(2, 130), (0, x1), (0, x2), (0, x3), (0, x4)] (z_push x.1 []) x.2.1 x.2.2 := by
  refine Eq.trans (ev_lda (show zcode 237 55 = some (6, 56, 0, 0, []) by decide +kernel) rfl (by decide)) ?_
  refine Eq.trans (ev_ldi (show zcode 237 56 = some (4, 57, 3, 0, []) by decide +kernel) rfl) ?_
  refine Eq.trans (ev_ldi (show zcode 237 57 = some (4, 59, 4, 0, []) by decide +kernel) rfl) ?_
  exact ev_cvirt (show zcode 237 59 = some (76, 62, 239, 3, [12]) by decide +kernel) (args := [(0, x3), (0, x4)]) (rest := []) rfl (so130 hS) rfl (show 0 ≤ 8 by decide) ⟨by decide, show 3 ≤ 3 by decide⟩
theorem b237_62 {T : zT} {V : zM} {x1 : Int} {x2 : Int} {x3 : Int} {x4 : Int} {y0 : Int} : ev 237 62 [(2, 130), (0, x1), (0, x2), (0, x3), (0, x4)] [(0, y0)] T V = if y0 = 0 then ev 237 67 [(2, 130), (0, x1), (0, x2), (0, x3), (0, x4)] [] T V else ev 237 65 [(2, 130), (0, x1), (0, x2), (0, x3), (0, x4)] [] T V := by
  exact ev_eq (show zcode 237 62 = some (40, 65, 67, 0, []) by decide +kernel)
theorem b237_65 {T : zT} {V : zM} {x1 : Int} {x2 : Int} {x3 : Int} {x4 : Int} : ev 237 65 [(2, 130), (0, x1), (0, x2), (0, x3), (0, x4)] [] T V = some ((0, (-1)), T, V) := by
  refine Eq.trans (ev_ci (show zcode 237 65 = some (0, 66, 0, (-1), []) by decide +kernel) (by decide)) ?_
  exact ev_ri (show zcode 237 66 = some (72, 67, 0, 0, []) by decide +kernel)
theorem b237_67 {T : zT} {V : zM} {x1 : Int} {x2 : Int} {x3 : Int} {x4 : Int} (h1 : -2147483648 ≤ (x4 + 1) ∧ (x4 + 1) ≤ 2147483647) : ev 237 67 [(2, 130), (0, x1), (0, x2), (0, x3), (0, x4)] [] T V = ev 237 39 [(2, 130), (0, x1), (0, x2), (0, x3), (0, (x4 + 1))] [] T V := by
  refine Eq.trans (ev_inc (show zcode 237 67 = some (10, 70, 4, 1, []) by decide +kernel) rfl h1 (Or.inr (show ¬ (0 : Nat) = 1 by decide))) ?_
  exact ev_goto (show zcode 237 70 = some (53, 73, 39, 0, []) by decide +kernel)
theorem b237_73 {T : zT} {V : zM} {x1 : Int} {x2 : Int} {x3 : Int} {v4 : zV} (h1 : -2147483648 ≤ (x3 + 1) ∧ (x3 + 1) ≤ 2147483647) : ev 237 73 [(2, 130), (0, x1), (0, x2), (0, x3), v4] [] T V = ev 237 4 [(2, 130), (0, x1), (0, x2), (0, (x3 + 1)), v4] [] T V := by
  refine Eq.trans (ev_inc (show zcode 237 73 = some (10, 76, 3, 1, []) by decide +kernel) rfl h1 (Or.inr (show ¬ (0 : Nat) = 1 by decide))) ?_
  exact ev_goto (show zcode 237 76 = some (53, 79, 4, 0, []) by decide +kernel)
theorem b237_79 {T : zT} {V : zM} {x1 : Int} {x2 : Int} {x3 : Int} {v4 : zV} : ev 237 79 [(2, 130), (0, x1), (0, x2), (0, x3), v4] [] T V = some ((0, x2), T, V) := by
  refine Eq.trans (ev_ldi (show zcode 237 79 = some (4, 80, 2, 0, []) by decide +kernel) rfl) ?_
  exact ev_ri (show zcode 237 80 = some (72, 81, 0, 0, []) by decide +kernel)
/-! 238: TwoWayWallModel.yardOf(II)I -/
theorem e238 {T : zT} {V : zM} {x1 : Int} {x2 : Int} : zcall 238 [(2, 130), (0, x1), (0, x2)] T V = ev 238 0 [(2, 130), (0, x1), (0, x2)] [] T V := rfl
theorem b238_0 {T : zT} {V : zM} {x1 : Int} {x2 : Int} (hS : zStr T) (h1 : -2147483648 ≤ (5 * x1) ∧ (5 * x1) ≤ 2147483647) (h2 : -2147483648 ≤ (376 + (5 * x1)) ∧ (376 + (5 * x1)) ≤ 2147483647) (h3 : -2147483648 ≤ ((376 + (5 * x1)) + x2) ∧ ((376 + (5 * x1)) + x2) ≤ 2147483647) (h4 : (0 : Int) ≤ ((376 + (5 * x1)) + x2) ∧ ((376 + (5 * x1)) + x2) < 428) : ev 238 0 [(2, 130), (0, x1), (0, x2)] [] T V = some ((0, (V 132 ((376 + (5 * x1)) + x2))), T, V) := by
  refine Eq.trans (ev_lda (show zcode 238 0 = some (6, 1, 0, 0, []) by decide +kernel) rfl (by decide)) ?_
  refine Eq.trans (ev_gq (show zcode 238 1 = some (56, 4, 12, 4, []) by decide +kernel) (so130 hS) (sp130_4 hS)) ?_
  refine Eq.trans (ev_ci (show zcode 238 4 = some (0, 7, 0, 376, []) by decide +kernel) (by decide)) ?_
  refine Eq.trans (ev_ci (show zcode 238 7 = some (0, 8, 0, 5, []) by decide +kernel) (by decide)) ?_
  refine Eq.trans (ev_ldi (show zcode 238 8 = some (4, 9, 1, 0, []) by decide +kernel) rfl) ?_
  refine Eq.trans (ev_mul (show zcode 238 9 = some (13, 10, 0, 0, []) by decide +kernel) h1) ?_
  refine Eq.trans (ev_add (show zcode 238 10 = some (11, 11, 0, 0, []) by decide +kernel) h2) ?_
  refine Eq.trans (ev_ldi (show zcode 238 11 = some (4, 12, 2, 0, []) by decide +kernel) rfl) ?_
  refine Eq.trans (ev_add (show zcode 238 12 = some (11, 13, 0, 0, []) by decide +kernel) h3) ?_
  refine Eq.trans (ev_ia (show zcode 238 13 = some (60, 14, 0, 0, []) by decide +kernel) (sa132 hS) h4) ?_
  exact ev_ri (show zcode 238 14 = some (72, 15, 0, 0, []) by decide +kernel)
/-! 239: TwoWayWallModel.meet(II)Z -/
theorem e239 {T : zT} {V : zM} {x1 : Int} {x2 : Int} : zcall 239 [(2, 130), (0, x1), (0, x2)] T V = ev 239 0 [(2, 130), (0, x1), (0, x2)] [] T V := rfl
theorem b239_0 {T : zT} {V : zM} {x1 : Int} {x2 : Int} (hS : zStr T)  : ev 239 0 [(2, 130), (0, x1), (0, x2)] [] T V = (zcall 238 [(2, 130), (0, x1), (0, 0)] T V).bind fun x => ev 239 6 [(2, 130), (0, x1), (0, x2)] (z_push x.1 []) x.2.1 x.2.2 := by
  refine Eq.trans (ev_lda (show zcode 239 0 = some (6, 1, 0, 0, []) by decide +kernel) rfl (by decide)) ?_
  refine Eq.trans (ev_ldi (show zcode 239 1 = some (4, 2, 1, 0, []) by decide +kernel) rfl) ?_
  refine Eq.trans (ev_ci (show zcode 239 2 = some (0, 3, 0, 0, []) by decide +kernel) (by decide)) ?_
  exact ev_cvirt (show zcode 239 3 = some (76, 6, 238, 3, [12]) by decide +kernel) (args := [(0, x1), (0, 0)]) (rest := []) rfl (so130 hS) rfl (show 0 ≤ 8 by decide) ⟨by decide, show 3 ≤ 3 by decide⟩
theorem b239_6 {T : zT} {V : zM} {x1 : Int} {x2 : Int} {y0 : Int} (hS : zStr T)  : ev 239 6 [(2, 130), (0, x1), (0, x2)] [(0, y0)] T V = (zcall 238 [(2, 130), (0, x2), (0, 1)] T V).bind fun x => ev 239 12 [(2, 130), (0, x1), (0, x2)] (z_push x.1 [(0, y0)]) x.2.1 x.2.2 := by
  refine Eq.trans (ev_lda (show zcode 239 6 = some (6, 7, 0, 0, []) by decide +kernel) rfl (by decide)) ?_
  refine Eq.trans (ev_ldi (show zcode 239 7 = some (4, 8, 2, 0, []) by decide +kernel) rfl) ?_
  refine Eq.trans (ev_ci (show zcode 239 8 = some (0, 9, 0, 1, []) by decide +kernel) (by decide)) ?_
  exact ev_cvirt (show zcode 239 9 = some (76, 12, 238, 3, [12]) by decide +kernel) (args := [(0, x2), (0, 1)]) (rest := [(0, y0)]) rfl (so130 hS) rfl (show 1 ≤ 8 by decide) ⟨by decide, show 3 ≤ 3 by decide⟩
theorem b239_12 {T : zT} {V : zM} {x1 : Int} {x2 : Int} {y0 : Int} {y1 : Int} : ev 239 12 [(2, 130), (0, x1), (0, x2)] [(0, y1), (0, y0)] T V = if y1 < y0 then ev 239 64 [(2, 130), (0, x1), (0, x2)] [] T V else ev 239 15 [(2, 130), (0, x1), (0, x2)] [] T V := by
  exact ev_cgt (show zcode 239 12 = some (50, 15, 64, 0, []) by decide +kernel)
theorem b239_15 {T : zT} {V : zM} {x1 : Int} {x2 : Int} (hS : zStr T)  : ev 239 15 [(2, 130), (0, x1), (0, x2)] [] T V = (zcall 238 [(2, 130), (0, x2), (0, 0)] T V).bind fun x => ev 239 21 [(2, 130), (0, x1), (0, x2)] (z_push x.1 []) x.2.1 x.2.2 := by
  refine Eq.trans (ev_lda (show zcode 239 15 = some (6, 16, 0, 0, []) by decide +kernel) rfl (by decide)) ?_
  refine Eq.trans (ev_ldi (show zcode 239 16 = some (4, 17, 2, 0, []) by decide +kernel) rfl) ?_
  refine Eq.trans (ev_ci (show zcode 239 17 = some (0, 18, 0, 0, []) by decide +kernel) (by decide)) ?_
  exact ev_cvirt (show zcode 239 18 = some (76, 21, 238, 3, [12]) by decide +kernel) (args := [(0, x2), (0, 0)]) (rest := []) rfl (so130 hS) rfl (show 0 ≤ 8 by decide) ⟨by decide, show 3 ≤ 3 by decide⟩
theorem b239_21 {T : zT} {V : zM} {x1 : Int} {x2 : Int} {y0 : Int} (hS : zStr T)  : ev 239 21 [(2, 130), (0, x1), (0, x2)] [(0, y0)] T V = (zcall 238 [(2, 130), (0, x1), (0, 1)] T V).bind fun x => ev 239 27 [(2, 130), (0, x1), (0, x2)] (z_push x.1 [(0, y0)]) x.2.1 x.2.2 := by
  refine Eq.trans (ev_lda (show zcode 239 21 = some (6, 22, 0, 0, []) by decide +kernel) rfl (by decide)) ?_
  refine Eq.trans (ev_ldi (show zcode 239 22 = some (4, 23, 1, 0, []) by decide +kernel) rfl) ?_
  refine Eq.trans (ev_ci (show zcode 239 23 = some (0, 24, 0, 1, []) by decide +kernel) (by decide)) ?_
  exact ev_cvirt (show zcode 239 24 = some (76, 27, 238, 3, [12]) by decide +kernel) (args := [(0, x1), (0, 1)]) (rest := [(0, y0)]) rfl (so130 hS) rfl (show 1 ≤ 8 by decide) ⟨by decide, show 3 ≤ 3 by decide⟩
theorem b239_27 {T : zT} {V : zM} {x1 : Int} {x2 : Int} {y0 : Int} {y1 : Int} : ev 239 27 [(2, 130), (0, x1), (0, x2)] [(0, y1), (0, y0)] T V = if y1 < y0 then ev 239 64 [(2, 130), (0, x1), (0, x2)] [] T V else ev 239 30 [(2, 130), (0, x1), (0, x2)] [] T V := by
  exact ev_cgt (show zcode 239 27 = some (50, 30, 64, 0, []) by decide +kernel)
theorem b239_30 {T : zT} {V : zM} {x1 : Int} {x2 : Int} (hS : zStr T)  : ev 239 30 [(2, 130), (0, x1), (0, x2)] [] T V = (zcall 238 [(2, 130), (0, x1), (0, 2)] T V).bind fun x => ev 239 36 [(2, 130), (0, x1), (0, x2)] (z_push x.1 []) x.2.1 x.2.2 := by
  refine Eq.trans (ev_lda (show zcode 239 30 = some (6, 31, 0, 0, []) by decide +kernel) rfl (by decide)) ?_
  refine Eq.trans (ev_ldi (show zcode 239 31 = some (4, 32, 1, 0, []) by decide +kernel) rfl) ?_
  refine Eq.trans (ev_ci (show zcode 239 32 = some (0, 33, 0, 2, []) by decide +kernel) (by decide)) ?_
  exact ev_cvirt (show zcode 239 33 = some (76, 36, 238, 3, [12]) by decide +kernel) (args := [(0, x1), (0, 2)]) (rest := []) rfl (so130 hS) rfl (show 0 ≤ 8 by decide) ⟨by decide, show 3 ≤ 3 by decide⟩
theorem b239_36 {T : zT} {V : zM} {x1 : Int} {x2 : Int} {y0 : Int} (hS : zStr T)  : ev 239 36 [(2, 130), (0, x1), (0, x2)] [(0, y0)] T V = (zcall 238 [(2, 130), (0, x2), (0, 3)] T V).bind fun x => ev 239 42 [(2, 130), (0, x1), (0, x2)] (z_push x.1 [(0, y0)]) x.2.1 x.2.2 := by
  refine Eq.trans (ev_lda (show zcode 239 36 = some (6, 37, 0, 0, []) by decide +kernel) rfl (by decide)) ?_
  refine Eq.trans (ev_ldi (show zcode 239 37 = some (4, 38, 2, 0, []) by decide +kernel) rfl) ?_
  refine Eq.trans (ev_ci (show zcode 239 38 = some (0, 39, 0, 3, []) by decide +kernel) (by decide)) ?_
  exact ev_cvirt (show zcode 239 39 = some (76, 42, 238, 3, [12]) by decide +kernel) (args := [(0, x2), (0, 3)]) (rest := [(0, y0)]) rfl (so130 hS) rfl (show 1 ≤ 8 by decide) ⟨by decide, show 3 ≤ 3 by decide⟩
theorem b239_42 {T : zT} {V : zM} {x1 : Int} {x2 : Int} {y0 : Int} {y1 : Int} : ev 239 42 [(2, 130), (0, x1), (0, x2)] [(0, y1), (0, y0)] T V = if y1 < y0 then ev 239 64 [(2, 130), (0, x1), (0, x2)] [] T V else ev 239 45 [(2, 130), (0, x1), (0, x2)] [] T V := by
  exact ev_cgt (show zcode 239 42 = some (50, 45, 64, 0, []) by decide +kernel)
theorem b239_45 {T : zT} {V : zM} {x1 : Int} {x2 : Int} (hS : zStr T)  : ev 239 45 [(2, 130), (0, x1), (0, x2)] [] T V = (zcall 238 [(2, 130), (0, x2), (0, 2)] T V).bind fun x => ev 239 51 [(2, 130), (0, x1), (0, x2)] (z_push x.1 []) x.2.1 x.2.2 := by
  refine Eq.trans (ev_lda (show zcode 239 45 = some (6, 46, 0, 0, []) by decide +kernel) rfl (by decide)) ?_
  refine Eq.trans (ev_ldi (show zcode 239 46 = some (4, 47, 2, 0, []) by decide +kernel) rfl) ?_
  refine Eq.trans (ev_ci (show zcode 239 47 = some (0, 48, 0, 2, []) by decide +kernel) (by decide)) ?_
  exact ev_cvirt (show zcode 239 48 = some (76, 51, 238, 3, [12]) by decide +kernel) (args := [(0, x2), (0, 2)]) (rest := []) rfl (so130 hS) rfl (show 0 ≤ 8 by decide) ⟨by decide, show 3 ≤ 3 by decide⟩
theorem b239_51 {T : zT} {V : zM} {x1 : Int} {x2 : Int} {y0 : Int} (hS : zStr T)  : ev 239 51 [(2, 130), (0, x1), (0, x2)] [(0, y0)] T V = (zcall 238 [(2, 130), (0, x1), (0, 3)] T V).bind fun x => ev 239 57 [(2, 130), (0, x1), (0, x2)] (z_push x.1 [(0, y0)]) x.2.1 x.2.2 := by
  refine Eq.trans (ev_lda (show zcode 239 51 = some (6, 52, 0, 0, []) by decide +kernel) rfl (by decide)) ?_
  refine Eq.trans (ev_ldi (show zcode 239 52 = some (4, 53, 1, 0, []) by decide +kernel) rfl) ?_
  refine Eq.trans (ev_ci (show zcode 239 53 = some (0, 54, 0, 3, []) by decide +kernel) (by decide)) ?_
  exact ev_cvirt (show zcode 239 54 = some (76, 57, 238, 3, [12]) by decide +kernel) (args := [(0, x1), (0, 3)]) (rest := [(0, y0)]) rfl (so130 hS) rfl (show 1 ≤ 8 by decide) ⟨by decide, show 3 ≤ 3 by decide⟩
theorem b239_57 {T : zT} {V : zM} {x1 : Int} {x2 : Int} {y0 : Int} {y1 : Int} : ev 239 57 [(2, 130), (0, x1), (0, x2)] [(0, y1), (0, y0)] T V = if y1 < y0 then ev 239 64 [(2, 130), (0, x1), (0, x2)] [] T V else ev 239 60 [(2, 130), (0, x1), (0, x2)] [] T V := by
  exact ev_cgt (show zcode 239 57 = some (50, 60, 64, 0, []) by decide +kernel)
theorem b239_60 {T : zT} {V : zM} {x1 : Int} {x2 : Int} : ev 239 60 [(2, 130), (0, x1), (0, x2)] [] T V = ev 239 65 [(2, 130), (0, x1), (0, x2)] [(0, 1)] T V := by
  refine Eq.trans (ev_ci (show zcode 239 60 = some (0, 61, 0, 1, []) by decide +kernel) (by decide)) ?_
  exact ev_goto (show zcode 239 61 = some (53, 64, 65, 0, []) by decide +kernel)
theorem b239_64 {T : zT} {V : zM} {x1 : Int} {x2 : Int} : ev 239 64 [(2, 130), (0, x1), (0, x2)] [] T V = ev 239 65 [(2, 130), (0, x1), (0, x2)] [(0, 0)] T V := by
  exact ev_ci (show zcode 239 64 = some (0, 65, 0, 0, []) by decide +kernel) (by decide)
theorem b239_65 {T : zT} {V : zM} {x1 : Int} {x2 : Int} {y0 : Int} (h1 : (0 : Int) ≤ y0 ∧ y0 ≤ 1) : ev 239 65 [(2, 130), (0, x1), (0, x2)] [(0, y0)] T V = some ((0, y0), T, V) := by
  exact ev_rz (show zcode 239 65 = some (72, 66, 3, 0, []) by decide +kernel) h1
/-! 240: TwoWayWallModel.best(I)I -/
theorem e240 {T : zT} {V : zM} {x1 : Int} : zcall 240 [(2, 130), (0, x1)] T V = ev 240 0 [(2, 130), (0, x1), (9, 0), (9, 0), (9, 0), (9, 0), (9, 0)] [] T V := rfl
theorem b240_0 {T : zT} {V : zM} {x1 : Int} : ev 240 0 [(2, 130), (0, x1), (9, 0), (9, 0), (9, 0), (9, 0), (9, 0)] [] T V = (zcall 150 [(0, x1), (0, 0), (0, 2)] T V).bind fun x => ev 240 6 [(2, 130), (0, x1), (9, 0), (9, 0), (9, 0), (9, 0), (9, 0)] (z_push x.1 []) x.2.1 x.2.2 := by
  refine Eq.trans (ev_ldi (show zcode 240 0 = some (4, 1, 1, 0, []) by decide +kernel) rfl) ?_
  refine Eq.trans (ev_ci (show zcode 240 1 = some (0, 2, 0, 0, []) by decide +kernel) (by decide)) ?_
  refine Eq.trans (ev_ci (show zcode 240 2 = some (0, 3, 0, 2, []) by decide +kernel) (by decide)) ?_
  exact ev_cstat (show zcode 240 3 = some (74, 6, 150, 3, []) by decide +kernel) (args := [(0, x1), (0, 0), (0, 2)]) (rest := []) rfl rfl (show 0 ≤ 8 by decide) ⟨by decide, show 3 ≤ 3 by decide⟩
theorem b240_6 {T : zT} {V : zM} {x1 : Int} {y0 : Int} : ev 240 6 [(2, 130), (0, x1), (9, 0), (9, 0), (9, 0), (9, 0), (9, 0)] [(0, y0)] T V = if y0 = 0 then ev 240 9 [(2, 130), (0, x1), (9, 0), (9, 0), (9, 0), (9, 0), (9, 0)] [] T V else ev 240 11 [(2, 130), (0, x1), (9, 0), (9, 0), (9, 0), (9, 0), (9, 0)] [] T V := by
  exact ev_ne (show zcode 240 6 = some (41, 9, 11, 0, []) by decide +kernel)
theorem b240_9 {T : zT} {V : zM} {x1 : Int} : ev 240 9 [(2, 130), (0, x1), (9, 0), (9, 0), (9, 0), (9, 0), (9, 0)] [] T V = some ((0, (-1)), T, V) := by
  refine Eq.trans (ev_ci (show zcode 240 9 = some (0, 10, 0, (-1), []) by decide +kernel) (by decide)) ?_
  exact ev_ri (show zcode 240 10 = some (72, 11, 0, 0, []) by decide +kernel)
theorem b240_11 {T : zT} {V : zM} {x1 : Int} : ev 240 11 [(2, 130), (0, x1), (9, 0), (9, 0), (9, 0), (9, 0), (9, 0)] [] T V = ev 240 21 [(2, 130), (0, x1), (0, 0), (0, (-1)), (0, 0), (0, 0), (9, 0)] [] T V := by
  refine Eq.trans (ev_ci (show zcode 240 11 = some (0, 12, 0, 0, []) by decide +kernel) (by decide)) ?_
  refine Eq.trans (ev_sti (show zcode 240 12 = some (7, 13, 2, 0, []) by decide +kernel) ⟨show 2 < 7 by decide, Or.inr (show ¬ (0 : Nat) = 1 by decide)⟩) ?_
  refine Eq.trans (ev_ci (show zcode 240 13 = some (0, 14, 0, (-1), []) by decide +kernel) (by decide)) ?_
  refine Eq.trans (ev_sti (show zcode 240 14 = some (7, 15, 3, 0, []) by decide +kernel) ⟨show 3 < 7 by decide, Or.inr (show ¬ (0 : Nat) = 1 by decide)⟩) ?_
  refine Eq.trans (ev_ci (show zcode 240 15 = some (0, 16, 0, 0, []) by decide +kernel) (by decide)) ?_
  refine Eq.trans (ev_sti (show zcode 240 16 = some (7, 18, 4, 0, []) by decide +kernel) ⟨show 4 < 7 by decide, Or.inr (show ¬ (0 : Nat) = 1 by decide)⟩) ?_
  refine Eq.trans (ev_ci (show zcode 240 18 = some (0, 19, 0, 0, []) by decide +kernel) (by decide)) ?_
  exact ev_sti (show zcode 240 19 = some (7, 21, 5, 0, []) by decide +kernel) ⟨show 5 < 7 by decide, Or.inr (show ¬ (0 : Nat) = 1 by decide)⟩
theorem b240_21 {T : zT} {V : zM} {x1 : Int} {x2 : Int} {x3 : Int} {x4 : Int} {x5 : Int} {v6 : zV} (hS : zStr T) (h1 : (0 : Int) ≤ (V 132 426) ∧ (V 132 426) ≤ 30) : ev 240 21 [(2, 130), (0, x1), (0, x2), (0, x3), (0, x4), (0, x5), v6] [] T V = if ((2 : Int) ^ ((V 132 426)).toNat) ≤ x5 then ev 240 83 [(2, 130), (0, x1), (0, x2), (0, x3), (0, x4), (0, x5), v6] [] T V else ev 240 36 [(2, 130), (0, x1), (0, x2), (0, x3), (0, x4), (0, x5), v6] [] T V := by
  refine Eq.trans (ev_ldi (show zcode 240 21 = some (4, 23, 5, 0, []) by decide +kernel) rfl) ?_
  refine Eq.trans (ev_ci (show zcode 240 23 = some (0, 24, 0, 1, []) by decide +kernel) (by decide)) ?_
  refine Eq.trans (ev_lda (show zcode 240 24 = some (6, 25, 0, 0, []) by decide +kernel) rfl (by decide)) ?_
  refine Eq.trans (ev_gq (show zcode 240 25 = some (56, 28, 12, 4, []) by decide +kernel) (so130 hS) (sp130_4 hS)) ?_
  refine Eq.trans (ev_ci (show zcode 240 28 = some (0, 31, 0, 426, []) by decide +kernel) (by decide)) ?_
  refine Eq.trans (ev_ia (show zcode 240 31 = some (60, 32, 0, 0, []) by decide +kernel) (sa132 hS) (by decide)) ?_
  refine Eq.trans (ev_shl1 (show zcode 240 32 = some (20, 33, 0, 0, []) by decide +kernel) h1) ?_
  exact ev_cge (show zcode 240 33 = some (49, 36, 83, 0, []) by decide +kernel)
theorem b240_36 {T : zT} {V : zM} {x1 : Int} {x2 : Int} {x3 : Int} {x4 : Int} {x5 : Int} {v6 : zV} (hS : zStr T)  : ev 240 36 [(2, 130), (0, x1), (0, x2), (0, x3), (0, x4), (0, x5), v6] [] T V = (zcall 237 [(2, 130), (0, x5)] T V).bind fun x => ev 240 42 [(2, 130), (0, x1), (0, x2), (0, x3), (0, x4), (0, x5), v6] (z_push x.1 []) x.2.1 x.2.2 := by
  refine Eq.trans (ev_lda (show zcode 240 36 = some (6, 37, 0, 0, []) by decide +kernel) rfl (by decide)) ?_
  refine Eq.trans (ev_ldi (show zcode 240 37 = some (4, 39, 5, 0, []) by decide +kernel) rfl) ?_
  exact ev_cvirt (show zcode 240 39 = some (76, 42, 237, 2, [12]) by decide +kernel) (args := [(0, x5)]) (rest := []) rfl (so130 hS) rfl (show 0 ≤ 8 by decide) ⟨by decide, show 2 ≤ 5 by decide⟩
theorem b240_42 {T : zT} {V : zM} {x1 : Int} {x2 : Int} {x3 : Int} {x4 : Int} {x5 : Int} {v6 : zV} {y0 : Int} : ev 240 42 [(2, 130), (0, x1), (0, x2), (0, x3), (0, x4), (0, x5), v6] [(0, y0)] T V = if y0 < x3 then ev 240 77 [(2, 130), (0, x1), (0, x2), (0, x3), (0, x4), (0, x5), (0, y0)] [] T V else ev 240 50 [(2, 130), (0, x1), (0, x2), (0, x3), (0, x4), (0, x5), (0, y0)] [] T V := by
  refine Eq.trans (ev_sti (show zcode 240 42 = some (7, 44, 6, 0, []) by decide +kernel) ⟨show 6 < 7 by decide, Or.inr (show ¬ (0 : Nat) = 1 by decide)⟩) ?_
  refine Eq.trans (ev_ldi (show zcode 240 44 = some (4, 46, 6, 0, []) by decide +kernel) rfl) ?_
  refine Eq.trans (ev_ldi (show zcode 240 46 = some (4, 47, 3, 0, []) by decide +kernel) rfl) ?_
  exact ev_clt (show zcode 240 47 = some (48, 50, 77, 0, []) by decide +kernel)
theorem b240_50 {T : zT} {V : zM} {x1 : Int} {x2 : Int} {x3 : Int} {x4 : Int} {x5 : Int} {x6 : Int} : ev 240 50 [(2, 130), (0, x1), (0, x2), (0, x3), (0, x4), (0, x5), (0, x6)] [] T V = if x6 = (-1) then ev 240 56 [(2, 130), (0, x1), (0, x2), (0, x3), (0, x4), (0, x5), (0, x6)] [] T V else ev 240 59 [(2, 130), (0, x1), (0, x2), (0, x3), (0, x4), (0, x5), (0, x6)] [] T V := by
  refine Eq.trans (ev_ldi (show zcode 240 50 = some (4, 52, 6, 0, []) by decide +kernel) rfl) ?_
  refine Eq.trans (ev_ci (show zcode 240 52 = some (0, 53, 0, (-1), []) by decide +kernel) (by decide)) ?_
  exact ev_cne (show zcode 240 53 = some (47, 56, 59, 0, []) by decide +kernel)
theorem b240_56 {T : zT} {V : zM} {x1 : Int} {x2 : Int} {x3 : Int} {x4 : Int} {x5 : Int} {x6 : Int} : ev 240 56 [(2, 130), (0, x1), (0, x2), (0, x3), (0, x4), (0, x5), (0, x6)] [] T V = ev 240 77 [(2, 130), (0, x1), (0, x2), (0, x3), (0, x4), (0, x5), (0, x6)] [] T V := by
  exact ev_goto (show zcode 240 56 = some (53, 59, 77, 0, []) by decide +kernel)
theorem b240_59 {T : zT} {V : zM} {x1 : Int} {x2 : Int} {x3 : Int} {x4 : Int} {x5 : Int} {x6 : Int} : ev 240 59 [(2, 130), (0, x1), (0, x2), (0, x3), (0, x4), (0, x5), (0, x6)] [] T V = if x6 ≤ x3 then ev 240 74 [(2, 130), (0, x1), (0, x2), (0, x3), (0, x4), (0, x5), (0, x6)] [] T V else ev 240 65 [(2, 130), (0, x1), (0, x2), (0, x3), (0, x4), (0, x5), (0, x6)] [] T V := by
  refine Eq.trans (ev_ldi (show zcode 240 59 = some (4, 61, 6, 0, []) by decide +kernel) rfl) ?_
  refine Eq.trans (ev_ldi (show zcode 240 61 = some (4, 62, 3, 0, []) by decide +kernel) rfl) ?_
  exact ev_cle (show zcode 240 62 = some (51, 65, 74, 0, []) by decide +kernel)
theorem b240_65 {T : zT} {V : zM} {x1 : Int} {x2 : Int} {x3 : Int} {x4 : Int} {x5 : Int} {x6 : Int} : ev 240 65 [(2, 130), (0, x1), (0, x2), (0, x3), (0, x4), (0, x5), (0, x6)] [] T V = ev 240 74 [(2, 130), (0, x1), (0, x5), (0, x6), (0, 0), (0, x5), (0, x6)] [] T V := by
  refine Eq.trans (ev_ldi (show zcode 240 65 = some (4, 67, 6, 0, []) by decide +kernel) rfl) ?_
  refine Eq.trans (ev_sti (show zcode 240 67 = some (7, 68, 3, 0, []) by decide +kernel) ⟨show 3 < 7 by decide, Or.inr (show ¬ (0 : Nat) = 1 by decide)⟩) ?_
  refine Eq.trans (ev_ldi (show zcode 240 68 = some (4, 70, 5, 0, []) by decide +kernel) rfl) ?_
  refine Eq.trans (ev_sti (show zcode 240 70 = some (7, 71, 2, 0, []) by decide +kernel) ⟨show 2 < 7 by decide, Or.inr (show ¬ (0 : Nat) = 1 by decide)⟩) ?_
  refine Eq.trans (ev_ci (show zcode 240 71 = some (0, 72, 0, 0, []) by decide +kernel) (by decide)) ?_
  exact ev_sti (show zcode 240 72 = some (7, 74, 4, 0, []) by decide +kernel) ⟨show 4 < 7 by decide, Or.inr (show ¬ (0 : Nat) = 1 by decide)⟩
theorem b240_74 {T : zT} {V : zM} {x1 : Int} {x2 : Int} {x3 : Int} {x4 : Int} {x5 : Int} {x6 : Int} (h1 : -2147483648 ≤ (x4 + 1) ∧ (x4 + 1) ≤ 2147483647) : ev 240 74 [(2, 130), (0, x1), (0, x2), (0, x3), (0, x4), (0, x5), (0, x6)] [] T V = ev 240 77 [(2, 130), (0, x1), (0, x2), (0, x3), (0, (x4 + 1)), (0, x5), (0, x6)] [] T V := by
  exact ev_inc (show zcode 240 74 = some (10, 77, 4, 1, []) by decide +kernel) rfl h1 (Or.inr (show ¬ (0 : Nat) = 1 by decide))
theorem b240_77 {T : zT} {V : zM} {x1 : Int} {x2 : Int} {x3 : Int} {x4 : Int} {x5 : Int} {x6 : Int} (h1 : -2147483648 ≤ (x5 + 1) ∧ (x5 + 1) ≤ 2147483647) : ev 240 77 [(2, 130), (0, x1), (0, x2), (0, x3), (0, x4), (0, x5), (0, x6)] [] T V = ev 240 21 [(2, 130), (0, x1), (0, x2), (0, x3), (0, x4), (0, (x5 + 1)), (0, x6)] [] T V := by
  refine Eq.trans (ev_inc (show zcode 240 77 = some (10, 80, 5, 1, []) by decide +kernel) rfl h1 (Or.inr (show ¬ (0 : Nat) = 1 by decide))) ?_
  exact ev_goto (show zcode 240 80 = some (53, 83, 21, 0, []) by decide +kernel)
theorem b240_83 {T : zT} {V : zM} {x1 : Int} {x2 : Int} {x3 : Int} {x4 : Int} {x5 : Int} {v6 : zV} : ev 240 83 [(2, 130), (0, x1), (0, x2), (0, x3), (0, x4), (0, x5), v6] [] T V = if x1 = 0 then ev 240 87 [(2, 130), (0, x1), (0, x2), (0, x3), (0, x4), (0, x5), v6] [] T V else ev 240 91 [(2, 130), (0, x1), (0, x2), (0, x3), (0, x4), (0, x5), v6] [] T V := by
  refine Eq.trans (ev_ldi (show zcode 240 83 = some (4, 84, 1, 0, []) by decide +kernel) rfl) ?_
  exact ev_ne (show zcode 240 84 = some (41, 87, 91, 0, []) by decide +kernel)
theorem b240_87 {T : zT} {V : zM} {x1 : Int} {x2 : Int} {x3 : Int} {x4 : Int} {x5 : Int} {v6 : zV} : ev 240 87 [(2, 130), (0, x1), (0, x2), (0, x3), (0, x4), (0, x5), v6] [] T V = ev 240 102 [(2, 130), (0, x1), (0, x2), (0, x3), (0, x4), (0, x5), v6] [(0, x3)] T V := by
  refine Eq.trans (ev_ldi (show zcode 240 87 = some (4, 88, 3, 0, []) by decide +kernel) rfl) ?_
  exact ev_goto (show zcode 240 88 = some (53, 91, 102, 0, []) by decide +kernel)
theorem b240_91 {T : zT} {V : zM} {x1 : Int} {x2 : Int} {x3 : Int} {x4 : Int} {x5 : Int} {v6 : zV} : ev 240 91 [(2, 130), (0, x1), (0, x2), (0, x3), (0, x4), (0, x5), v6] [] T V = if x1 = 1 then ev 240 96 [(2, 130), (0, x1), (0, x2), (0, x3), (0, x4), (0, x5), v6] [] T V else ev 240 100 [(2, 130), (0, x1), (0, x2), (0, x3), (0, x4), (0, x5), v6] [] T V := by
  refine Eq.trans (ev_ldi (show zcode 240 91 = some (4, 92, 1, 0, []) by decide +kernel) rfl) ?_
  refine Eq.trans (ev_ci (show zcode 240 92 = some (0, 93, 0, 1, []) by decide +kernel) (by decide)) ?_
  exact ev_cne (show zcode 240 93 = some (47, 96, 100, 0, []) by decide +kernel)
theorem b240_96 {T : zT} {V : zM} {x1 : Int} {x2 : Int} {x3 : Int} {x4 : Int} {x5 : Int} {v6 : zV} : ev 240 96 [(2, 130), (0, x1), (0, x2), (0, x3), (0, x4), (0, x5), v6] [] T V = ev 240 102 [(2, 130), (0, x1), (0, x2), (0, x3), (0, x4), (0, x5), v6] [(0, x2)] T V := by
  refine Eq.trans (ev_ldi (show zcode 240 96 = some (4, 97, 2, 0, []) by decide +kernel) rfl) ?_
  exact ev_goto (show zcode 240 97 = some (53, 100, 102, 0, []) by decide +kernel)
theorem b240_100 {T : zT} {V : zM} {x1 : Int} {x2 : Int} {x3 : Int} {x4 : Int} {x5 : Int} {v6 : zV} : ev 240 100 [(2, 130), (0, x1), (0, x2), (0, x3), (0, x4), (0, x5), v6] [] T V = ev 240 102 [(2, 130), (0, x1), (0, x2), (0, x3), (0, x4), (0, x5), v6] [(0, x4)] T V := by
  exact ev_ldi (show zcode 240 100 = some (4, 102, 4, 0, []) by decide +kernel) rfl
theorem b240_102 {T : zT} {V : zM} {x1 : Int} {x2 : Int} {x3 : Int} {x4 : Int} {x5 : Int} {v6 : zV} {y0 : Int} : ev 240 102 [(2, 130), (0, x1), (0, x2), (0, x3), (0, x4), (0, x5), v6] [(0, y0)] T V = some ((0, y0), T, V) := by
  exact ev_ri (show zcode 240 102 = some (72, 103, 0, 0, []) by decide +kernel)
/-! 241: TwoWayWallModel.rain(II)I -/
theorem e241 {T : zT} {V : zM} {x1 : Int} {x2 : Int} : zcall 241 [(2, 130), (0, x1), (0, x2)] T V = ev 241 0 [(2, 130), (0, x1), (0, x2), (9, 0), (9, 0), (9, 0)] [] T V := rfl
theorem b241_0 {T : zT} {V : zM} {x1 : Int} {x2 : Int} : ev 241 0 [(2, 130), (0, x1), (0, x2), (9, 0), (9, 0), (9, 0)] [] T V = (zcall 150 [(0, x1), (0, 0), (0, 1000000)] T V).bind fun x => ev 241 7 [(2, 130), (0, x1), (0, x2), (9, 0), (9, 0), (9, 0)] (z_push x.1 []) x.2.1 x.2.2 := by
  refine Eq.trans (ev_ldi (show zcode 241 0 = some (4, 1, 1, 0, []) by decide +kernel) rfl) ?_
  refine Eq.trans (ev_ci (show zcode 241 1 = some (0, 2, 0, 0, []) by decide +kernel) (by decide)) ?_
  refine Eq.trans (ev_ci (show zcode 241 2 = some (0, 4, 0, 1000000, []) by decide +kernel) (by decide)) ?_
  exact ev_cstat (show zcode 241 4 = some (74, 7, 150, 3, []) by decide +kernel) (args := [(0, x1), (0, 0), (0, 1000000)]) (rest := []) rfl rfl (show 0 ≤ 8 by decide) ⟨by decide, show 3 ≤ 3 by decide⟩
theorem b241_7 {T : zT} {V : zM} {x1 : Int} {x2 : Int} {y0 : Int} : ev 241 7 [(2, 130), (0, x1), (0, x2), (9, 0), (9, 0), (9, 0)] [(0, y0)] T V = if y0 = 0 then ev 241 20 [(2, 130), (0, x1), (0, x2), (9, 0), (9, 0), (9, 0)] [] T V else ev 241 10 [(2, 130), (0, x1), (0, x2), (9, 0), (9, 0), (9, 0)] [] T V := by
  exact ev_eq (show zcode 241 7 = some (40, 10, 20, 0, []) by decide +kernel)
theorem b241_10 {T : zT} {V : zM} {x1 : Int} {x2 : Int} : ev 241 10 [(2, 130), (0, x1), (0, x2), (9, 0), (9, 0), (9, 0)] [] T V = (zcall 150 [(0, x2), (0, 0), (0, 100)] T V).bind fun x => ev 241 17 [(2, 130), (0, x1), (0, x2), (9, 0), (9, 0), (9, 0)] (z_push x.1 []) x.2.1 x.2.2 := by
  refine Eq.trans (ev_ldi (show zcode 241 10 = some (4, 11, 2, 0, []) by decide +kernel) rfl) ?_
  refine Eq.trans (ev_ci (show zcode 241 11 = some (0, 12, 0, 0, []) by decide +kernel) (by decide)) ?_
  refine Eq.trans (ev_ci (show zcode 241 12 = some (0, 14, 0, 100, []) by decide +kernel) (by decide)) ?_
  exact ev_cstat (show zcode 241 14 = some (74, 17, 150, 3, []) by decide +kernel) (args := [(0, x2), (0, 0), (0, 100)]) (rest := []) rfl rfl (show 0 ≤ 8 by decide) ⟨by decide, show 3 ≤ 3 by decide⟩
theorem b241_17 {T : zT} {V : zM} {x1 : Int} {x2 : Int} {y0 : Int} : ev 241 17 [(2, 130), (0, x1), (0, x2), (9, 0), (9, 0), (9, 0)] [(0, y0)] T V = if y0 = 0 then ev 241 20 [(2, 130), (0, x1), (0, x2), (9, 0), (9, 0), (9, 0)] [] T V else ev 241 26 [(2, 130), (0, x1), (0, x2), (9, 0), (9, 0), (9, 0)] [] T V := by
  exact ev_ne (show zcode 241 17 = some (41, 20, 26, 0, []) by decide +kernel)
theorem b241_20 {T : zT} {V : zM} {x1 : Int} {x2 : Int} (hS : zStr T)  : ev 241 20 [(2, 130), (0, x1), (0, x2), (9, 0), (9, 0), (9, 0)] [] T V = (zcall 151 [(2, 130), (0, (-1))] T V).bind fun x => ev 241 25 [(2, 130), (0, x1), (0, x2), (9, 0), (9, 0), (9, 0)] (z_push x.1 []) x.2.1 x.2.2 := by
  refine Eq.trans (ev_lda (show zcode 241 20 = some (6, 21, 0, 0, []) by decide +kernel) rfl (by decide)) ?_
  refine Eq.trans (ev_ci (show zcode 241 21 = some (0, 22, 0, (-1), []) by decide +kernel) (by decide)) ?_
  exact ev_cvirt (show zcode 241 22 = some (76, 25, 151, 2, [12]) by decide +kernel) (args := [(0, (-1))]) (rest := []) rfl (so130 hS) rfl (show 0 ≤ 8 by decide) ⟨by decide, show 2 ≤ 2 by decide⟩
theorem b241_25 {T : zT} {V : zM} {x1 : Int} {x2 : Int} {y0 : Int} : ev 241 25 [(2, 130), (0, x1), (0, x2), (9, 0), (9, 0), (9, 0)] [(0, y0)] T V = some ((0, y0), T, V) := by
  exact ev_ri (show zcode 241 25 = some (72, 26, 0, 0, []) by decide +kernel)
theorem b241_26 {T : zT} {V : zM} {x1 : Int} {x2 : Int} (hS : zStr T)  : ev 241 26 [(2, 130), (0, x1), (0, x2), (9, 0), (9, 0), (9, 0)] [] T V = ev 241 36 [(2, 130), (0, x1), (0, x2), (0, 0), (0, 0), (9, 0)] [] T (zwr V 130 37 x1) := by
  refine Eq.trans (ev_lda (show zcode 241 26 = some (6, 27, 0, 0, []) by decide +kernel) rfl (by decide)) ?_
  refine Eq.trans (ev_ldi (show zcode 241 27 = some (4, 28, 1, 0, []) by decide +kernel) rfl) ?_
  refine Eq.trans (ev_pi (show zcode 241 28 = some (57, 31, 12, 37, []) by decide +kernel) (so130 hS)) ?_
  refine Eq.trans (ev_ci (show zcode 241 31 = some (0, 32, 0, 0, []) by decide +kernel) (by decide)) ?_
  refine Eq.trans (ev_sti (show zcode 241 32 = some (7, 33, 3, 0, []) by decide +kernel) ⟨show 3 < 6 by decide, Or.inr (show ¬ (0 : Nat) = 1 by decide)⟩) ?_
  refine Eq.trans (ev_ci (show zcode 241 33 = some (0, 34, 0, 0, []) by decide +kernel) (by decide)) ?_
  exact ev_sti (show zcode 241 34 = some (7, 36, 4, 0, []) by decide +kernel) ⟨show 4 < 6 by decide, Or.inr (show ¬ (0 : Nat) = 1 by decide)⟩
theorem b241_36 {T : zT} {V : zM} {x1 : Int} {x2 : Int} {x3 : Int} {x4 : Int} {v5 : zV} (hS : zStr T)  : ev 241 36 [(2, 130), (0, x1), (0, x2), (0, x3), (0, x4), v5] [] T V = if (V 132 427) ≤ x4 then ev 241 126 [(2, 130), (0, x1), (0, x2), (0, x3), (0, x4), v5] [] T V else ev 241 49 [(2, 130), (0, x1), (0, x2), (0, x3), (0, x4), v5] [] T V := by
  refine Eq.trans (ev_ldi (show zcode 241 36 = some (4, 38, 4, 0, []) by decide +kernel) rfl) ?_
  refine Eq.trans (ev_lda (show zcode 241 38 = some (6, 39, 0, 0, []) by decide +kernel) rfl (by decide)) ?_
  refine Eq.trans (ev_gq (show zcode 241 39 = some (56, 42, 12, 4, []) by decide +kernel) (so130 hS) (sp130_4 hS)) ?_
  refine Eq.trans (ev_ci (show zcode 241 42 = some (0, 45, 0, 427, []) by decide +kernel) (by decide)) ?_
  refine Eq.trans (ev_ia (show zcode 241 45 = some (60, 46, 0, 0, []) by decide +kernel) (sa132 hS) (by decide)) ?_
  exact ev_cge (show zcode 241 46 = some (49, 49, 126, 0, []) by decide +kernel)
theorem b241_49 {T : zT} {V : zM} {x1 : Int} {x2 : Int} {x3 : Int} {x4 : Int} {v5 : zV} : ev 241 49 [(2, 130), (0, x1), (0, x2), (0, x3), (0, x4), v5] [] T V = ev 241 52 [(2, 130), (0, x1), (0, x2), (0, x3), (0, x4), (0, 0)] [] T V := by
  refine Eq.trans (ev_ci (show zcode 241 49 = some (0, 50, 0, 0, []) by decide +kernel) (by decide)) ?_
  exact ev_sti (show zcode 241 50 = some (7, 52, 5, 0, []) by decide +kernel) ⟨show 5 < 6 by decide, Or.inr (show ¬ (0 : Nat) = 1 by decide)⟩
theorem b241_52 {T : zT} {V : zM} {x1 : Int} {x2 : Int} {x3 : Int} {x4 : Int} {x5 : Int} : ev 241 52 [(2, 130), (0, x1), (0, x2), (0, x3), (0, x4), (0, x5)] [] T V = if 7 ≤ x5 then ev 241 120 [(2, 130), (0, x1), (0, x2), (0, x3), (0, x4), (0, x5)] [] T V else ev 241 59 [(2, 130), (0, x1), (0, x2), (0, x3), (0, x4), (0, x5)] [] T V := by
  refine Eq.trans (ev_ldi (show zcode 241 52 = some (4, 54, 5, 0, []) by decide +kernel) rfl) ?_
  refine Eq.trans (ev_ci (show zcode 241 54 = some (0, 56, 0, 7, []) by decide +kernel) (by decide)) ?_
  exact ev_cge (show zcode 241 56 = some (49, 59, 120, 0, []) by decide +kernel)
theorem b241_59 {T : zT} {V : zM} {x1 : Int} {x2 : Int} {x3 : Int} {x4 : Int} {x5 : Int} (hS : zStr T) (h1 : -2147483648 ≤ (300 + x4) ∧ (300 + x4) ≤ 2147483647) (h2 : (0 : Int) ≤ (300 + x4) ∧ (300 + x4) < 428) (h3 : (0 : Int) ≤ x5 ∧ x5 < 32) : ev 241 59 [(2, 130), (0, x1), (0, x2), (0, x3), (0, x4), (0, x5)] [] T V = if (zand ((V 132 (300 + x4)) / 2 ^ (x5).toNat) 1) = 0 then ev 241 114 [(2, 130), (0, x1), (0, x2), (0, x3), (0, x4), (0, x5)] [] T V else ev 241 78 [(2, 130), (0, x1), (0, x2), (0, x3), (0, x4), (0, x5)] [] T V := by
  refine Eq.trans (ev_lda (show zcode 241 59 = some (6, 60, 0, 0, []) by decide +kernel) rfl (by decide)) ?_
  refine Eq.trans (ev_gq (show zcode 241 60 = some (56, 63, 12, 4, []) by decide +kernel) (so130 hS) (sp130_4 hS)) ?_
  refine Eq.trans (ev_ci (show zcode 241 63 = some (0, 66, 0, 300, []) by decide +kernel) (by decide)) ?_
  refine Eq.trans (ev_ldi (show zcode 241 66 = some (4, 68, 4, 0, []) by decide +kernel) rfl) ?_
  refine Eq.trans (ev_add (show zcode 241 68 = some (11, 69, 0, 0, []) by decide +kernel) h1) ?_
  refine Eq.trans (ev_ia (show zcode 241 69 = some (60, 70, 0, 0, []) by decide +kernel) (sa132 hS) h2) ?_
  refine Eq.trans (ev_ldi (show zcode 241 70 = some (4, 72, 5, 0, []) by decide +kernel) rfl) ?_
  refine Eq.trans (ev_shr (show zcode 241 72 = some (21, 73, 0, 0, []) by decide +kernel) h3) ?_
  refine Eq.trans (ev_ci (show zcode 241 73 = some (0, 74, 0, 1, []) by decide +kernel) (by decide)) ?_
  refine Eq.trans (ev_and (show zcode 241 74 = some (14, 75, 0, 0, []) by decide +kernel)) ?_
  exact ev_eq (show zcode 241 75 = some (40, 78, 114, 0, []) by decide +kernel)
theorem b241_78 {T : zT} {V : zM} {x1 : Int} {x2 : Int} {x3 : Int} {x4 : Int} {x5 : Int} (hS : zStr T)  : ev 241 78 [(2, 130), (0, x1), (0, x2), (0, x3), (0, x4), (0, x5)] [] T V = (zcall 242 [(2, 130), (0, 100)] T V).bind fun x => ev 241 84 [(2, 130), (0, x1), (0, x2), (0, x3), (0, x4), (0, x5)] (z_push x.1 []) x.2.1 x.2.2 := by
  refine Eq.trans (ev_lda (show zcode 241 78 = some (6, 79, 0, 0, []) by decide +kernel) rfl (by decide)) ?_
  refine Eq.trans (ev_ci (show zcode 241 79 = some (0, 81, 0, 100, []) by decide +kernel) (by decide)) ?_
  exact ev_cvirt (show zcode 241 81 = some (76, 84, 242, 2, [12]) by decide +kernel) (args := [(0, 100)]) (rest := []) rfl (so130 hS) rfl (show 0 ≤ 8 by decide) ⟨by decide, show 2 ≤ 2 by decide⟩
theorem b241_84 {T : zT} {V : zM} {x1 : Int} {x2 : Int} {x3 : Int} {x4 : Int} {x5 : Int} {y0 : Int} : ev 241 84 [(2, 130), (0, x1), (0, x2), (0, x3), (0, x4), (0, x5)] [(0, y0)] T V = if y0 < x2 then ev 241 91 [(2, 130), (0, x1), (0, x2), (0, x3), (0, x4), (0, x5)] [] T V else ev 241 88 [(2, 130), (0, x1), (0, x2), (0, x3), (0, x4), (0, x5)] [] T V := by
  refine Eq.trans (ev_ldi (show zcode 241 84 = some (4, 85, 2, 0, []) by decide +kernel) rfl) ?_
  exact ev_clt (show zcode 241 85 = some (48, 88, 91, 0, []) by decide +kernel)
theorem b241_88 {T : zT} {V : zM} {x1 : Int} {x2 : Int} {x3 : Int} {x4 : Int} {x5 : Int} : ev 241 88 [(2, 130), (0, x1), (0, x2), (0, x3), (0, x4), (0, x5)] [] T V = ev 241 114 [(2, 130), (0, x1), (0, x2), (0, x3), (0, x4), (0, x5)] [] T V := by
  exact ev_goto (show zcode 241 88 = some (53, 91, 114, 0, []) by decide +kernel)
theorem b241_91 {T : zT} {V : zM} {x1 : Int} {x2 : Int} {x3 : Int} {x4 : Int} {x5 : Int} (hS : zStr T) (h1 : -2147483648 ≤ (300 + x4) ∧ (300 + x4) ≤ 2147483647) (h2 : (0 : Int) ≤ (300 + x4) ∧ (300 + x4) < 428) (h3 : (0 : Int) ≤ x5 ∧ x5 ≤ 30) (h4 : -2147483648 ≤ (x3 + 1) ∧ (x3 + 1) ≤ 2147483647) : ev 241 91 [(2, 130), (0, x1), (0, x2), (0, x3), (0, x4), (0, x5)] [] T V = ev 241 114 [(2, 130), (0, x1), (0, x2), (0, (x3 + 1)), (0, x4), (0, x5)] [] T (zwr V 132 (300 + x4) (zand (V 132 (300 + x4)) (zxor ((2 : Int) ^ (x5).toNat) (-1)))) := by
  refine Eq.trans (ev_lda (show zcode 241 91 = some (6, 92, 0, 0, []) by decide +kernel) rfl (by decide)) ?_
  refine Eq.trans (ev_gq (show zcode 241 92 = some (56, 95, 12, 4, []) by decide +kernel) (so130 hS) (sp130_4 hS)) ?_
  refine Eq.trans (ev_ci (show zcode 241 95 = some (0, 98, 0, 300, []) by decide +kernel) (by decide)) ?_
  refine Eq.trans (ev_ldi (show zcode 241 98 = some (4, 100, 4, 0, []) by decide +kernel) rfl) ?_
  refine Eq.trans (ev_add (show zcode 241 100 = some (11, 101, 0, 0, []) by decide +kernel) h1) ?_
  refine Eq.trans (ev_dup2 (show zcode 241 101 = some (38, 102, 0, 0, []) by decide +kernel) (by decide)) ?_
  refine Eq.trans (ev_ia (show zcode 241 102 = some (60, 103, 0, 0, []) by decide +kernel) (sa132 hS) h2) ?_
  refine Eq.trans (ev_ci (show zcode 241 103 = some (0, 104, 0, 1, []) by decide +kernel) (by decide)) ?_
  refine Eq.trans (ev_ldi (show zcode 241 104 = some (4, 106, 5, 0, []) by decide +kernel) rfl) ?_
  refine Eq.trans (ev_shl1 (show zcode 241 106 = some (20, 107, 0, 0, []) by decide +kernel) h3) ?_
  refine Eq.trans (ev_ci (show zcode 241 107 = some (0, 108, 0, (-1), []) by decide +kernel) (by decide)) ?_
  refine Eq.trans (ev_xor (show zcode 241 108 = some (16, 109, 0, 0, []) by decide +kernel)) ?_
  refine Eq.trans (ev_and (show zcode 241 109 = some (14, 110, 0, 0, []) by decide +kernel)) ?_
  refine Eq.trans (ev_is (show zcode 241 110 = some (64, 111, 0, 0, []) by decide +kernel) (sa132 hS) h2) ?_
  exact ev_inc (show zcode 241 111 = some (10, 114, 3, 1, []) by decide +kernel) rfl h4 (Or.inr (show ¬ (0 : Nat) = 1 by decide))
theorem b241_114 {T : zT} {V : zM} {x1 : Int} {x2 : Int} {x3 : Int} {x4 : Int} {x5 : Int} (h1 : -2147483648 ≤ (x5 + 1) ∧ (x5 + 1) ≤ 2147483647) : ev 241 114 [(2, 130), (0, x1), (0, x2), (0, x3), (0, x4), (0, x5)] [] T V = ev 241 52 [(2, 130), (0, x1), (0, x2), (0, x3), (0, x4), (0, (x5 + 1))] [] T V := by
  refine Eq.trans (ev_inc (show zcode 241 114 = some (10, 117, 5, 1, []) by decide +kernel) rfl h1 (Or.inr (show ¬ (0 : Nat) = 1 by decide))) ?_
  exact ev_goto (show zcode 241 117 = some (53, 120, 52, 0, []) by decide +kernel)
theorem b241_120 {T : zT} {V : zM} {x1 : Int} {x2 : Int} {x3 : Int} {x4 : Int} {x5 : Int} (h1 : -2147483648 ≤ (x4 + 1) ∧ (x4 + 1) ≤ 2147483647) : ev 241 120 [(2, 130), (0, x1), (0, x2), (0, x3), (0, x4), (0, x5)] [] T V = ev 241 36 [(2, 130), (0, x1), (0, x2), (0, x3), (0, (x4 + 1)), (0, x5)] [] T V := by
  refine Eq.trans (ev_inc (show zcode 241 120 = some (10, 123, 4, 1, []) by decide +kernel) rfl h1 (Or.inr (show ¬ (0 : Nat) = 1 by decide))) ?_
  exact ev_goto (show zcode 241 123 = some (53, 126, 36, 0, []) by decide +kernel)
theorem b241_126 {T : zT} {V : zM} {x1 : Int} {x2 : Int} {x3 : Int} {x4 : Int} {v5 : zV} (hS : zStr T)  : ev 241 126 [(2, 130), (0, x1), (0, x2), (0, x3), (0, x4), v5] [] T V = (zcall 152 [(2, 130), (0, x3)] T V).bind fun x => ev 241 131 [(2, 130), (0, x1), (0, x2), (0, x3), (0, x4), v5] (z_push x.1 []) x.2.1 x.2.2 := by
  refine Eq.trans (ev_lda (show zcode 241 126 = some (6, 127, 0, 0, []) by decide +kernel) rfl (by decide)) ?_
  refine Eq.trans (ev_ldi (show zcode 241 127 = some (4, 128, 3, 0, []) by decide +kernel) rfl) ?_
  exact ev_cvirt (show zcode 241 128 = some (76, 131, 152, 2, [12]) by decide +kernel) (args := [(0, x3)]) (rest := []) rfl (so130 hS) rfl (show 0 ≤ 8 by decide) ⟨by decide, show 2 ≤ 2 by decide⟩
theorem b241_131 {T : zT} {V : zM} {x1 : Int} {x2 : Int} {x3 : Int} {x4 : Int} {v5 : zV} {y0 : Int} : ev 241 131 [(2, 130), (0, x1), (0, x2), (0, x3), (0, x4), v5] [(0, y0)] T V = some ((0, y0), T, V) := by
  exact ev_ri (show zcode 241 131 = some (72, 132, 0, 0, []) by decide +kernel)
/-! 242: TwoWayWallModel.draws(I)I -/
theorem e242 {T : zT} {V : zM} {x1 : Int} : zcall 242 [(2, 130), (0, x1)] T V = ev 242 0 [(2, 130), (0, x1)] [] T V := rfl
theorem b242_0 {T : zT} {V : zM} {x1 : Int} (hS : zStr T) (h1 : -9223372036854775808 ≤ (1103 * (V 130 37)) ∧ (1103 * (V 130 37)) ≤ 9223372036854775807) (h2 : -9223372036854775808 ≤ ((1103 * (V 130 37)) + 12345) ∧ ((1103 * (V 130 37)) + 12345) ≤ 9223372036854775807) (h3 : (0 : Int) ≤ ((1103 * (V 130 37)) + 12345)) (h4 : -2147483648 ≤ (((1103 * (V 130 37)) + 12345) % 1000003) ∧ (((1103 * (V 130 37)) + 12345) % 1000003) ≤ 2147483647) (h5 : (0 : Int) ≤ ((zwr V 130 37 (((1103 * (V 130 37)) + 12345) % 1000003)) 130 37) ∧ 0 < x1) : ev 242 0 [(2, 130), (0, x1)] [] T V = some ((0, (((zwr V 130 37 (((1103 * (V 130 37)) + 12345) % 1000003)) 130 37) % x1)), T, (zwr V 130 37 (((1103 * (V 130 37)) + 12345) % 1000003))) := by
  refine Eq.trans (ev_lda (show zcode 242 0 = some (6, 1, 0, 0, []) by decide +kernel) rfl (by decide)) ?_
  refine Eq.trans (ev_cl (show zcode 242 1 = some (1, 4, 0, 1103, []) by decide +kernel) (by decide)) ?_
  refine Eq.trans (ev_lda (show zcode 242 4 = some (6, 5, 0, 0, []) by decide +kernel) rfl (by decide)) ?_
  refine Eq.trans (ev_gi (show zcode 242 5 = some (55, 8, 12, 37, []) by decide +kernel) (so130 hS)) ?_
  refine Eq.trans (ev_i2l (show zcode 242 8 = some (32, 9, 0, 0, []) by decide +kernel)) ?_
  refine Eq.trans (ev_lmul (show zcode 242 9 = some (25, 10, 0, 0, []) by decide +kernel) h1) ?_
  refine Eq.trans (ev_cl (show zcode 242 10 = some (1, 13, 0, 12345, []) by decide +kernel) (by decide)) ?_
  refine Eq.trans (ev_ladd (show zcode 242 13 = some (23, 14, 0, 0, []) by decide +kernel) h2) ?_
  refine Eq.trans (ev_cl (show zcode 242 14 = some (1, 17, 0, 1000003, []) by decide +kernel) (by decide)) ?_
  refine Eq.trans (ev_lrem (show zcode 242 17 = some (28, 18, 0, 0, []) by decide +kernel) ⟨h3, by decide⟩) ?_
  refine Eq.trans (ev_l2i (show zcode 242 18 = some (33, 19, 0, 0, []) by decide +kernel) h4) ?_
  refine Eq.trans (ev_pi (show zcode 242 19 = some (57, 22, 12, 37, []) by decide +kernel) (so130 hS)) ?_
  refine Eq.trans (ev_lda (show zcode 242 22 = some (6, 23, 0, 0, []) by decide +kernel) rfl (by decide)) ?_
  refine Eq.trans (ev_gi (show zcode 242 23 = some (55, 26, 12, 37, []) by decide +kernel) (so130 hS)) ?_
  refine Eq.trans (ev_ldi (show zcode 242 26 = some (4, 27, 1, 0, []) by decide +kernel) rfl) ?_
  refine Eq.trans (ev_rem (show zcode 242 27 = some (18, 28, 0, 0, []) by decide +kernel) h5) ?_
  exact ev_ri (show zcode 242 28 = some (72, 29, 0, 0, []) by decide +kernel)
/-! 243: TwoWayWallModel.count(I)I -/
theorem e243 {T : zT} {V : zM} {x1 : Int} : zcall 243 [(2, 130), (0, x1)] T V = ev 243 0 [(2, 130), (0, x1), (9, 0), (9, 0), (9, 0)] [] T V := rfl
theorem b243_0 {T : zT} {V : zM} {x1 : Int} : ev 243 0 [(2, 130), (0, x1), (9, 0), (9, 0), (9, 0)] [] T V = (zcall 150 [(0, x1), (0, 15), (0, 21)] T V).bind fun x => ev 243 8 [(2, 130), (0, x1), (9, 0), (9, 0), (9, 0)] (z_push x.1 []) x.2.1 x.2.2 := by
  refine Eq.trans (ev_ldi (show zcode 243 0 = some (4, 1, 1, 0, []) by decide +kernel) rfl) ?_
  refine Eq.trans (ev_ci (show zcode 243 1 = some (0, 3, 0, 15, []) by decide +kernel) (by decide)) ?_
  refine Eq.trans (ev_ci (show zcode 243 3 = some (0, 5, 0, 21, []) by decide +kernel) (by decide)) ?_
  exact ev_cstat (show zcode 243 5 = some (74, 8, 150, 3, []) by decide +kernel) (args := [(0, x1), (0, 15), (0, 21)]) (rest := []) rfl rfl (show 0 ≤ 8 by decide) ⟨by decide, show 3 ≤ 3 by decide⟩
theorem b243_8 {T : zT} {V : zM} {x1 : Int} {y0 : Int} : ev 243 8 [(2, 130), (0, x1), (9, 0), (9, 0), (9, 0)] [(0, y0)] T V = if y0 = 0 then ev 243 27 [(2, 130), (0, x1), (9, 0), (9, 0), (9, 0)] [] T V else ev 243 11 [(2, 130), (0, x1), (9, 0), (9, 0), (9, 0)] [] T V := by
  exact ev_eq (show zcode 243 8 = some (40, 11, 27, 0, []) by decide +kernel)
theorem b243_11 {T : zT} {V : zM} {x1 : Int} (hS : zStr T) (h1 : -2147483648 ≤ (286 + x1) ∧ (286 + x1) ≤ 2147483647) (h2 : -2147483648 ≤ ((286 + x1) - 15) ∧ ((286 + x1) - 15) ≤ 2147483647) (h3 : (0 : Int) ≤ ((286 + x1) - 15) ∧ ((286 + x1) - 15) < 428) (h4 : -2147483648 ≤ ((V 132 ((286 + x1) - 15)) + 1) ∧ ((V 132 ((286 + x1) - 15)) + 1) ≤ 2147483647) : ev 243 11 [(2, 130), (0, x1), (9, 0), (9, 0), (9, 0)] [] T V = some ((0, ((V 132 ((286 + x1) - 15)) + 1)), T, V) := by
  refine Eq.trans (ev_lda (show zcode 243 11 = some (6, 12, 0, 0, []) by decide +kernel) rfl (by decide)) ?_
  refine Eq.trans (ev_gq (show zcode 243 12 = some (56, 15, 12, 4, []) by decide +kernel) (so130 hS) (sp130_4 hS)) ?_
  refine Eq.trans (ev_ci (show zcode 243 15 = some (0, 18, 0, 286, []) by decide +kernel) (by decide)) ?_
  refine Eq.trans (ev_ldi (show zcode 243 18 = some (4, 19, 1, 0, []) by decide +kernel) rfl) ?_
  refine Eq.trans (ev_add (show zcode 243 19 = some (11, 20, 0, 0, []) by decide +kernel) h1) ?_
  refine Eq.trans (ev_ci (show zcode 243 20 = some (0, 22, 0, 15, []) by decide +kernel) (by decide)) ?_
  refine Eq.trans (ev_sub (show zcode 243 22 = some (12, 23, 0, 0, []) by decide +kernel) h2) ?_
  refine Eq.trans (ev_ia (show zcode 243 23 = some (60, 24, 0, 0, []) by decide +kernel) (sa132 hS) h3) ?_
  refine Eq.trans (ev_ci (show zcode 243 24 = some (0, 25, 0, 1, []) by decide +kernel) (by decide)) ?_
  refine Eq.trans (ev_add (show zcode 243 25 = some (11, 26, 0, 0, []) by decide +kernel) h4) ?_
  exact ev_ri (show zcode 243 26 = some (72, 27, 0, 0, []) by decide +kernel)
theorem b243_27 {T : zT} {V : zM} {x1 : Int} : ev 243 27 [(2, 130), (0, x1), (9, 0), (9, 0), (9, 0)] [] T V = (zcall 150 [(0, x1), (0, 22), (0, 28)] T V).bind fun x => ev 243 35 [(2, 130), (0, x1), (9, 0), (9, 0), (9, 0)] (z_push x.1 []) x.2.1 x.2.2 := by
  refine Eq.trans (ev_ldi (show zcode 243 27 = some (4, 28, 1, 0, []) by decide +kernel) rfl) ?_
  refine Eq.trans (ev_ci (show zcode 243 28 = some (0, 30, 0, 22, []) by decide +kernel) (by decide)) ?_
  refine Eq.trans (ev_ci (show zcode 243 30 = some (0, 32, 0, 28, []) by decide +kernel) (by decide)) ?_
  exact ev_cstat (show zcode 243 32 = some (74, 35, 150, 3, []) by decide +kernel) (args := [(0, x1), (0, 22), (0, 28)]) (rest := []) rfl rfl (show 0 ≤ 8 by decide) ⟨by decide, show 3 ≤ 3 by decide⟩
theorem b243_35 {T : zT} {V : zM} {x1 : Int} {y0 : Int} : ev 243 35 [(2, 130), (0, x1), (9, 0), (9, 0), (9, 0)] [(0, y0)] T V = if y0 = 0 then ev 243 52 [(2, 130), (0, x1), (9, 0), (9, 0), (9, 0)] [] T V else ev 243 38 [(2, 130), (0, x1), (9, 0), (9, 0), (9, 0)] [] T V := by
  exact ev_eq (show zcode 243 35 = some (40, 38, 52, 0, []) by decide +kernel)
theorem b243_38 {T : zT} {V : zM} {x1 : Int} (hS : zStr T) (h1 : -2147483648 ≤ (293 + x1) ∧ (293 + x1) ≤ 2147483647) (h2 : -2147483648 ≤ ((293 + x1) - 22) ∧ ((293 + x1) - 22) ≤ 2147483647) (h3 : (0 : Int) ≤ ((293 + x1) - 22) ∧ ((293 + x1) - 22) < 428) : ev 243 38 [(2, 130), (0, x1), (9, 0), (9, 0), (9, 0)] [] T V = some ((0, (V 132 ((293 + x1) - 22))), T, V) := by
  refine Eq.trans (ev_lda (show zcode 243 38 = some (6, 39, 0, 0, []) by decide +kernel) rfl (by decide)) ?_
  refine Eq.trans (ev_gq (show zcode 243 39 = some (56, 42, 12, 4, []) by decide +kernel) (so130 hS) (sp130_4 hS)) ?_
  refine Eq.trans (ev_ci (show zcode 243 42 = some (0, 45, 0, 293, []) by decide +kernel) (by decide)) ?_
  refine Eq.trans (ev_ldi (show zcode 243 45 = some (4, 46, 1, 0, []) by decide +kernel) rfl) ?_
  refine Eq.trans (ev_add (show zcode 243 46 = some (11, 47, 0, 0, []) by decide +kernel) h1) ?_
  refine Eq.trans (ev_ci (show zcode 243 47 = some (0, 49, 0, 22, []) by decide +kernel) (by decide)) ?_
  refine Eq.trans (ev_sub (show zcode 243 49 = some (12, 50, 0, 0, []) by decide +kernel) h2) ?_
  refine Eq.trans (ev_ia (show zcode 243 50 = some (60, 51, 0, 0, []) by decide +kernel) (sa132 hS) h3) ?_
  exact ev_ri (show zcode 243 51 = some (72, 52, 0, 0, []) by decide +kernel)
theorem b243_52 {T : zT} {V : zM} {x1 : Int} : ev 243 52 [(2, 130), (0, x1), (9, 0), (9, 0), (9, 0)] [] T V = ev 243 59 [(2, 130), (0, x1), (0, 0), (0, 0), (0, 0)] [] T V := by
  refine Eq.trans (ev_ci (show zcode 243 52 = some (0, 53, 0, 0, []) by decide +kernel) (by decide)) ?_
  refine Eq.trans (ev_sti (show zcode 243 53 = some (7, 54, 2, 0, []) by decide +kernel) ⟨show 2 < 5 by decide, Or.inr (show ¬ (0 : Nat) = 1 by decide)⟩) ?_
  refine Eq.trans (ev_ci (show zcode 243 54 = some (0, 55, 0, 0, []) by decide +kernel) (by decide)) ?_
  refine Eq.trans (ev_sti (show zcode 243 55 = some (7, 56, 3, 0, []) by decide +kernel) ⟨show 3 < 5 by decide, Or.inr (show ¬ (0 : Nat) = 1 by decide)⟩) ?_
  refine Eq.trans (ev_ci (show zcode 243 56 = some (0, 57, 0, 0, []) by decide +kernel) (by decide)) ?_
  exact ev_sti (show zcode 243 57 = some (7, 59, 4, 0, []) by decide +kernel) ⟨show 4 < 5 by decide, Or.inr (show ¬ (0 : Nat) = 1 by decide)⟩
theorem b243_59 {T : zT} {V : zM} {x1 : Int} {x2 : Int} {x3 : Int} {x4 : Int} : ev 243 59 [(2, 130), (0, x1), (0, x2), (0, x3), (0, x4)] [] T V = if 26 ≤ x4 then ev 243 94 [(2, 130), (0, x1), (0, x2), (0, x3), (0, x4)] [] T V else ev 243 66 [(2, 130), (0, x1), (0, x2), (0, x3), (0, x4)] [] T V := by
  refine Eq.trans (ev_ldi (show zcode 243 59 = some (4, 61, 4, 0, []) by decide +kernel) rfl) ?_
  refine Eq.trans (ev_ci (show zcode 243 61 = some (0, 63, 0, 26, []) by decide +kernel) (by decide)) ?_
  exact ev_cge (show zcode 243 63 = some (49, 66, 94, 0, []) by decide +kernel)
theorem b243_66 {T : zT} {V : zM} {x1 : Int} {x2 : Int} {x3 : Int} {x4 : Int} (hS : zStr T)  : ev 243 66 [(2, 130), (0, x1), (0, x2), (0, x3), (0, x4)] [] T V = (zcall 185 [(2, 130), (0, 0), (0, x4), (0, 0)] T V).bind fun x => ev 243 75 [(2, 130), (0, x1), (0, x2), (0, x3), (0, x4)] (z_push x.1 [(0, x2)]) x.2.1 x.2.2 := by
  refine Eq.trans (ev_ldi (show zcode 243 66 = some (4, 67, 2, 0, []) by decide +kernel) rfl) ?_
  refine Eq.trans (ev_lda (show zcode 243 67 = some (6, 68, 0, 0, []) by decide +kernel) rfl (by decide)) ?_
  refine Eq.trans (ev_ci (show zcode 243 68 = some (0, 69, 0, 0, []) by decide +kernel) (by decide)) ?_
  refine Eq.trans (ev_ldi (show zcode 243 69 = some (4, 71, 4, 0, []) by decide +kernel) rfl) ?_
  refine Eq.trans (ev_ci (show zcode 243 71 = some (0, 72, 0, 0, []) by decide +kernel) (by decide)) ?_
  exact ev_cvirt (show zcode 243 72 = some (76, 75, 185, 4, [12]) by decide +kernel) (args := [(0, 0), (0, x4), (0, 0)]) (rest := [(0, x2)]) rfl (so130 hS) rfl (show 1 ≤ 8 by decide) ⟨by decide, show 4 ≤ 4 by decide⟩
theorem b243_75 {T : zT} {V : zM} {x1 : Int} {x2 : Int} {x3 : Int} {x4 : Int} {y0 : Int} {y1 : Int} (hS : zStr T) (h1 : -2147483648 ≤ (y0 + y1) ∧ (y0 + y1) ≤ 2147483647) : ev 243 75 [(2, 130), (0, x1), (0, x2), (0, x3), (0, x4)] [(0, y1), (0, y0)] T V = (zcall 185 [(2, 130), (0, 1), (0, x4), (0, 0)] T V).bind fun x => ev 243 86 [(2, 130), (0, x1), (0, (y0 + y1)), (0, x3), (0, x4)] (z_push x.1 [(0, x3)]) x.2.1 x.2.2 := by
  refine Eq.trans (ev_add (show zcode 243 75 = some (11, 76, 0, 0, []) by decide +kernel) h1) ?_
  refine Eq.trans (ev_sti (show zcode 243 76 = some (7, 77, 2, 0, []) by decide +kernel) ⟨show 2 < 5 by decide, Or.inr (show ¬ (0 : Nat) = 1 by decide)⟩) ?_
  refine Eq.trans (ev_ldi (show zcode 243 77 = some (4, 78, 3, 0, []) by decide +kernel) rfl) ?_
  refine Eq.trans (ev_lda (show zcode 243 78 = some (6, 79, 0, 0, []) by decide +kernel) rfl (by decide)) ?_
  refine Eq.trans (ev_ci (show zcode 243 79 = some (0, 80, 0, 1, []) by decide +kernel) (by decide)) ?_
  refine Eq.trans (ev_ldi (show zcode 243 80 = some (4, 82, 4, 0, []) by decide +kernel) rfl) ?_
  refine Eq.trans (ev_ci (show zcode 243 82 = some (0, 83, 0, 0, []) by decide +kernel) (by decide)) ?_
  exact ev_cvirt (show zcode 243 83 = some (76, 86, 185, 4, [12]) by decide +kernel) (args := [(0, 1), (0, x4), (0, 0)]) (rest := [(0, x3)]) rfl (so130 hS) rfl (show 1 ≤ 8 by decide) ⟨by decide, show 4 ≤ 4 by decide⟩
theorem b243_86 {T : zT} {V : zM} {x1 : Int} {x2 : Int} {x3 : Int} {x4 : Int} {y0 : Int} {y1 : Int} (h1 : -2147483648 ≤ (y0 + y1) ∧ (y0 + y1) ≤ 2147483647) (h2 : -2147483648 ≤ (x4 + 1) ∧ (x4 + 1) ≤ 2147483647) : ev 243 86 [(2, 130), (0, x1), (0, x2), (0, x3), (0, x4)] [(0, y1), (0, y0)] T V = ev 243 59 [(2, 130), (0, x1), (0, x2), (0, (y0 + y1)), (0, (x4 + 1))] [] T V := by
  refine Eq.trans (ev_add (show zcode 243 86 = some (11, 87, 0, 0, []) by decide +kernel) h1) ?_
  refine Eq.trans (ev_sti (show zcode 243 87 = some (7, 88, 3, 0, []) by decide +kernel) ⟨show 3 < 5 by decide, Or.inr (show ¬ (0 : Nat) = 1 by decide)⟩) ?_
  refine Eq.trans (ev_inc (show zcode 243 88 = some (10, 91, 4, 1, []) by decide +kernel) rfl h2 (Or.inr (show ¬ (0 : Nat) = 1 by decide))) ?_
  exact ev_goto (show zcode 243 91 = some (53, 94, 59, 0, []) by decide +kernel)
theorem b243_94 {T : zT} {V : zM} {x1 : Int} {x2 : Int} {x3 : Int} {x4 : Int} : ev 243 94 [(2, 130), (0, x1), (0, x2), (0, x3), (0, x4)] [] T V = ev 243 (if 0 ≤ x1 ∧ x1 < 0 + ((16 : Nat) : Int) - 1 then ([255, 168, 177, 179, 181, 181, 194, 194, 207, 207, 221, 230, 235, 235, 245, 245] : List Nat).getD ((x1 - 0).toNat + 1) 0 else 255) [(2, 130), (0, x1), (0, x2), (0, x3), (0, x4)] [] T V := by
  refine Eq.trans (ev_ldi (show zcode 243 94 = some (4, 95, 1, 0, []) by decide +kernel) rfl) ?_
  exact ev_sw (show zcode 243 95 = some (54, 168, 0, 0, [255, 168, 177, 179, 181, 181, 194, 194, 207, 207, 221, 230, 235, 235, 245, 245]) by decide +kernel)
theorem b243_168 {T : zT} {V : zM} {x1 : Int} {x2 : Int} {x3 : Int} {x4 : Int} (hS : zStr T)  : ev 243 168 [(2, 130), (0, x1), (0, x2), (0, x3), (0, x4)] [] T V = some ((0, (V 132 427)), T, V) := by
  refine Eq.trans (ev_lda (show zcode 243 168 = some (6, 169, 0, 0, []) by decide +kernel) rfl (by decide)) ?_
  refine Eq.trans (ev_gq (show zcode 243 169 = some (56, 172, 12, 4, []) by decide +kernel) (so130 hS) (sp130_4 hS)) ?_
  refine Eq.trans (ev_ci (show zcode 243 172 = some (0, 175, 0, 427, []) by decide +kernel) (by decide)) ?_
  refine Eq.trans (ev_ia (show zcode 243 175 = some (60, 176, 0, 0, []) by decide +kernel) (sa132 hS) (by decide)) ?_
  exact ev_ri (show zcode 243 176 = some (72, 177, 0, 0, []) by decide +kernel)
theorem b243_177 {T : zT} {V : zM} {x1 : Int} {x2 : Int} {x3 : Int} {x4 : Int} : ev 243 177 [(2, 130), (0, x1), (0, x2), (0, x3), (0, x4)] [] T V = some ((0, x2), T, V) := by
  refine Eq.trans (ev_ldi (show zcode 243 177 = some (4, 178, 2, 0, []) by decide +kernel) rfl) ?_
  exact ev_ri (show zcode 243 178 = some (72, 179, 0, 0, []) by decide +kernel)
theorem b243_179 {T : zT} {V : zM} {x1 : Int} {x2 : Int} {x3 : Int} {x4 : Int} : ev 243 179 [(2, 130), (0, x1), (0, x2), (0, x3), (0, x4)] [] T V = some ((0, x3), T, V) := by
  refine Eq.trans (ev_ldi (show zcode 243 179 = some (4, 180, 3, 0, []) by decide +kernel) rfl) ?_
  exact ev_ri (show zcode 243 180 = some (72, 181, 0, 0, []) by decide +kernel)
theorem b243_181 {T : zT} {V : zM} {x1 : Int} {x2 : Int} {x3 : Int} {x4 : Int} (hS : zStr T) (h1 : -2147483648 ≤ (284 + x1) ∧ (284 + x1) ≤ 2147483647) (h2 : -2147483648 ≤ ((284 + x1) - 3) ∧ ((284 + x1) - 3) ≤ 2147483647) (h3 : (0 : Int) ≤ ((284 + x1) - 3) ∧ ((284 + x1) - 3) < 428) : ev 243 181 [(2, 130), (0, x1), (0, x2), (0, x3), (0, x4)] [] T V = some ((0, (V 132 ((284 + x1) - 3))), T, V) := by
  refine Eq.trans (ev_lda (show zcode 243 181 = some (6, 182, 0, 0, []) by decide +kernel) rfl (by decide)) ?_
  refine Eq.trans (ev_gq (show zcode 243 182 = some (56, 185, 12, 4, []) by decide +kernel) (so130 hS) (sp130_4 hS)) ?_
  refine Eq.trans (ev_ci (show zcode 243 185 = some (0, 188, 0, 284, []) by decide +kernel) (by decide)) ?_
  refine Eq.trans (ev_ldi (show zcode 243 188 = some (4, 189, 1, 0, []) by decide +kernel) rfl) ?_
  refine Eq.trans (ev_add (show zcode 243 189 = some (11, 190, 0, 0, []) by decide +kernel) h1) ?_
  refine Eq.trans (ev_ci (show zcode 243 190 = some (0, 191, 0, 3, []) by decide +kernel) (by decide)) ?_
  refine Eq.trans (ev_sub (show zcode 243 191 = some (12, 192, 0, 0, []) by decide +kernel) h2) ?_
  refine Eq.trans (ev_ia (show zcode 243 192 = some (60, 193, 0, 0, []) by decide +kernel) (sa132 hS) h3) ?_
  exact ev_ri (show zcode 243 193 = some (72, 194, 0, 0, []) by decide +kernel)
theorem b243_194 {T : zT} {V : zM} {x1 : Int} {x2 : Int} {x3 : Int} {x4 : Int} (hS : zStr T) (h1 : -2147483648 ≤ (364 + x1) ∧ (364 + x1) ≤ 2147483647) (h2 : -2147483648 ≤ ((364 + x1) - 5) ∧ ((364 + x1) - 5) ≤ 2147483647) (h3 : (0 : Int) ≤ ((364 + x1) - 5) ∧ ((364 + x1) - 5) < 428) : ev 243 194 [(2, 130), (0, x1), (0, x2), (0, x3), (0, x4)] [] T V = some ((0, (V 132 ((364 + x1) - 5))), T, V) := by
  refine Eq.trans (ev_lda (show zcode 243 194 = some (6, 195, 0, 0, []) by decide +kernel) rfl (by decide)) ?_
  refine Eq.trans (ev_gq (show zcode 243 195 = some (56, 198, 12, 4, []) by decide +kernel) (so130 hS) (sp130_4 hS)) ?_
  refine Eq.trans (ev_ci (show zcode 243 198 = some (0, 201, 0, 364, []) by decide +kernel) (by decide)) ?_
  refine Eq.trans (ev_ldi (show zcode 243 201 = some (4, 202, 1, 0, []) by decide +kernel) rfl) ?_
  refine Eq.trans (ev_add (show zcode 243 202 = some (11, 203, 0, 0, []) by decide +kernel) h1) ?_
  refine Eq.trans (ev_ci (show zcode 243 203 = some (0, 204, 0, 5, []) by decide +kernel) (by decide)) ?_
  refine Eq.trans (ev_sub (show zcode 243 204 = some (12, 205, 0, 0, []) by decide +kernel) h2) ?_
  refine Eq.trans (ev_ia (show zcode 243 205 = some (60, 206, 0, 0, []) by decide +kernel) (sa132 hS) h3) ?_
  exact ev_ri (show zcode 243 206 = some (72, 207, 0, 0, []) by decide +kernel)
theorem b243_207 {T : zT} {V : zM} {x1 : Int} {x2 : Int} {x3 : Int} {x4 : Int} (hS : zStr T) (h1 : -2147483648 ≤ (374 + x1) ∧ (374 + x1) ≤ 2147483647) (h2 : -2147483648 ≤ ((374 + x1) - 7) ∧ ((374 + x1) - 7) ≤ 2147483647) (h3 : (0 : Int) ≤ ((374 + x1) - 7) ∧ ((374 + x1) - 7) < 428) : ev 243 207 [(2, 130), (0, x1), (0, x2), (0, x3), (0, x4)] [] T V = some ((0, (V 132 ((374 + x1) - 7))), T, V) := by
  refine Eq.trans (ev_lda (show zcode 243 207 = some (6, 208, 0, 0, []) by decide +kernel) rfl (by decide)) ?_
  refine Eq.trans (ev_gq (show zcode 243 208 = some (56, 211, 12, 4, []) by decide +kernel) (so130 hS) (sp130_4 hS)) ?_
  refine Eq.trans (ev_ci (show zcode 243 211 = some (0, 214, 0, 374, []) by decide +kernel) (by decide)) ?_
  refine Eq.trans (ev_ldi (show zcode 243 214 = some (4, 215, 1, 0, []) by decide +kernel) rfl) ?_
  refine Eq.trans (ev_add (show zcode 243 215 = some (11, 216, 0, 0, []) by decide +kernel) h1) ?_
  refine Eq.trans (ev_ci (show zcode 243 216 = some (0, 218, 0, 7, []) by decide +kernel) (by decide)) ?_
  refine Eq.trans (ev_sub (show zcode 243 218 = some (12, 219, 0, 0, []) by decide +kernel) h2) ?_
  refine Eq.trans (ev_ia (show zcode 243 219 = some (60, 220, 0, 0, []) by decide +kernel) (sa132 hS) h3) ?_
  exact ev_ri (show zcode 243 220 = some (72, 221, 0, 0, []) by decide +kernel)
theorem b243_221 {T : zT} {V : zM} {x1 : Int} {x2 : Int} {x3 : Int} {x4 : Int} (hS : zStr T)  : ev 243 221 [(2, 130), (0, x1), (0, x2), (0, x3), (0, x4)] [] T V = some ((0, (V 132 426)), T, V) := by
  refine Eq.trans (ev_lda (show zcode 243 221 = some (6, 222, 0, 0, []) by decide +kernel) rfl (by decide)) ?_
  refine Eq.trans (ev_gq (show zcode 243 222 = some (56, 225, 12, 4, []) by decide +kernel) (so130 hS) (sp130_4 hS)) ?_
  refine Eq.trans (ev_ci (show zcode 243 225 = some (0, 228, 0, 426, []) by decide +kernel) (by decide)) ?_
  refine Eq.trans (ev_ia (show zcode 243 228 = some (60, 229, 0, 0, []) by decide +kernel) (sa132 hS) (by decide)) ?_
  exact ev_ri (show zcode 243 229 = some (72, 230, 0, 0, []) by decide +kernel)
theorem b243_230 {T : zT} {V : zM} {x1 : Int} {x2 : Int} {x3 : Int} {x4 : Int} (hS : zStr T)  : ev 243 230 [(2, 130), (0, x1), (0, x2), (0, x3), (0, x4)] [] T V = some ((0, (V 130 12)), T, V) := by
  refine Eq.trans (ev_lda (show zcode 243 230 = some (6, 231, 0, 0, []) by decide +kernel) rfl (by decide)) ?_
  refine Eq.trans (ev_gi (show zcode 243 231 = some (55, 234, 12, 12, []) by decide +kernel) (so130 hS)) ?_
  exact ev_ri (show zcode 243 234 = some (72, 235, 0, 0, []) by decide +kernel)
theorem b243_235 {T : zT} {V : zM} {x1 : Int} {x2 : Int} {x3 : Int} {x4 : Int} (hS : zStr T) (h1 : -2147483648 ≤ (x1 - 10) ∧ (x1 - 10) ≤ 2147483647) (h2 : (0 : Int) ≤ (x1 - 10) ∧ (x1 - 10) < 7) : ev 243 235 [(2, 130), (0, x1), (0, x2), (0, x3), (0, x4)] [] T V = some ((0, (V 131 (x1 - 10))), T, V) := by
  refine Eq.trans (ev_lda (show zcode 243 235 = some (6, 236, 0, 0, []) by decide +kernel) rfl (by decide)) ?_
  refine Eq.trans (ev_gq (show zcode 243 236 = some (56, 239, 12, 3, []) by decide +kernel) (so130 hS) (sp130_3 hS)) ?_
  refine Eq.trans (ev_ldi (show zcode 243 239 = some (4, 240, 1, 0, []) by decide +kernel) rfl) ?_
  refine Eq.trans (ev_ci (show zcode 243 240 = some (0, 242, 0, 10, []) by decide +kernel) (by decide)) ?_
  refine Eq.trans (ev_sub (show zcode 243 242 = some (12, 243, 0, 0, []) by decide +kernel) h1) ?_
  refine Eq.trans (ev_ia (show zcode 243 243 = some (60, 244, 0, 0, []) by decide +kernel) (sa131 hS) h2) ?_
  exact ev_ri (show zcode 243 244 = some (72, 245, 0, 0, []) by decide +kernel)
theorem b243_245 {T : zT} {V : zM} {x1 : Int} {x2 : Int} {x3 : Int} {x4 : Int} (hS : zStr T) (h1 : -2147483648 ≤ (x1 - 8) ∧ (x1 - 8) ≤ 2147483647) (h2 : (0 : Int) ≤ (x1 - 8) ∧ (x1 - 8) < 7) : ev 243 245 [(2, 130), (0, x1), (0, x2), (0, x3), (0, x4)] [] T V = some ((0, (V 131 (x1 - 8))), T, V) := by
  refine Eq.trans (ev_lda (show zcode 243 245 = some (6, 246, 0, 0, []) by decide +kernel) rfl (by decide)) ?_
  refine Eq.trans (ev_gq (show zcode 243 246 = some (56, 249, 12, 3, []) by decide +kernel) (so130 hS) (sp130_3 hS)) ?_
  refine Eq.trans (ev_ldi (show zcode 243 249 = some (4, 250, 1, 0, []) by decide +kernel) rfl) ?_
  refine Eq.trans (ev_ci (show zcode 243 250 = some (0, 252, 0, 8, []) by decide +kernel) (by decide)) ?_
  refine Eq.trans (ev_sub (show zcode 243 252 = some (12, 253, 0, 0, []) by decide +kernel) h1) ?_
  refine Eq.trans (ev_ia (show zcode 243 253 = some (60, 254, 0, 0, []) by decide +kernel) (sa131 hS) h2) ?_
  exact ev_ri (show zcode 243 254 = some (72, 255, 0, 0, []) by decide +kernel)
theorem b243_255 {T : zT} {V : zM} {x1 : Int} {x2 : Int} {x3 : Int} {x4 : Int} : ev 243 255 [(2, 130), (0, x1), (0, x2), (0, x3), (0, x4)] [] T V = some ((0, (-1)), T, V) := by
  refine Eq.trans (ev_ci (show zcode 243 255 = some (0, 256, 0, (-1), []) by decide +kernel) (by decide)) ?_
  exact ev_ri (show zcode 243 256 = some (72, 257, 0, 0, []) by decide +kernel)
/-! 244: TwoWayWallModel.status()I -/
theorem e244 {T : zT} {V : zM}  : zcall 244 [(2, 130)] T V = ev 244 0 [(2, 130)] [] T V := rfl
theorem b244_0 {T : zT} {V : zM}  (hS : zStr T)  : ev 244 0 [(2, 130)] [] T V = some ((0, (V 130 0)), T, V) := by
  refine Eq.trans (ev_lda (show zcode 244 0 = some (6, 1, 0, 0, []) by decide +kernel) rfl (by decide)) ?_
  refine Eq.trans (ev_gi (show zcode 244 1 = some (55, 4, 12, 0, []) by decide +kernel) (so130 hS)) ?_
  exact ev_ri (show zcode 244 4 = some (72, 5, 0, 0, []) by decide +kernel)
