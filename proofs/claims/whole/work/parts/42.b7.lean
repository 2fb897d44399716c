/-! printed by blocks.py: the blocks of methods [0] -/
/-! 0: TwoWayWallLaw.law([I)Z -/
theorem e0 {T : zT} {V : zM}  : zcall 0 [(4, 0)] T V = ev 0 0 [(4, 0), (9, 0), (9, 0), (9, 0)] [] T V := rfl
theorem b0_0 {T : zT} {V : zM}  : ev 0 0 [(4, 0), (9, 0), (9, 0), (9, 0)] [] T V = ev 0 3 [(4, 0), (9, 0), (9, 0), (9, 0)] [(2, (zsz T))] (zn T 21 18) (zs V (zsz T) (fun _ => 0)) := by
  exact ev_new (show zcode 0 0 = some (69, 3, 11, 0, []) by decide +kernel) (by decide)
theorem b0_3 {T : zT} {V : zM} {p0 : Int} (h1 : (0 : Int) ≤ p0) : ev 0 3 [(4, 0), (9, 0), (9, 0), (9, 0)] [(2, p0)] T V = (zcall 1 [(2, p0)] T V).bind fun x => ev 0 7 [(4, 0), (9, 0), (9, 0), (9, 0)] (z_push x.1 [(2, p0)]) x.2.1 x.2.2 := by
  refine Eq.trans (ev_dup (show zcode 0 3 = some (36, 4, 0, 0, []) by decide +kernel) (by decide)) ?_
  exact ev_cspec (show zcode 0 4 = some (75, 7, 1, 1, []) by decide +kernel) (args := []) (rest := [(2, p0)]) rfl h1 rfl (show 1 ≤ 8 by decide) ⟨by decide, show 1 ≤ 1 by decide⟩
theorem b0_7 {T : zT} {V : zM} {p0 : Int} : ev 0 7 [(4, 0), (9, 0), (9, 0), (9, 0)] [(2, p0)] T V = ev 0 11 [(4, 0), (2, p0), (9, 0), (9, 0)] [(2, (zsz T))] (zn T 22 38) (zs V (zsz T) (fun _ => 0)) := by
  refine Eq.trans (ev_sta (show zcode 0 7 = some (9, 8, 1, 0, []) by decide +kernel) ⟨show 1 < 4 by decide, Or.inr (show ¬ (4 : Nat) = 1 by decide)⟩) ?_
  exact ev_new (show zcode 0 8 = some (69, 11, 12, 0, []) by decide +kernel) (by decide)
theorem b0_11 {T : zT} {V : zM} {q1 : Int} {p0 : Int} (h1 : (0 : Int) ≤ p0) : ev 0 11 [(4, 0), (2, q1), (9, 0), (9, 0)] [(2, p0)] T V = (zcall 148 [(2, p0)] T V).bind fun x => ev 0 15 [(4, 0), (2, q1), (9, 0), (9, 0)] (z_push x.1 [(2, p0)]) x.2.1 x.2.2 := by
  refine Eq.trans (ev_dup (show zcode 0 11 = some (36, 12, 0, 0, []) by decide +kernel) (by decide)) ?_
  exact ev_cspec (show zcode 0 12 = some (75, 15, 148, 1, []) by decide +kernel) (args := []) (rest := [(2, p0)]) rfl h1 rfl (show 1 ≤ 8 by decide) ⟨by decide, show 1 ≤ 2 by decide⟩
theorem b0_15 {T : zT} {V : zM} {q1 : Int} {p0 : Int} : ev 0 15 [(4, 0), (2, q1), (9, 0), (9, 0)] [(2, p0)] T V = ev 0 18 [(4, 0), (2, q1), (2, p0), (0, 0)] [] T V := by
  refine Eq.trans (ev_sta (show zcode 0 15 = some (9, 16, 2, 0, []) by decide +kernel) ⟨show 2 < 4 by decide, Or.inr (show ¬ (2 : Nat) = 1 by decide)⟩) ?_
  refine Eq.trans (ev_ci (show zcode 0 16 = some (0, 17, 0, 0, []) by decide +kernel) (by decide)) ?_
  exact ev_sti (show zcode 0 17 = some (7, 18, 3, 0, []) by decide +kernel) ⟨show 3 < 4 by decide, Or.inr (show ¬ (2 : Nat) = 1 by decide)⟩
theorem b0_18 {T : zT} {V : zM} {q1 : Int} {q2 : Int} {x3 : Int} (h1 : -2147483648 ≤ ((zl T (-2)) - 6) ∧ ((zl T (-2)) - 6) ≤ 2147483647) : ev 0 18 [(4, 0), (2, q1), (2, q2), (0, x3)] [] T V = if ((zl T (-2)) - 6) < x3 then ev 0 1277 [(4, 0), (2, q1), (2, q2), (0, x3)] [] T V else ev 0 27 [(4, 0), (2, q1), (2, q2), (0, x3)] [] T V := by
  refine Eq.trans (ev_ldi (show zcode 0 18 = some (4, 19, 3, 0, []) by decide +kernel) rfl) ?_
  refine Eq.trans (ev_lda (show zcode 0 19 = some (6, 20, 0, 0, []) by decide +kernel) rfl (by decide)) ?_
  refine Eq.trans (ev_slen (show zcode 0 20 = some (68, 21, 0, 0, []) by decide +kernel)) ?_
  refine Eq.trans (ev_ci (show zcode 0 21 = some (0, 23, 0, 6, []) by decide +kernel) (by decide)) ?_
  refine Eq.trans (ev_sub (show zcode 0 23 = some (12, 24, 0, 0, []) by decide +kernel) h1) ?_
  exact ev_cgt (show zcode 0 24 = some (50, 27, 1277, 0, []) by decide +kernel)
theorem b0_27 {T : zT} {V : zM} {q1 : Int} {q2 : Int} {x3 : Int} (h1 : (0 : Int) ≤ x3 ∧ x3 < zl T (-2)) : ev 0 27 [(4, 0), (2, q1), (2, q2), (0, x3)] [] T V = ev 0 (if 0 ≤ (zand (V (-2) x3) 63) ∧ (zand (V (-2) x3) 63) < 0 + ((41 : Nat) : Int) - 1 then ([1271, 208, 231, 264, 287, 350, 373, 386, 399, 412, 425, 468, 511, 544, 577, 600, 643, 666, 679, 712, 735, 758, 781, 814, 837, 851, 864, 887, 910, 943, 957, 990, 1024, 1087, 1110, 1133, 1156, 1189, 1212, 1235, 1258] : List Nat).getD (((zand (V (-2) x3) 63) - 0).toNat + 1) 0 else 1271) [(4, 0), (2, q1), (2, q2), (0, x3)] [] T V := by
  refine Eq.trans (ev_lda (show zcode 0 27 = some (6, 28, 0, 0, []) by decide +kernel) rfl (by decide)) ?_
  refine Eq.trans (ev_ldi (show zcode 0 28 = some (4, 29, 3, 0, []) by decide +kernel) rfl) ?_
  refine Eq.trans (ev_scr (show zcode 0 29 = some (60, 30, 0, 0, []) by decide +kernel) h1) ?_
  refine Eq.trans (ev_ci (show zcode 0 30 = some (0, 32, 0, 63, []) by decide +kernel) (by decide)) ?_
  refine Eq.trans (ev_and (show zcode 0 32 = some (14, 33, 0, 0, []) by decide +kernel)) ?_
  exact ev_sw (show zcode 0 33 = some (54, 208, 0, 0, [1271, 208, 231, 264, 287, 350, 373, 386, 399, 412, 425, 468, 511, 544, 577, 600, 643, 666, 679, 712, 735, 758, 781, 814, 837, 851, 864, 887, 910, 943, 957, 990, 1024, 1087, 1110, 1133, 1156, 1189, 1212, 1235, 1258]) by decide +kernel)
theorem b0_208 {T : zT} {V : zM} {q1 : Int} {q2 : Int} {x3 : Int} (h1 : -2147483648 ≤ (x3 + 1) ∧ (x3 + 1) ≤ 2147483647) (h2 : (0 : Int) ≤ (x3 + 1) ∧ (x3 + 1) < zl T (-2)) (h3 : zO T q1 11) : ev 0 208 [(4, 0), (2, q1), (2, q2), (0, x3)] [] T V = (zcall 23 [(2, q1), (0, (V (-2) (x3 + 1)))] T V).bind fun x => ev 0 217 [(4, 0), (2, q1), (2, q2), (0, x3)] (z_push x.1 []) x.2.1 x.2.2 := by
  refine Eq.trans (ev_lda (show zcode 0 208 = some (6, 209, 1, 0, []) by decide +kernel) rfl (by decide)) ?_
  refine Eq.trans (ev_lda (show zcode 0 209 = some (6, 210, 0, 0, []) by decide +kernel) rfl (by decide)) ?_
  refine Eq.trans (ev_ldi (show zcode 0 210 = some (4, 211, 3, 0, []) by decide +kernel) rfl) ?_
  refine Eq.trans (ev_ci (show zcode 0 211 = some (0, 212, 0, 1, []) by decide +kernel) (by decide)) ?_
  refine Eq.trans (ev_add (show zcode 0 212 = some (11, 213, 0, 0, []) by decide +kernel) h1) ?_
  refine Eq.trans (ev_scr (show zcode 0 213 = some (60, 214, 0, 0, []) by decide +kernel) h2) ?_
  exact ev_cvirt (show zcode 0 214 = some (76, 217, 23, 2, [11]) by decide +kernel) (args := [(0, (V (-2) (x3 + 1)))]) (rest := []) rfl h3 rfl (show 0 ≤ 8 by decide) ⟨by decide, show 2 ≤ 3 by decide⟩
theorem b0_217 {T : zT} {V : zM} {q1 : Int} {q2 : Int} {x3 : Int} {y0 : Int} (h1 : -2147483648 ≤ (x3 + 1) ∧ (x3 + 1) ≤ 2147483647) (h2 : (0 : Int) ≤ (x3 + 1) ∧ (x3 + 1) < zl T (-2)) (h3 : zO T q2 12) : ev 0 217 [(4, 0), (2, q1), (2, q2), (0, x3)] [(0, y0)] T V = (zcall 154 [(2, q2), (0, (V (-2) (x3 + 1)))] T V).bind fun x => ev 0 226 [(4, 0), (2, q1), (2, q2), (0, x3)] (z_push x.1 [(0, y0)]) x.2.1 x.2.2 := by
  refine Eq.trans (ev_lda (show zcode 0 217 = some (6, 218, 2, 0, []) by decide +kernel) rfl (by decide)) ?_
  refine Eq.trans (ev_lda (show zcode 0 218 = some (6, 219, 0, 0, []) by decide +kernel) rfl (by decide)) ?_
  refine Eq.trans (ev_ldi (show zcode 0 219 = some (4, 220, 3, 0, []) by decide +kernel) rfl) ?_
  refine Eq.trans (ev_ci (show zcode 0 220 = some (0, 221, 0, 1, []) by decide +kernel) (by decide)) ?_
  refine Eq.trans (ev_add (show zcode 0 221 = some (11, 222, 0, 0, []) by decide +kernel) h1) ?_
  refine Eq.trans (ev_scr (show zcode 0 222 = some (60, 223, 0, 0, []) by decide +kernel) h2) ?_
  exact ev_cvirt (show zcode 0 223 = some (76, 226, 154, 2, [12]) by decide +kernel) (args := [(0, (V (-2) (x3 + 1)))]) (rest := [(0, y0)]) rfl h3 rfl (show 1 ≤ 8 by decide) ⟨by decide, show 2 ≤ 3 by decide⟩
theorem b0_226 {T : zT} {V : zM} {q1 : Int} {q2 : Int} {x3 : Int} {y0 : Int} {y1 : Int} : ev 0 226 [(4, 0), (2, q1), (2, q2), (0, x3)] [(0, y1), (0, y0)] T V = if y0 = y1 then ev 0 1271 [(4, 0), (2, q1), (2, q2), (0, x3)] [] T V else ev 0 229 [(4, 0), (2, q1), (2, q2), (0, x3)] [] T V := by
  exact ev_ceq (show zcode 0 226 = some (46, 229, 1271, 0, []) by decide +kernel)
theorem b0_229 {T : zT} {V : zM} {q1 : Int} {q2 : Int} {x3 : Int} : ev 0 229 [(4, 0), (2, q1), (2, q2), (0, x3)] [] T V = some ((0, 0), T, V) := by
  refine Eq.trans (ev_ci (show zcode 0 229 = some (0, 230, 0, 0, []) by decide +kernel) (by decide)) ?_
  exact ev_rz (show zcode 0 230 = some (72, 231, 3, 0, []) by decide +kernel) (by decide)
theorem b0_231 {T : zT} {V : zM} {q1 : Int} {q2 : Int} {x3 : Int} (h1 : -2147483648 ≤ (x3 + 1) ∧ (x3 + 1) ≤ 2147483647) (h2 : (0 : Int) ≤ (x3 + 1) ∧ (x3 + 1) < zl T (-2)) (h3 : -2147483648 ≤ (x3 + 2) ∧ (x3 + 2) ≤ 2147483647) (h4 : (0 : Int) ≤ (x3 + 2) ∧ (x3 + 2) < zl T (-2)) (h5 : zO T q1 11) : ev 0 231 [(4, 0), (2, q1), (2, q2), (0, x3)] [] T V = (zcall 27 [(2, q1), (0, (V (-2) (x3 + 1))), (0, (V (-2) (x3 + 2)))] T V).bind fun x => ev 0 245 [(4, 0), (2, q1), (2, q2), (0, x3)] (z_push x.1 []) x.2.1 x.2.2 := by
  refine Eq.trans (ev_lda (show zcode 0 231 = some (6, 232, 1, 0, []) by decide +kernel) rfl (by decide)) ?_
  refine Eq.trans (ev_lda (show zcode 0 232 = some (6, 233, 0, 0, []) by decide +kernel) rfl (by decide)) ?_
  refine Eq.trans (ev_ldi (show zcode 0 233 = some (4, 234, 3, 0, []) by decide +kernel) rfl) ?_
  refine Eq.trans (ev_ci (show zcode 0 234 = some (0, 235, 0, 1, []) by decide +kernel) (by decide)) ?_
  refine Eq.trans (ev_add (show zcode 0 235 = some (11, 236, 0, 0, []) by decide +kernel) h1) ?_
  refine Eq.trans (ev_scr (show zcode 0 236 = some (60, 237, 0, 0, []) by decide +kernel) h2) ?_
  refine Eq.trans (ev_lda (show zcode 0 237 = some (6, 238, 0, 0, []) by decide +kernel) rfl (by decide)) ?_
  refine Eq.trans (ev_ldi (show zcode 0 238 = some (4, 239, 3, 0, []) by decide +kernel) rfl) ?_
  refine Eq.trans (ev_ci (show zcode 0 239 = some (0, 240, 0, 2, []) by decide +kernel) (by decide)) ?_
  refine Eq.trans (ev_add (show zcode 0 240 = some (11, 241, 0, 0, []) by decide +kernel) h3) ?_
  refine Eq.trans (ev_scr (show zcode 0 241 = some (60, 242, 0, 0, []) by decide +kernel) h4) ?_
  exact ev_cvirt (show zcode 0 242 = some (76, 245, 27, 3, [11]) by decide +kernel) (args := [(0, (V (-2) (x3 + 1))), (0, (V (-2) (x3 + 2)))]) (rest := []) rfl h5 rfl (show 0 ≤ 8 by decide) ⟨by decide, show 3 ≤ 4 by decide⟩
theorem b0_245 {T : zT} {V : zM} {q1 : Int} {q2 : Int} {x3 : Int} {y0 : Int} (h1 : -2147483648 ≤ (x3 + 1) ∧ (x3 + 1) ≤ 2147483647) (h2 : (0 : Int) ≤ (x3 + 1) ∧ (x3 + 1) < zl T (-2)) (h3 : -2147483648 ≤ (x3 + 2) ∧ (x3 + 2) ≤ 2147483647) (h4 : (0 : Int) ≤ (x3 + 2) ∧ (x3 + 2) < zl T (-2)) (h5 : zO T q2 12) : ev 0 245 [(4, 0), (2, q1), (2, q2), (0, x3)] [(0, y0)] T V = (zcall 156 [(2, q2), (0, (V (-2) (x3 + 1))), (0, (V (-2) (x3 + 2)))] T V).bind fun x => ev 0 259 [(4, 0), (2, q1), (2, q2), (0, x3)] (z_push x.1 [(0, y0)]) x.2.1 x.2.2 := by
  refine Eq.trans (ev_lda (show zcode 0 245 = some (6, 246, 2, 0, []) by decide +kernel) rfl (by decide)) ?_
  refine Eq.trans (ev_lda (show zcode 0 246 = some (6, 247, 0, 0, []) by decide +kernel) rfl (by decide)) ?_
  refine Eq.trans (ev_ldi (show zcode 0 247 = some (4, 248, 3, 0, []) by decide +kernel) rfl) ?_
  refine Eq.trans (ev_ci (show zcode 0 248 = some (0, 249, 0, 1, []) by decide +kernel) (by decide)) ?_
  refine Eq.trans (ev_add (show zcode 0 249 = some (11, 250, 0, 0, []) by decide +kernel) h1) ?_
  refine Eq.trans (ev_scr (show zcode 0 250 = some (60, 251, 0, 0, []) by decide +kernel) h2) ?_
  refine Eq.trans (ev_lda (show zcode 0 251 = some (6, 252, 0, 0, []) by decide +kernel) rfl (by decide)) ?_
  refine Eq.trans (ev_ldi (show zcode 0 252 = some (4, 253, 3, 0, []) by decide +kernel) rfl) ?_
  refine Eq.trans (ev_ci (show zcode 0 253 = some (0, 254, 0, 2, []) by decide +kernel) (by decide)) ?_
  refine Eq.trans (ev_add (show zcode 0 254 = some (11, 255, 0, 0, []) by decide +kernel) h3) ?_
  refine Eq.trans (ev_scr (show zcode 0 255 = some (60, 256, 0, 0, []) by decide +kernel) h4) ?_
  exact ev_cvirt (show zcode 0 256 = some (76, 259, 156, 3, [12]) by decide +kernel) (args := [(0, (V (-2) (x3 + 1))), (0, (V (-2) (x3 + 2)))]) (rest := [(0, y0)]) rfl h5 rfl (show 1 ≤ 8 by decide) ⟨by decide, show 3 ≤ 4 by decide⟩
theorem b0_259 {T : zT} {V : zM} {q1 : Int} {q2 : Int} {x3 : Int} {y0 : Int} {y1 : Int} : ev 0 259 [(4, 0), (2, q1), (2, q2), (0, x3)] [(0, y1), (0, y0)] T V = if y0 = y1 then ev 0 1271 [(4, 0), (2, q1), (2, q2), (0, x3)] [] T V else ev 0 262 [(4, 0), (2, q1), (2, q2), (0, x3)] [] T V := by
  exact ev_ceq (show zcode 0 259 = some (46, 262, 1271, 0, []) by decide +kernel)
theorem b0_262 {T : zT} {V : zM} {q1 : Int} {q2 : Int} {x3 : Int} : ev 0 262 [(4, 0), (2, q1), (2, q2), (0, x3)] [] T V = some ((0, 0), T, V) := by
  refine Eq.trans (ev_ci (show zcode 0 262 = some (0, 263, 0, 0, []) by decide +kernel) (by decide)) ?_
  exact ev_rz (show zcode 0 263 = some (72, 264, 3, 0, []) by decide +kernel) (by decide)
theorem b0_264 {T : zT} {V : zM} {q1 : Int} {q2 : Int} {x3 : Int} (h1 : -2147483648 ≤ (x3 + 1) ∧ (x3 + 1) ≤ 2147483647) (h2 : (0 : Int) ≤ (x3 + 1) ∧ (x3 + 1) < zl T (-2)) (h3 : zO T q1 11) : ev 0 264 [(4, 0), (2, q1), (2, q2), (0, x3)] [] T V = (zcall 30 [(2, q1), (0, (V (-2) (x3 + 1)))] T V).bind fun x => ev 0 273 [(4, 0), (2, q1), (2, q2), (0, x3)] (z_push x.1 []) x.2.1 x.2.2 := by
  refine Eq.trans (ev_lda (show zcode 0 264 = some (6, 265, 1, 0, []) by decide +kernel) rfl (by decide)) ?_
  refine Eq.trans (ev_lda (show zcode 0 265 = some (6, 266, 0, 0, []) by decide +kernel) rfl (by decide)) ?_
  refine Eq.trans (ev_ldi (show zcode 0 266 = some (4, 267, 3, 0, []) by decide +kernel) rfl) ?_
  refine Eq.trans (ev_ci (show zcode 0 267 = some (0, 268, 0, 1, []) by decide +kernel) (by decide)) ?_
  refine Eq.trans (ev_add (show zcode 0 268 = some (11, 269, 0, 0, []) by decide +kernel) h1) ?_
  refine Eq.trans (ev_scr (show zcode 0 269 = some (60, 270, 0, 0, []) by decide +kernel) h2) ?_
  exact ev_cvirt (show zcode 0 270 = some (76, 273, 30, 2, [11]) by decide +kernel) (args := [(0, (V (-2) (x3 + 1)))]) (rest := []) rfl h3 rfl (show 0 ≤ 8 by decide) ⟨by decide, show 2 ≤ 2 by decide⟩
theorem b0_273 {T : zT} {V : zM} {q1 : Int} {q2 : Int} {x3 : Int} {y0 : Int} (h1 : -2147483648 ≤ (x3 + 1) ∧ (x3 + 1) ≤ 2147483647) (h2 : (0 : Int) ≤ (x3 + 1) ∧ (x3 + 1) < zl T (-2)) (h3 : zO T q2 12) : ev 0 273 [(4, 0), (2, q1), (2, q2), (0, x3)] [(0, y0)] T V = (zcall 158 [(2, q2), (0, (V (-2) (x3 + 1)))] T V).bind fun x => ev 0 282 [(4, 0), (2, q1), (2, q2), (0, x3)] (z_push x.1 [(0, y0)]) x.2.1 x.2.2 := by
  refine Eq.trans (ev_lda (show zcode 0 273 = some (6, 274, 2, 0, []) by decide +kernel) rfl (by decide)) ?_
  refine Eq.trans (ev_lda (show zcode 0 274 = some (6, 275, 0, 0, []) by decide +kernel) rfl (by decide)) ?_
  refine Eq.trans (ev_ldi (show zcode 0 275 = some (4, 276, 3, 0, []) by decide +kernel) rfl) ?_
  refine Eq.trans (ev_ci (show zcode 0 276 = some (0, 277, 0, 1, []) by decide +kernel) (by decide)) ?_
  refine Eq.trans (ev_add (show zcode 0 277 = some (11, 278, 0, 0, []) by decide +kernel) h1) ?_
  refine Eq.trans (ev_scr (show zcode 0 278 = some (60, 279, 0, 0, []) by decide +kernel) h2) ?_
  exact ev_cvirt (show zcode 0 279 = some (76, 282, 158, 2, [12]) by decide +kernel) (args := [(0, (V (-2) (x3 + 1)))]) (rest := [(0, y0)]) rfl h3 rfl (show 1 ≤ 8 by decide) ⟨by decide, show 2 ≤ 2 by decide⟩
theorem b0_282 {T : zT} {V : zM} {q1 : Int} {q2 : Int} {x3 : Int} {y0 : Int} {y1 : Int} : ev 0 282 [(4, 0), (2, q1), (2, q2), (0, x3)] [(0, y1), (0, y0)] T V = if y0 = y1 then ev 0 1271 [(4, 0), (2, q1), (2, q2), (0, x3)] [] T V else ev 0 285 [(4, 0), (2, q1), (2, q2), (0, x3)] [] T V := by
  exact ev_ceq (show zcode 0 282 = some (46, 285, 1271, 0, []) by decide +kernel)
theorem b0_285 {T : zT} {V : zM} {q1 : Int} {q2 : Int} {x3 : Int} : ev 0 285 [(4, 0), (2, q1), (2, q2), (0, x3)] [] T V = some ((0, 0), T, V) := by
  refine Eq.trans (ev_ci (show zcode 0 285 = some (0, 286, 0, 0, []) by decide +kernel) (by decide)) ?_
  exact ev_rz (show zcode 0 286 = some (72, 287, 3, 0, []) by decide +kernel) (by decide)
theorem b0_287 {T : zT} {V : zM} {q1 : Int} {q2 : Int} {x3 : Int} (h1 : -2147483648 ≤ (x3 + 1) ∧ (x3 + 1) ≤ 2147483647) (h2 : (0 : Int) ≤ (x3 + 1) ∧ (x3 + 1) < zl T (-2)) (h3 : -2147483648 ≤ (x3 + 2) ∧ (x3 + 2) ≤ 2147483647) (h4 : (0 : Int) ≤ (x3 + 2) ∧ (x3 + 2) < zl T (-2)) (h5 : -2147483648 ≤ (x3 + 3) ∧ (x3 + 3) ≤ 2147483647) (h6 : (0 : Int) ≤ (x3 + 3) ∧ (x3 + 3) < zl T (-2)) (h7 : -2147483648 ≤ (x3 + 4) ∧ (x3 + 4) ≤ 2147483647) (h8 : (0 : Int) ≤ (x3 + 4) ∧ (x3 + 4) < zl T (-2)) (h9 : -2147483648 ≤ (x3 + 5) ∧ (x3 + 5) ≤ 2147483647) (h10 : (0 : Int) ≤ (x3 + 5) ∧ (x3 + 5) < zl T (-2)) (h11 : zO T q1 11) : ev 0 287 [(4, 0), (2, q1), (2, q2), (0, x3)] [] T V = (zcall 31 [(2, q1), (0, (V (-2) (x3 + 1))), (0, (V (-2) (x3 + 2))), (0, (V (-2) (x3 + 3))), (0, (V (-2) (x3 + 4))), (0, (V (-2) (x3 + 5)))] T V).bind fun x => ev 0 316 [(4, 0), (2, q1), (2, q2), (0, x3)] (z_push x.1 []) x.2.1 x.2.2 := by
  refine Eq.trans (ev_lda (show zcode 0 287 = some (6, 288, 1, 0, []) by decide +kernel) rfl (by decide)) ?_
  refine Eq.trans (ev_lda (show zcode 0 288 = some (6, 289, 0, 0, []) by decide +kernel) rfl (by decide)) ?_
  refine Eq.trans (ev_ldi (show zcode 0 289 = some (4, 290, 3, 0, []) by decide +kernel) rfl) ?_
  refine Eq.trans (ev_ci (show zcode 0 290 = some (0, 291, 0, 1, []) by decide +kernel) (by decide)) ?_
  refine Eq.trans (ev_add (show zcode 0 291 = some (11, 292, 0, 0, []) by decide +kernel) h1) ?_
  refine Eq.trans (ev_scr (show zcode 0 292 = some (60, 293, 0, 0, []) by decide +kernel) h2) ?_
  refine Eq.trans (ev_lda (show zcode 0 293 = some (6, 294, 0, 0, []) by decide +kernel) rfl (by decide)) ?_
  refine Eq.trans (ev_ldi (show zcode 0 294 = some (4, 295, 3, 0, []) by decide +kernel) rfl) ?_
  refine Eq.trans (ev_ci (show zcode 0 295 = some (0, 296, 0, 2, []) by decide +kernel) (by decide)) ?_
  refine Eq.trans (ev_add (show zcode 0 296 = some (11, 297, 0, 0, []) by decide +kernel) h3) ?_
  refine Eq.trans (ev_scr (show zcode 0 297 = some (60, 298, 0, 0, []) by decide +kernel) h4) ?_
  refine Eq.trans (ev_lda (show zcode 0 298 = some (6, 299, 0, 0, []) by decide +kernel) rfl (by decide)) ?_
  refine Eq.trans (ev_ldi (show zcode 0 299 = some (4, 300, 3, 0, []) by decide +kernel) rfl) ?_
  refine Eq.trans (ev_ci (show zcode 0 300 = some (0, 301, 0, 3, []) by decide +kernel) (by decide)) ?_
  refine Eq.trans (ev_add (show zcode 0 301 = some (11, 302, 0, 0, []) by decide +kernel) h5) ?_
  refine Eq.trans (ev_scr (show zcode 0 302 = some (60, 303, 0, 0, []) by decide +kernel) h6) ?_
  refine Eq.trans (ev_lda (show zcode 0 303 = some (6, 304, 0, 0, []) by decide +kernel) rfl (by decide)) ?_
  refine Eq.trans (ev_ldi (show zcode 0 304 = some (4, 305, 3, 0, []) by decide +kernel) rfl) ?_
  refine Eq.trans (ev_ci (show zcode 0 305 = some (0, 306, 0, 4, []) by decide +kernel) (by decide)) ?_
  refine Eq.trans (ev_add (show zcode 0 306 = some (11, 307, 0, 0, []) by decide +kernel) h7) ?_
  refine Eq.trans (ev_scr (show zcode 0 307 = some (60, 308, 0, 0, []) by decide +kernel) h8) ?_
  refine Eq.trans (ev_lda (show zcode 0 308 = some (6, 309, 0, 0, []) by decide +kernel) rfl (by decide)) ?_
  refine Eq.trans (ev_ldi (show zcode 0 309 = some (4, 310, 3, 0, []) by decide +kernel) rfl) ?_
  refine Eq.trans (ev_ci (show zcode 0 310 = some (0, 311, 0, 5, []) by decide +kernel) (by decide)) ?_
  refine Eq.trans (ev_add (show zcode 0 311 = some (11, 312, 0, 0, []) by decide +kernel) h9) ?_
  refine Eq.trans (ev_scr (show zcode 0 312 = some (60, 313, 0, 0, []) by decide +kernel) h10) ?_
  exact ev_cvirt (show zcode 0 313 = some (76, 316, 31, 6, [11]) by decide +kernel) (args := [(0, (V (-2) (x3 + 1))), (0, (V (-2) (x3 + 2))), (0, (V (-2) (x3 + 3))), (0, (V (-2) (x3 + 4))), (0, (V (-2) (x3 + 5)))]) (rest := []) rfl h11 rfl (show 0 ≤ 8 by decide) ⟨by decide, show 6 ≤ 6 by decide⟩
theorem b0_316 {T : zT} {V : zM} {q1 : Int} {q2 : Int} {x3 : Int} {y0 : Int} (h1 : -2147483648 ≤ (x3 + 1) ∧ (x3 + 1) ≤ 2147483647) (h2 : (0 : Int) ≤ (x3 + 1) ∧ (x3 + 1) < zl T (-2)) (h3 : -2147483648 ≤ (x3 + 2) ∧ (x3 + 2) ≤ 2147483647) (h4 : (0 : Int) ≤ (x3 + 2) ∧ (x3 + 2) < zl T (-2)) (h5 : -2147483648 ≤ (x3 + 3) ∧ (x3 + 3) ≤ 2147483647) (h6 : (0 : Int) ≤ (x3 + 3) ∧ (x3 + 3) < zl T (-2)) (h7 : -2147483648 ≤ (x3 + 4) ∧ (x3 + 4) ≤ 2147483647) (h8 : (0 : Int) ≤ (x3 + 4) ∧ (x3 + 4) < zl T (-2)) (h9 : -2147483648 ≤ (x3 + 5) ∧ (x3 + 5) ≤ 2147483647) (h10 : (0 : Int) ≤ (x3 + 5) ∧ (x3 + 5) < zl T (-2)) (h11 : zO T q2 12) : ev 0 316 [(4, 0), (2, q1), (2, q2), (0, x3)] [(0, y0)] T V = (zcall 162 [(2, q2), (0, (V (-2) (x3 + 1))), (0, (V (-2) (x3 + 2))), (0, (V (-2) (x3 + 3))), (0, (V (-2) (x3 + 4))), (0, (V (-2) (x3 + 5)))] T V).bind fun x => ev 0 345 [(4, 0), (2, q1), (2, q2), (0, x3)] (z_push x.1 [(0, y0)]) x.2.1 x.2.2 := by
  refine Eq.trans (ev_lda (show zcode 0 316 = some (6, 317, 2, 0, []) by decide +kernel) rfl (by decide)) ?_
  refine Eq.trans (ev_lda (show zcode 0 317 = some (6, 318, 0, 0, []) by decide +kernel) rfl (by decide)) ?_
  refine Eq.trans (ev_ldi (show zcode 0 318 = some (4, 319, 3, 0, []) by decide +kernel) rfl) ?_
  refine Eq.trans (ev_ci (show zcode 0 319 = some (0, 320, 0, 1, []) by decide +kernel) (by decide)) ?_
  refine Eq.trans (ev_add (show zcode 0 320 = some (11, 321, 0, 0, []) by decide +kernel) h1) ?_
  refine Eq.trans (ev_scr (show zcode 0 321 = some (60, 322, 0, 0, []) by decide +kernel) h2) ?_
  refine Eq.trans (ev_lda (show zcode 0 322 = some (6, 323, 0, 0, []) by decide +kernel) rfl (by decide)) ?_
  refine Eq.trans (ev_ldi (show zcode 0 323 = some (4, 324, 3, 0, []) by decide +kernel) rfl) ?_
  refine Eq.trans (ev_ci (show zcode 0 324 = some (0, 325, 0, 2, []) by decide +kernel) (by decide)) ?_
  refine Eq.trans (ev_add (show zcode 0 325 = some (11, 326, 0, 0, []) by decide +kernel) h3) ?_
  refine Eq.trans (ev_scr (show zcode 0 326 = some (60, 327, 0, 0, []) by decide +kernel) h4) ?_
  refine Eq.trans (ev_lda (show zcode 0 327 = some (6, 328, 0, 0, []) by decide +kernel) rfl (by decide)) ?_
  refine Eq.trans (ev_ldi (show zcode 0 328 = some (4, 329, 3, 0, []) by decide +kernel) rfl) ?_
  refine Eq.trans (ev_ci (show zcode 0 329 = some (0, 330, 0, 3, []) by decide +kernel) (by decide)) ?_
  refine Eq.trans (ev_add (show zcode 0 330 = some (11, 331, 0, 0, []) by decide +kernel) h5) ?_
  refine Eq.trans (ev_scr (show zcode 0 331 = some (60, 332, 0, 0, []) by decide +kernel) h6) ?_
  refine Eq.trans (ev_lda (show zcode 0 332 = some (6, 333, 0, 0, []) by decide +kernel) rfl (by decide)) ?_
  refine Eq.trans (ev_ldi (show zcode 0 333 = some (4, 334, 3, 0, []) by decide +kernel) rfl) ?_
  refine Eq.trans (ev_ci (show zcode 0 334 = some (0, 335, 0, 4, []) by decide +kernel) (by decide)) ?_
  refine Eq.trans (ev_add (show zcode 0 335 = some (11, 336, 0, 0, []) by decide +kernel) h7) ?_
  refine Eq.trans (ev_scr (show zcode 0 336 = some (60, 337, 0, 0, []) by decide +kernel) h8) ?_
  refine Eq.trans (ev_lda (show zcode 0 337 = some (6, 338, 0, 0, []) by decide +kernel) rfl (by decide)) ?_
  refine Eq.trans (ev_ldi (show zcode 0 338 = some (4, 339, 3, 0, []) by decide +kernel) rfl) ?_
  refine Eq.trans (ev_ci (show zcode 0 339 = some (0, 340, 0, 5, []) by decide +kernel) (by decide)) ?_
  refine Eq.trans (ev_add (show zcode 0 340 = some (11, 341, 0, 0, []) by decide +kernel) h9) ?_
  refine Eq.trans (ev_scr (show zcode 0 341 = some (60, 342, 0, 0, []) by decide +kernel) h10) ?_
  exact ev_cvirt (show zcode 0 342 = some (76, 345, 162, 6, [12]) by decide +kernel) (args := [(0, (V (-2) (x3 + 1))), (0, (V (-2) (x3 + 2))), (0, (V (-2) (x3 + 3))), (0, (V (-2) (x3 + 4))), (0, (V (-2) (x3 + 5)))]) (rest := [(0, y0)]) rfl h11 rfl (show 1 ≤ 8 by decide) ⟨by decide, show 6 ≤ 7 by decide⟩
theorem b0_345 {T : zT} {V : zM} {q1 : Int} {q2 : Int} {x3 : Int} {y0 : Int} {y1 : Int} : ev 0 345 [(4, 0), (2, q1), (2, q2), (0, x3)] [(0, y1), (0, y0)] T V = if y0 = y1 then ev 0 1271 [(4, 0), (2, q1), (2, q2), (0, x3)] [] T V else ev 0 348 [(4, 0), (2, q1), (2, q2), (0, x3)] [] T V := by
  exact ev_ceq (show zcode 0 345 = some (46, 348, 1271, 0, []) by decide +kernel)
theorem b0_348 {T : zT} {V : zM} {q1 : Int} {q2 : Int} {x3 : Int} : ev 0 348 [(4, 0), (2, q1), (2, q2), (0, x3)] [] T V = some ((0, 0), T, V) := by
  refine Eq.trans (ev_ci (show zcode 0 348 = some (0, 349, 0, 0, []) by decide +kernel) (by decide)) ?_
  exact ev_rz (show zcode 0 349 = some (72, 350, 3, 0, []) by decide +kernel) (by decide)
theorem b0_350 {T : zT} {V : zM} {q1 : Int} {q2 : Int} {x3 : Int} (h1 : -2147483648 ≤ (x3 + 1) ∧ (x3 + 1) ≤ 2147483647) (h2 : (0 : Int) ≤ (x3 + 1) ∧ (x3 + 1) < zl T (-2)) (h3 : zO T q1 11) : ev 0 350 [(4, 0), (2, q1), (2, q2), (0, x3)] [] T V = (zcall 33 [(2, q1), (0, (V (-2) (x3 + 1)))] T V).bind fun x => ev 0 359 [(4, 0), (2, q1), (2, q2), (0, x3)] (z_push x.1 []) x.2.1 x.2.2 := by
  refine Eq.trans (ev_lda (show zcode 0 350 = some (6, 351, 1, 0, []) by decide +kernel) rfl (by decide)) ?_
  refine Eq.trans (ev_lda (show zcode 0 351 = some (6, 352, 0, 0, []) by decide +kernel) rfl (by decide)) ?_
  refine Eq.trans (ev_ldi (show zcode 0 352 = some (4, 353, 3, 0, []) by decide +kernel) rfl) ?_
  refine Eq.trans (ev_ci (show zcode 0 353 = some (0, 354, 0, 1, []) by decide +kernel) (by decide)) ?_
  refine Eq.trans (ev_add (show zcode 0 354 = some (11, 355, 0, 0, []) by decide +kernel) h1) ?_
  refine Eq.trans (ev_scr (show zcode 0 355 = some (60, 356, 0, 0, []) by decide +kernel) h2) ?_
  exact ev_cvirt (show zcode 0 356 = some (76, 359, 33, 2, [11]) by decide +kernel) (args := [(0, (V (-2) (x3 + 1)))]) (rest := []) rfl h3 rfl (show 0 ≤ 8 by decide) ⟨by decide, show 2 ≤ 2 by decide⟩
theorem b0_359 {T : zT} {V : zM} {q1 : Int} {q2 : Int} {x3 : Int} {y0 : Int} (h1 : -2147483648 ≤ (x3 + 1) ∧ (x3 + 1) ≤ 2147483647) (h2 : (0 : Int) ≤ (x3 + 1) ∧ (x3 + 1) < zl T (-2)) (h3 : zO T q2 12) : ev 0 359 [(4, 0), (2, q1), (2, q2), (0, x3)] [(0, y0)] T V = (zcall 163 [(2, q2), (0, (V (-2) (x3 + 1)))] T V).bind fun x => ev 0 368 [(4, 0), (2, q1), (2, q2), (0, x3)] (z_push x.1 [(0, y0)]) x.2.1 x.2.2 := by
  refine Eq.trans (ev_lda (show zcode 0 359 = some (6, 360, 2, 0, []) by decide +kernel) rfl (by decide)) ?_
  refine Eq.trans (ev_lda (show zcode 0 360 = some (6, 361, 0, 0, []) by decide +kernel) rfl (by decide)) ?_
  refine Eq.trans (ev_ldi (show zcode 0 361 = some (4, 362, 3, 0, []) by decide +kernel) rfl) ?_
  refine Eq.trans (ev_ci (show zcode 0 362 = some (0, 363, 0, 1, []) by decide +kernel) (by decide)) ?_
  refine Eq.trans (ev_add (show zcode 0 363 = some (11, 364, 0, 0, []) by decide +kernel) h1) ?_
  refine Eq.trans (ev_scr (show zcode 0 364 = some (60, 365, 0, 0, []) by decide +kernel) h2) ?_
  exact ev_cvirt (show zcode 0 365 = some (76, 368, 163, 2, [12]) by decide +kernel) (args := [(0, (V (-2) (x3 + 1)))]) (rest := [(0, y0)]) rfl h3 rfl (show 1 ≤ 8 by decide) ⟨by decide, show 2 ≤ 2 by decide⟩
theorem b0_368 {T : zT} {V : zM} {q1 : Int} {q2 : Int} {x3 : Int} {y0 : Int} {y1 : Int} : ev 0 368 [(4, 0), (2, q1), (2, q2), (0, x3)] [(0, y1), (0, y0)] T V = if y0 = y1 then ev 0 1271 [(4, 0), (2, q1), (2, q2), (0, x3)] [] T V else ev 0 371 [(4, 0), (2, q1), (2, q2), (0, x3)] [] T V := by
  exact ev_ceq (show zcode 0 368 = some (46, 371, 1271, 0, []) by decide +kernel)
theorem b0_371 {T : zT} {V : zM} {q1 : Int} {q2 : Int} {x3 : Int} : ev 0 371 [(4, 0), (2, q1), (2, q2), (0, x3)] [] T V = some ((0, 0), T, V) := by
  refine Eq.trans (ev_ci (show zcode 0 371 = some (0, 372, 0, 0, []) by decide +kernel) (by decide)) ?_
  exact ev_rz (show zcode 0 372 = some (72, 373, 3, 0, []) by decide +kernel) (by decide)
theorem b0_373 {T : zT} {V : zM} {q1 : Int} {q2 : Int} {x3 : Int} (h1 : zO T q1 11) : ev 0 373 [(4, 0), (2, q1), (2, q2), (0, x3)] [] T V = (zcall 34 [(2, q1)] T V).bind fun x => ev 0 377 [(4, 0), (2, q1), (2, q2), (0, x3)] (z_push x.1 []) x.2.1 x.2.2 := by
  refine Eq.trans (ev_lda (show zcode 0 373 = some (6, 374, 1, 0, []) by decide +kernel) rfl (by decide)) ?_
  exact ev_cvirt (show zcode 0 374 = some (76, 377, 34, 1, [11]) by decide +kernel) (args := []) (rest := []) rfl h1 rfl (show 0 ≤ 8 by decide) ⟨by decide, show 1 ≤ 3 by decide⟩
theorem b0_377 {T : zT} {V : zM} {q1 : Int} {q2 : Int} {x3 : Int} {y0 : Int} (h1 : zO T q2 12) : ev 0 377 [(4, 0), (2, q1), (2, q2), (0, x3)] [(0, y0)] T V = (zcall 160 [(2, q2)] T V).bind fun x => ev 0 381 [(4, 0), (2, q1), (2, q2), (0, x3)] (z_push x.1 [(0, y0)]) x.2.1 x.2.2 := by
  refine Eq.trans (ev_lda (show zcode 0 377 = some (6, 378, 2, 0, []) by decide +kernel) rfl (by decide)) ?_
  exact ev_cvirt (show zcode 0 378 = some (76, 381, 160, 1, [12]) by decide +kernel) (args := []) (rest := [(0, y0)]) rfl h1 rfl (show 1 ≤ 8 by decide) ⟨by decide, show 1 ≤ 4 by decide⟩
theorem b0_381 {T : zT} {V : zM} {q1 : Int} {q2 : Int} {x3 : Int} {y0 : Int} {y1 : Int} : ev 0 381 [(4, 0), (2, q1), (2, q2), (0, x3)] [(0, y1), (0, y0)] T V = if y0 = y1 then ev 0 1271 [(4, 0), (2, q1), (2, q2), (0, x3)] [] T V else ev 0 384 [(4, 0), (2, q1), (2, q2), (0, x3)] [] T V := by
  exact ev_ceq (show zcode 0 381 = some (46, 384, 1271, 0, []) by decide +kernel)
theorem b0_384 {T : zT} {V : zM} {q1 : Int} {q2 : Int} {x3 : Int} : ev 0 384 [(4, 0), (2, q1), (2, q2), (0, x3)] [] T V = some ((0, 0), T, V) := by
  refine Eq.trans (ev_ci (show zcode 0 384 = some (0, 385, 0, 0, []) by decide +kernel) (by decide)) ?_
  exact ev_rz (show zcode 0 385 = some (72, 386, 3, 0, []) by decide +kernel) (by decide)
theorem b0_386 {T : zT} {V : zM} {q1 : Int} {q2 : Int} {x3 : Int} (h1 : zO T q1 11) : ev 0 386 [(4, 0), (2, q1), (2, q2), (0, x3)] [] T V = (zcall 36 [(2, q1)] T V).bind fun x => ev 0 390 [(4, 0), (2, q1), (2, q2), (0, x3)] (z_push x.1 []) x.2.1 x.2.2 := by
  refine Eq.trans (ev_lda (show zcode 0 386 = some (6, 387, 1, 0, []) by decide +kernel) rfl (by decide)) ?_
  exact ev_cvirt (show zcode 0 387 = some (76, 390, 36, 1, [11]) by decide +kernel) (args := []) (rest := []) rfl h1 rfl (show 0 ≤ 8 by decide) ⟨by decide, show 1 ≤ 1 by decide⟩
theorem b0_390 {T : zT} {V : zM} {q1 : Int} {q2 : Int} {x3 : Int} {y0 : Int} (h1 : zO T q2 12) : ev 0 390 [(4, 0), (2, q1), (2, q2), (0, x3)] [(0, y0)] T V = (zcall 161 [(2, q2)] T V).bind fun x => ev 0 394 [(4, 0), (2, q1), (2, q2), (0, x3)] (z_push x.1 [(0, y0)]) x.2.1 x.2.2 := by
  refine Eq.trans (ev_lda (show zcode 0 390 = some (6, 391, 2, 0, []) by decide +kernel) rfl (by decide)) ?_
  exact ev_cvirt (show zcode 0 391 = some (76, 394, 161, 1, [12]) by decide +kernel) (args := []) (rest := [(0, y0)]) rfl h1 rfl (show 1 ≤ 8 by decide) ⟨by decide, show 1 ≤ 1 by decide⟩
theorem b0_394 {T : zT} {V : zM} {q1 : Int} {q2 : Int} {x3 : Int} {y0 : Int} {y1 : Int} : ev 0 394 [(4, 0), (2, q1), (2, q2), (0, x3)] [(0, y1), (0, y0)] T V = if y0 = y1 then ev 0 1271 [(4, 0), (2, q1), (2, q2), (0, x3)] [] T V else ev 0 397 [(4, 0), (2, q1), (2, q2), (0, x3)] [] T V := by
  exact ev_ceq (show zcode 0 394 = some (46, 397, 1271, 0, []) by decide +kernel)
theorem b0_397 {T : zT} {V : zM} {q1 : Int} {q2 : Int} {x3 : Int} : ev 0 397 [(4, 0), (2, q1), (2, q2), (0, x3)] [] T V = some ((0, 0), T, V) := by
  refine Eq.trans (ev_ci (show zcode 0 397 = some (0, 398, 0, 0, []) by decide +kernel) (by decide)) ?_
  exact ev_rz (show zcode 0 398 = some (72, 399, 3, 0, []) by decide +kernel) (by decide)
theorem b0_399 {T : zT} {V : zM} {q1 : Int} {q2 : Int} {x3 : Int} (h1 : zO T q1 11) : ev 0 399 [(4, 0), (2, q1), (2, q2), (0, x3)] [] T V = (zcall 37 [(2, q1)] T V).bind fun x => ev 0 403 [(4, 0), (2, q1), (2, q2), (0, x3)] (z_push x.1 []) x.2.1 x.2.2 := by
  refine Eq.trans (ev_lda (show zcode 0 399 = some (6, 400, 1, 0, []) by decide +kernel) rfl (by decide)) ?_
  exact ev_cvirt (show zcode 0 400 = some (76, 403, 37, 1, [11]) by decide +kernel) (args := []) (rest := []) rfl h1 rfl (show 0 ≤ 8 by decide) ⟨by decide, show 1 ≤ 2 by decide⟩
theorem b0_403 {T : zT} {V : zM} {q1 : Int} {q2 : Int} {x3 : Int} {y0 : Int} (h1 : zO T q2 12) : ev 0 403 [(4, 0), (2, q1), (2, q2), (0, x3)] [(0, y0)] T V = (zcall 164 [(2, q2)] T V).bind fun x => ev 0 407 [(4, 0), (2, q1), (2, q2), (0, x3)] (z_push x.1 [(0, y0)]) x.2.1 x.2.2 := by
  refine Eq.trans (ev_lda (show zcode 0 403 = some (6, 404, 2, 0, []) by decide +kernel) rfl (by decide)) ?_
  exact ev_cvirt (show zcode 0 404 = some (76, 407, 164, 1, [12]) by decide +kernel) (args := []) (rest := [(0, y0)]) rfl h1 rfl (show 1 ≤ 8 by decide) ⟨by decide, show 1 ≤ 3 by decide⟩
theorem b0_407 {T : zT} {V : zM} {q1 : Int} {q2 : Int} {x3 : Int} {y0 : Int} {y1 : Int} : ev 0 407 [(4, 0), (2, q1), (2, q2), (0, x3)] [(0, y1), (0, y0)] T V = if y0 = y1 then ev 0 1271 [(4, 0), (2, q1), (2, q2), (0, x3)] [] T V else ev 0 410 [(4, 0), (2, q1), (2, q2), (0, x3)] [] T V := by
  exact ev_ceq (show zcode 0 407 = some (46, 410, 1271, 0, []) by decide +kernel)
theorem b0_410 {T : zT} {V : zM} {q1 : Int} {q2 : Int} {x3 : Int} : ev 0 410 [(4, 0), (2, q1), (2, q2), (0, x3)] [] T V = some ((0, 0), T, V) := by
  refine Eq.trans (ev_ci (show zcode 0 410 = some (0, 411, 0, 0, []) by decide +kernel) (by decide)) ?_
  exact ev_rz (show zcode 0 411 = some (72, 412, 3, 0, []) by decide +kernel) (by decide)
theorem b0_412 {T : zT} {V : zM} {q1 : Int} {q2 : Int} {x3 : Int} (h1 : zO T q1 11) : ev 0 412 [(4, 0), (2, q1), (2, q2), (0, x3)] [] T V = (zcall 70 [(2, q1)] T V).bind fun x => ev 0 416 [(4, 0), (2, q1), (2, q2), (0, x3)] (z_push x.1 []) x.2.1 x.2.2 := by
  refine Eq.trans (ev_lda (show zcode 0 412 = some (6, 413, 1, 0, []) by decide +kernel) rfl (by decide)) ?_
  exact ev_cvirt (show zcode 0 413 = some (76, 416, 70, 1, [11]) by decide +kernel) (args := []) (rest := []) rfl h1 rfl (show 0 ≤ 8 by decide) ⟨by decide, show 1 ≤ 1 by decide⟩
theorem b0_416 {T : zT} {V : zM} {q1 : Int} {q2 : Int} {x3 : Int} {y0 : Int} (h1 : zO T q2 12) : ev 0 416 [(4, 0), (2, q1), (2, q2), (0, x3)] [(0, y0)] T V = (zcall 181 [(2, q2)] T V).bind fun x => ev 0 420 [(4, 0), (2, q1), (2, q2), (0, x3)] (z_push x.1 [(0, y0)]) x.2.1 x.2.2 := by
  refine Eq.trans (ev_lda (show zcode 0 416 = some (6, 417, 2, 0, []) by decide +kernel) rfl (by decide)) ?_
  exact ev_cvirt (show zcode 0 417 = some (76, 420, 181, 1, [12]) by decide +kernel) (args := []) (rest := [(0, y0)]) rfl h1 rfl (show 1 ≤ 8 by decide) ⟨by decide, show 1 ≤ 1 by decide⟩
theorem b0_420 {T : zT} {V : zM} {q1 : Int} {q2 : Int} {x3 : Int} {y0 : Int} {y1 : Int} : ev 0 420 [(4, 0), (2, q1), (2, q2), (0, x3)] [(0, y1), (0, y0)] T V = if y0 = y1 then ev 0 1271 [(4, 0), (2, q1), (2, q2), (0, x3)] [] T V else ev 0 423 [(4, 0), (2, q1), (2, q2), (0, x3)] [] T V := by
  exact ev_ceq (show zcode 0 420 = some (46, 423, 1271, 0, []) by decide +kernel)
theorem b0_423 {T : zT} {V : zM} {q1 : Int} {q2 : Int} {x3 : Int} : ev 0 423 [(4, 0), (2, q1), (2, q2), (0, x3)] [] T V = some ((0, 0), T, V) := by
  refine Eq.trans (ev_ci (show zcode 0 423 = some (0, 424, 0, 0, []) by decide +kernel) (by decide)) ?_
  exact ev_rz (show zcode 0 424 = some (72, 425, 3, 0, []) by decide +kernel) (by decide)
theorem b0_425 {T : zT} {V : zM} {q1 : Int} {q2 : Int} {x3 : Int} (h1 : -2147483648 ≤ (x3 + 1) ∧ (x3 + 1) ≤ 2147483647) (h2 : (0 : Int) ≤ (x3 + 1) ∧ (x3 + 1) < zl T (-2)) (h3 : -2147483648 ≤ (x3 + 2) ∧ (x3 + 2) ≤ 2147483647) (h4 : (0 : Int) ≤ (x3 + 2) ∧ (x3 + 2) < zl T (-2)) (h5 : -2147483648 ≤ (x3 + 3) ∧ (x3 + 3) ≤ 2147483647) (h6 : (0 : Int) ≤ (x3 + 3) ∧ (x3 + 3) < zl T (-2)) (h7 : zO T q1 11) : ev 0 425 [(4, 0), (2, q1), (2, q2), (0, x3)] [] T V = (zcall 71 [(2, q1), (0, (V (-2) (x3 + 1))), (0, (V (-2) (x3 + 2))), (0, (V (-2) (x3 + 3)))] T V).bind fun x => ev 0 444 [(4, 0), (2, q1), (2, q2), (0, x3)] (z_push x.1 []) x.2.1 x.2.2 := by
  refine Eq.trans (ev_lda (show zcode 0 425 = some (6, 426, 1, 0, []) by decide +kernel) rfl (by decide)) ?_
  refine Eq.trans (ev_lda (show zcode 0 426 = some (6, 427, 0, 0, []) by decide +kernel) rfl (by decide)) ?_
  refine Eq.trans (ev_ldi (show zcode 0 427 = some (4, 428, 3, 0, []) by decide +kernel) rfl) ?_
  refine Eq.trans (ev_ci (show zcode 0 428 = some (0, 429, 0, 1, []) by decide +kernel) (by decide)) ?_
  refine Eq.trans (ev_add (show zcode 0 429 = some (11, 430, 0, 0, []) by decide +kernel) h1) ?_
  refine Eq.trans (ev_scr (show zcode 0 430 = some (60, 431, 0, 0, []) by decide +kernel) h2) ?_
  refine Eq.trans (ev_lda (show zcode 0 431 = some (6, 432, 0, 0, []) by decide +kernel) rfl (by decide)) ?_
  refine Eq.trans (ev_ldi (show zcode 0 432 = some (4, 433, 3, 0, []) by decide +kernel) rfl) ?_
  refine Eq.trans (ev_ci (show zcode 0 433 = some (0, 434, 0, 2, []) by decide +kernel) (by decide)) ?_
  refine Eq.trans (ev_add (show zcode 0 434 = some (11, 435, 0, 0, []) by decide +kernel) h3) ?_
  refine Eq.trans (ev_scr (show zcode 0 435 = some (60, 436, 0, 0, []) by decide +kernel) h4) ?_
  refine Eq.trans (ev_lda (show zcode 0 436 = some (6, 437, 0, 0, []) by decide +kernel) rfl (by decide)) ?_
  refine Eq.trans (ev_ldi (show zcode 0 437 = some (4, 438, 3, 0, []) by decide +kernel) rfl) ?_
  refine Eq.trans (ev_ci (show zcode 0 438 = some (0, 439, 0, 3, []) by decide +kernel) (by decide)) ?_
  refine Eq.trans (ev_add (show zcode 0 439 = some (11, 440, 0, 0, []) by decide +kernel) h5) ?_
  refine Eq.trans (ev_scr (show zcode 0 440 = some (60, 441, 0, 0, []) by decide +kernel) h6) ?_
  exact ev_cvirt (show zcode 0 441 = some (76, 444, 71, 4, [11]) by decide +kernel) (args := [(0, (V (-2) (x3 + 1))), (0, (V (-2) (x3 + 2))), (0, (V (-2) (x3 + 3)))]) (rest := []) rfl h7 rfl (show 0 ≤ 8 by decide) ⟨by decide, show 4 ≤ 4 by decide⟩
theorem b0_444 {T : zT} {V : zM} {q1 : Int} {q2 : Int} {x3 : Int} {y0 : Int} (h1 : -2147483648 ≤ (x3 + 1) ∧ (x3 + 1) ≤ 2147483647) (h2 : (0 : Int) ≤ (x3 + 1) ∧ (x3 + 1) < zl T (-2)) (h3 : -2147483648 ≤ (x3 + 2) ∧ (x3 + 2) ≤ 2147483647) (h4 : (0 : Int) ≤ (x3 + 2) ∧ (x3 + 2) < zl T (-2)) (h5 : -2147483648 ≤ (x3 + 3) ∧ (x3 + 3) ≤ 2147483647) (h6 : (0 : Int) ≤ (x3 + 3) ∧ (x3 + 3) < zl T (-2)) (h7 : zO T q2 12) : ev 0 444 [(4, 0), (2, q1), (2, q2), (0, x3)] [(0, y0)] T V = (zcall 182 [(2, q2), (0, (V (-2) (x3 + 1))), (0, (V (-2) (x3 + 2))), (0, (V (-2) (x3 + 3)))] T V).bind fun x => ev 0 463 [(4, 0), (2, q1), (2, q2), (0, x3)] (z_push x.1 [(0, y0)]) x.2.1 x.2.2 := by
  refine Eq.trans (ev_lda (show zcode 0 444 = some (6, 445, 2, 0, []) by decide +kernel) rfl (by decide)) ?_
  refine Eq.trans (ev_lda (show zcode 0 445 = some (6, 446, 0, 0, []) by decide +kernel) rfl (by decide)) ?_
  refine Eq.trans (ev_ldi (show zcode 0 446 = some (4, 447, 3, 0, []) by decide +kernel) rfl) ?_
  refine Eq.trans (ev_ci (show zcode 0 447 = some (0, 448, 0, 1, []) by decide +kernel) (by decide)) ?_
  refine Eq.trans (ev_add (show zcode 0 448 = some (11, 449, 0, 0, []) by decide +kernel) h1) ?_
  refine Eq.trans (ev_scr (show zcode 0 449 = some (60, 450, 0, 0, []) by decide +kernel) h2) ?_
  refine Eq.trans (ev_lda (show zcode 0 450 = some (6, 451, 0, 0, []) by decide +kernel) rfl (by decide)) ?_
  refine Eq.trans (ev_ldi (show zcode 0 451 = some (4, 452, 3, 0, []) by decide +kernel) rfl) ?_
  refine Eq.trans (ev_ci (show zcode 0 452 = some (0, 453, 0, 2, []) by decide +kernel) (by decide)) ?_
  refine Eq.trans (ev_add (show zcode 0 453 = some (11, 454, 0, 0, []) by decide +kernel) h3) ?_
  refine Eq.trans (ev_scr (show zcode 0 454 = some (60, 455, 0, 0, []) by decide +kernel) h4) ?_
  refine Eq.trans (ev_lda (show zcode 0 455 = some (6, 456, 0, 0, []) by decide +kernel) rfl (by decide)) ?_
  refine Eq.trans (ev_ldi (show zcode 0 456 = some (4, 457, 3, 0, []) by decide +kernel) rfl) ?_
  refine Eq.trans (ev_ci (show zcode 0 457 = some (0, 458, 0, 3, []) by decide +kernel) (by decide)) ?_
  refine Eq.trans (ev_add (show zcode 0 458 = some (11, 459, 0, 0, []) by decide +kernel) h5) ?_
  refine Eq.trans (ev_scr (show zcode 0 459 = some (60, 460, 0, 0, []) by decide +kernel) h6) ?_
  exact ev_cvirt (show zcode 0 460 = some (76, 463, 182, 4, [12]) by decide +kernel) (args := [(0, (V (-2) (x3 + 1))), (0, (V (-2) (x3 + 2))), (0, (V (-2) (x3 + 3)))]) (rest := [(0, y0)]) rfl h7 rfl (show 1 ≤ 8 by decide) ⟨by decide, show 4 ≤ 4 by decide⟩
theorem b0_463 {T : zT} {V : zM} {q1 : Int} {q2 : Int} {x3 : Int} {y0 : Int} {y1 : Int} : ev 0 463 [(4, 0), (2, q1), (2, q2), (0, x3)] [(0, y1), (0, y0)] T V = if y0 = y1 then ev 0 1271 [(4, 0), (2, q1), (2, q2), (0, x3)] [] T V else ev 0 466 [(4, 0), (2, q1), (2, q2), (0, x3)] [] T V := by
  exact ev_ceq (show zcode 0 463 = some (46, 466, 1271, 0, []) by decide +kernel)
theorem b0_466 {T : zT} {V : zM} {q1 : Int} {q2 : Int} {x3 : Int} : ev 0 466 [(4, 0), (2, q1), (2, q2), (0, x3)] [] T V = some ((0, 0), T, V) := by
  refine Eq.trans (ev_ci (show zcode 0 466 = some (0, 467, 0, 0, []) by decide +kernel) (by decide)) ?_
  exact ev_rz (show zcode 0 467 = some (72, 468, 3, 0, []) by decide +kernel) (by decide)
theorem b0_468 {T : zT} {V : zM} {q1 : Int} {q2 : Int} {x3 : Int} (h1 : -2147483648 ≤ (x3 + 1) ∧ (x3 + 1) ≤ 2147483647) (h2 : (0 : Int) ≤ (x3 + 1) ∧ (x3 + 1) < zl T (-2)) (h3 : -2147483648 ≤ (x3 + 2) ∧ (x3 + 2) ≤ 2147483647) (h4 : (0 : Int) ≤ (x3 + 2) ∧ (x3 + 2) < zl T (-2)) (h5 : -2147483648 ≤ (x3 + 3) ∧ (x3 + 3) ≤ 2147483647) (h6 : (0 : Int) ≤ (x3 + 3) ∧ (x3 + 3) < zl T (-2)) (h7 : zO T q1 11) : ev 0 468 [(4, 0), (2, q1), (2, q2), (0, x3)] [] T V = (zcall 75 [(2, q1), (0, (V (-2) (x3 + 1))), (0, (V (-2) (x3 + 2))), (0, (V (-2) (x3 + 3)))] T V).bind fun x => ev 0 487 [(4, 0), (2, q1), (2, q2), (0, x3)] (z_push x.1 []) x.2.1 x.2.2 := by
  refine Eq.trans (ev_lda (show zcode 0 468 = some (6, 469, 1, 0, []) by decide +kernel) rfl (by decide)) ?_
  refine Eq.trans (ev_lda (show zcode 0 469 = some (6, 470, 0, 0, []) by decide +kernel) rfl (by decide)) ?_
  refine Eq.trans (ev_ldi (show zcode 0 470 = some (4, 471, 3, 0, []) by decide +kernel) rfl) ?_
  refine Eq.trans (ev_ci (show zcode 0 471 = some (0, 472, 0, 1, []) by decide +kernel) (by decide)) ?_
  refine Eq.trans (ev_add (show zcode 0 472 = some (11, 473, 0, 0, []) by decide +kernel) h1) ?_
  refine Eq.trans (ev_scr (show zcode 0 473 = some (60, 474, 0, 0, []) by decide +kernel) h2) ?_
  refine Eq.trans (ev_lda (show zcode 0 474 = some (6, 475, 0, 0, []) by decide +kernel) rfl (by decide)) ?_
  refine Eq.trans (ev_ldi (show zcode 0 475 = some (4, 476, 3, 0, []) by decide +kernel) rfl) ?_
  refine Eq.trans (ev_ci (show zcode 0 476 = some (0, 477, 0, 2, []) by decide +kernel) (by decide)) ?_
  refine Eq.trans (ev_add (show zcode 0 477 = some (11, 478, 0, 0, []) by decide +kernel) h3) ?_
  refine Eq.trans (ev_scr (show zcode 0 478 = some (60, 479, 0, 0, []) by decide +kernel) h4) ?_
  refine Eq.trans (ev_lda (show zcode 0 479 = some (6, 480, 0, 0, []) by decide +kernel) rfl (by decide)) ?_
  refine Eq.trans (ev_ldi (show zcode 0 480 = some (4, 481, 3, 0, []) by decide +kernel) rfl) ?_
  refine Eq.trans (ev_ci (show zcode 0 481 = some (0, 482, 0, 3, []) by decide +kernel) (by decide)) ?_
  refine Eq.trans (ev_add (show zcode 0 482 = some (11, 483, 0, 0, []) by decide +kernel) h5) ?_
  refine Eq.trans (ev_scr (show zcode 0 483 = some (60, 484, 0, 0, []) by decide +kernel) h6) ?_
  exact ev_cvirt (show zcode 0 484 = some (76, 487, 75, 4, [11]) by decide +kernel) (args := [(0, (V (-2) (x3 + 1))), (0, (V (-2) (x3 + 2))), (0, (V (-2) (x3 + 3)))]) (rest := []) rfl h7 rfl (show 0 ≤ 8 by decide) ⟨by decide, show 4 ≤ 5 by decide⟩
theorem b0_487 {T : zT} {V : zM} {q1 : Int} {q2 : Int} {x3 : Int} {y0 : Int} (h1 : -2147483648 ≤ (x3 + 1) ∧ (x3 + 1) ≤ 2147483647) (h2 : (0 : Int) ≤ (x3 + 1) ∧ (x3 + 1) < zl T (-2)) (h3 : -2147483648 ≤ (x3 + 2) ∧ (x3 + 2) ≤ 2147483647) (h4 : (0 : Int) ≤ (x3 + 2) ∧ (x3 + 2) < zl T (-2)) (h5 : -2147483648 ≤ (x3 + 3) ∧ (x3 + 3) ≤ 2147483647) (h6 : (0 : Int) ≤ (x3 + 3) ∧ (x3 + 3) < zl T (-2)) (h7 : zO T q2 12) : ev 0 487 [(4, 0), (2, q1), (2, q2), (0, x3)] [(0, y0)] T V = (zcall 186 [(2, q2), (0, (V (-2) (x3 + 1))), (0, (V (-2) (x3 + 2))), (0, (V (-2) (x3 + 3)))] T V).bind fun x => ev 0 506 [(4, 0), (2, q1), (2, q2), (0, x3)] (z_push x.1 [(0, y0)]) x.2.1 x.2.2 := by
  refine Eq.trans (ev_lda (show zcode 0 487 = some (6, 488, 2, 0, []) by decide +kernel) rfl (by decide)) ?_
  refine Eq.trans (ev_lda (show zcode 0 488 = some (6, 489, 0, 0, []) by decide +kernel) rfl (by decide)) ?_
  refine Eq.trans (ev_ldi (show zcode 0 489 = some (4, 490, 3, 0, []) by decide +kernel) rfl) ?_
  refine Eq.trans (ev_ci (show zcode 0 490 = some (0, 491, 0, 1, []) by decide +kernel) (by decide)) ?_
  refine Eq.trans (ev_add (show zcode 0 491 = some (11, 492, 0, 0, []) by decide +kernel) h1) ?_
  refine Eq.trans (ev_scr (show zcode 0 492 = some (60, 493, 0, 0, []) by decide +kernel) h2) ?_
  refine Eq.trans (ev_lda (show zcode 0 493 = some (6, 494, 0, 0, []) by decide +kernel) rfl (by decide)) ?_
  refine Eq.trans (ev_ldi (show zcode 0 494 = some (4, 495, 3, 0, []) by decide +kernel) rfl) ?_
  refine Eq.trans (ev_ci (show zcode 0 495 = some (0, 496, 0, 2, []) by decide +kernel) (by decide)) ?_
  refine Eq.trans (ev_add (show zcode 0 496 = some (11, 497, 0, 0, []) by decide +kernel) h3) ?_
  refine Eq.trans (ev_scr (show zcode 0 497 = some (60, 498, 0, 0, []) by decide +kernel) h4) ?_
  refine Eq.trans (ev_lda (show zcode 0 498 = some (6, 499, 0, 0, []) by decide +kernel) rfl (by decide)) ?_
  refine Eq.trans (ev_ldi (show zcode 0 499 = some (4, 500, 3, 0, []) by decide +kernel) rfl) ?_
  refine Eq.trans (ev_ci (show zcode 0 500 = some (0, 501, 0, 3, []) by decide +kernel) (by decide)) ?_
  refine Eq.trans (ev_add (show zcode 0 501 = some (11, 502, 0, 0, []) by decide +kernel) h5) ?_
  refine Eq.trans (ev_scr (show zcode 0 502 = some (60, 503, 0, 0, []) by decide +kernel) h6) ?_
  exact ev_cvirt (show zcode 0 503 = some (76, 506, 186, 4, [12]) by decide +kernel) (args := [(0, (V (-2) (x3 + 1))), (0, (V (-2) (x3 + 2))), (0, (V (-2) (x3 + 3)))]) (rest := [(0, y0)]) rfl h7 rfl (show 1 ≤ 8 by decide) ⟨by decide, show 4 ≤ 4 by decide⟩
theorem b0_506 {T : zT} {V : zM} {q1 : Int} {q2 : Int} {x3 : Int} {y0 : Int} {y1 : Int} : ev 0 506 [(4, 0), (2, q1), (2, q2), (0, x3)] [(0, y1), (0, y0)] T V = if y0 = y1 then ev 0 1271 [(4, 0), (2, q1), (2, q2), (0, x3)] [] T V else ev 0 509 [(4, 0), (2, q1), (2, q2), (0, x3)] [] T V := by
  exact ev_ceq (show zcode 0 506 = some (46, 509, 1271, 0, []) by decide +kernel)
theorem b0_509 {T : zT} {V : zM} {q1 : Int} {q2 : Int} {x3 : Int} : ev 0 509 [(4, 0), (2, q1), (2, q2), (0, x3)] [] T V = some ((0, 0), T, V) := by
  refine Eq.trans (ev_ci (show zcode 0 509 = some (0, 510, 0, 0, []) by decide +kernel) (by decide)) ?_
  exact ev_rz (show zcode 0 510 = some (72, 511, 3, 0, []) by decide +kernel) (by decide)
theorem b0_511 {T : zT} {V : zM} {q1 : Int} {q2 : Int} {x3 : Int} (h1 : -2147483648 ≤ (x3 + 1) ∧ (x3 + 1) ≤ 2147483647) (h2 : (0 : Int) ≤ (x3 + 1) ∧ (x3 + 1) < zl T (-2)) (h3 : -2147483648 ≤ (x3 + 2) ∧ (x3 + 2) ≤ 2147483647) (h4 : (0 : Int) ≤ (x3 + 2) ∧ (x3 + 2) < zl T (-2)) (h5 : zO T q1 11) : ev 0 511 [(4, 0), (2, q1), (2, q2), (0, x3)] [] T V = (zcall 77 [(2, q1), (0, (V (-2) (x3 + 1))), (0, (V (-2) (x3 + 2)))] T V).bind fun x => ev 0 525 [(4, 0), (2, q1), (2, q2), (0, x3)] (z_push x.1 []) x.2.1 x.2.2 := by
  refine Eq.trans (ev_lda (show zcode 0 511 = some (6, 512, 1, 0, []) by decide +kernel) rfl (by decide)) ?_
  refine Eq.trans (ev_lda (show zcode 0 512 = some (6, 513, 0, 0, []) by decide +kernel) rfl (by decide)) ?_
  refine Eq.trans (ev_ldi (show zcode 0 513 = some (4, 514, 3, 0, []) by decide +kernel) rfl) ?_
  refine Eq.trans (ev_ci (show zcode 0 514 = some (0, 515, 0, 1, []) by decide +kernel) (by decide)) ?_
  refine Eq.trans (ev_add (show zcode 0 515 = some (11, 516, 0, 0, []) by decide +kernel) h1) ?_
  refine Eq.trans (ev_scr (show zcode 0 516 = some (60, 517, 0, 0, []) by decide +kernel) h2) ?_
  refine Eq.trans (ev_lda (show zcode 0 517 = some (6, 518, 0, 0, []) by decide +kernel) rfl (by decide)) ?_
  refine Eq.trans (ev_ldi (show zcode 0 518 = some (4, 519, 3, 0, []) by decide +kernel) rfl) ?_
  refine Eq.trans (ev_ci (show zcode 0 519 = some (0, 520, 0, 2, []) by decide +kernel) (by decide)) ?_
  refine Eq.trans (ev_add (show zcode 0 520 = some (11, 521, 0, 0, []) by decide +kernel) h3) ?_
  refine Eq.trans (ev_scr (show zcode 0 521 = some (60, 522, 0, 0, []) by decide +kernel) h4) ?_
  exact ev_cvirt (show zcode 0 522 = some (76, 525, 77, 3, [11]) by decide +kernel) (args := [(0, (V (-2) (x3 + 1))), (0, (V (-2) (x3 + 2)))]) (rest := []) rfl h5 rfl (show 0 ≤ 8 by decide) ⟨by decide, show 3 ≤ 3 by decide⟩
theorem b0_525 {T : zT} {V : zM} {q1 : Int} {q2 : Int} {x3 : Int} {y0 : Int} (h1 : -2147483648 ≤ (x3 + 1) ∧ (x3 + 1) ≤ 2147483647) (h2 : (0 : Int) ≤ (x3 + 1) ∧ (x3 + 1) < zl T (-2)) (h3 : -2147483648 ≤ (x3 + 2) ∧ (x3 + 2) ≤ 2147483647) (h4 : (0 : Int) ≤ (x3 + 2) ∧ (x3 + 2) < zl T (-2)) (h5 : zO T q2 12) : ev 0 525 [(4, 0), (2, q1), (2, q2), (0, x3)] [(0, y0)] T V = (zcall 188 [(2, q2), (0, (V (-2) (x3 + 1))), (0, (V (-2) (x3 + 2)))] T V).bind fun x => ev 0 539 [(4, 0), (2, q1), (2, q2), (0, x3)] (z_push x.1 [(0, y0)]) x.2.1 x.2.2 := by
  refine Eq.trans (ev_lda (show zcode 0 525 = some (6, 526, 2, 0, []) by decide +kernel) rfl (by decide)) ?_
  refine Eq.trans (ev_lda (show zcode 0 526 = some (6, 527, 0, 0, []) by decide +kernel) rfl (by decide)) ?_
  refine Eq.trans (ev_ldi (show zcode 0 527 = some (4, 528, 3, 0, []) by decide +kernel) rfl) ?_
  refine Eq.trans (ev_ci (show zcode 0 528 = some (0, 529, 0, 1, []) by decide +kernel) (by decide)) ?_
  refine Eq.trans (ev_add (show zcode 0 529 = some (11, 530, 0, 0, []) by decide +kernel) h1) ?_
  refine Eq.trans (ev_scr (show zcode 0 530 = some (60, 531, 0, 0, []) by decide +kernel) h2) ?_
  refine Eq.trans (ev_lda (show zcode 0 531 = some (6, 532, 0, 0, []) by decide +kernel) rfl (by decide)) ?_
  refine Eq.trans (ev_ldi (show zcode 0 532 = some (4, 533, 3, 0, []) by decide +kernel) rfl) ?_
  refine Eq.trans (ev_ci (show zcode 0 533 = some (0, 534, 0, 2, []) by decide +kernel) (by decide)) ?_
  refine Eq.trans (ev_add (show zcode 0 534 = some (11, 535, 0, 0, []) by decide +kernel) h3) ?_
  refine Eq.trans (ev_scr (show zcode 0 535 = some (60, 536, 0, 0, []) by decide +kernel) h4) ?_
  exact ev_cvirt (show zcode 0 536 = some (76, 539, 188, 3, [12]) by decide +kernel) (args := [(0, (V (-2) (x3 + 1))), (0, (V (-2) (x3 + 2)))]) (rest := [(0, y0)]) rfl h5 rfl (show 1 ≤ 8 by decide) ⟨by decide, show 3 ≤ 3 by decide⟩
theorem b0_539 {T : zT} {V : zM} {q1 : Int} {q2 : Int} {x3 : Int} {y0 : Int} {y1 : Int} : ev 0 539 [(4, 0), (2, q1), (2, q2), (0, x3)] [(0, y1), (0, y0)] T V = if y0 = y1 then ev 0 1271 [(4, 0), (2, q1), (2, q2), (0, x3)] [] T V else ev 0 542 [(4, 0), (2, q1), (2, q2), (0, x3)] [] T V := by
  exact ev_ceq (show zcode 0 539 = some (46, 542, 1271, 0, []) by decide +kernel)
theorem b0_542 {T : zT} {V : zM} {q1 : Int} {q2 : Int} {x3 : Int} : ev 0 542 [(4, 0), (2, q1), (2, q2), (0, x3)] [] T V = some ((0, 0), T, V) := by
  refine Eq.trans (ev_ci (show zcode 0 542 = some (0, 543, 0, 0, []) by decide +kernel) (by decide)) ?_
  exact ev_rz (show zcode 0 543 = some (72, 544, 3, 0, []) by decide +kernel) (by decide)
theorem b0_544 {T : zT} {V : zM} {q1 : Int} {q2 : Int} {x3 : Int} (h1 : -2147483648 ≤ (x3 + 1) ∧ (x3 + 1) ≤ 2147483647) (h2 : (0 : Int) ≤ (x3 + 1) ∧ (x3 + 1) < zl T (-2)) (h3 : -2147483648 ≤ (x3 + 2) ∧ (x3 + 2) ≤ 2147483647) (h4 : (0 : Int) ≤ (x3 + 2) ∧ (x3 + 2) < zl T (-2)) (h5 : zO T q1 11) : ev 0 544 [(4, 0), (2, q1), (2, q2), (0, x3)] [] T V = (zcall 80 [(2, q1), (0, (V (-2) (x3 + 1))), (0, (V (-2) (x3 + 2)))] T V).bind fun x => ev 0 558 [(4, 0), (2, q1), (2, q2), (0, x3)] (z_push x.1 []) x.2.1 x.2.2 := by
  refine Eq.trans (ev_lda (show zcode 0 544 = some (6, 545, 1, 0, []) by decide +kernel) rfl (by decide)) ?_
  refine Eq.trans (ev_lda (show zcode 0 545 = some (6, 546, 0, 0, []) by decide +kernel) rfl (by decide)) ?_
  refine Eq.trans (ev_ldi (show zcode 0 546 = some (4, 547, 3, 0, []) by decide +kernel) rfl) ?_
  refine Eq.trans (ev_ci (show zcode 0 547 = some (0, 548, 0, 1, []) by decide +kernel) (by decide)) ?_
  refine Eq.trans (ev_add (show zcode 0 548 = some (11, 549, 0, 0, []) by decide +kernel) h1) ?_
  refine Eq.trans (ev_scr (show zcode 0 549 = some (60, 550, 0, 0, []) by decide +kernel) h2) ?_
  refine Eq.trans (ev_lda (show zcode 0 550 = some (6, 551, 0, 0, []) by decide +kernel) rfl (by decide)) ?_
  refine Eq.trans (ev_ldi (show zcode 0 551 = some (4, 552, 3, 0, []) by decide +kernel) rfl) ?_
  refine Eq.trans (ev_ci (show zcode 0 552 = some (0, 553, 0, 2, []) by decide +kernel) (by decide)) ?_
  refine Eq.trans (ev_add (show zcode 0 553 = some (11, 554, 0, 0, []) by decide +kernel) h3) ?_
  refine Eq.trans (ev_scr (show zcode 0 554 = some (60, 555, 0, 0, []) by decide +kernel) h4) ?_
  exact ev_cvirt (show zcode 0 555 = some (76, 558, 80, 3, [11]) by decide +kernel) (args := [(0, (V (-2) (x3 + 1))), (0, (V (-2) (x3 + 2)))]) (rest := []) rfl h5 rfl (show 0 ≤ 8 by decide) ⟨by decide, show 3 ≤ 3 by decide⟩
theorem b0_558 {T : zT} {V : zM} {q1 : Int} {q2 : Int} {x3 : Int} {y0 : Int} (h1 : -2147483648 ≤ (x3 + 1) ∧ (x3 + 1) ≤ 2147483647) (h2 : (0 : Int) ≤ (x3 + 1) ∧ (x3 + 1) < zl T (-2)) (h3 : -2147483648 ≤ (x3 + 2) ∧ (x3 + 2) ≤ 2147483647) (h4 : (0 : Int) ≤ (x3 + 2) ∧ (x3 + 2) < zl T (-2)) (h5 : zO T q2 12) : ev 0 558 [(4, 0), (2, q1), (2, q2), (0, x3)] [(0, y0)] T V = (zcall 191 [(2, q2), (0, (V (-2) (x3 + 1))), (0, (V (-2) (x3 + 2)))] T V).bind fun x => ev 0 572 [(4, 0), (2, q1), (2, q2), (0, x3)] (z_push x.1 [(0, y0)]) x.2.1 x.2.2 := by
  refine Eq.trans (ev_lda (show zcode 0 558 = some (6, 559, 2, 0, []) by decide +kernel) rfl (by decide)) ?_
  refine Eq.trans (ev_lda (show zcode 0 559 = some (6, 560, 0, 0, []) by decide +kernel) rfl (by decide)) ?_
  refine Eq.trans (ev_ldi (show zcode 0 560 = some (4, 561, 3, 0, []) by decide +kernel) rfl) ?_
  refine Eq.trans (ev_ci (show zcode 0 561 = some (0, 562, 0, 1, []) by decide +kernel) (by decide)) ?_
  refine Eq.trans (ev_add (show zcode 0 562 = some (11, 563, 0, 0, []) by decide +kernel) h1) ?_
  refine Eq.trans (ev_scr (show zcode 0 563 = some (60, 564, 0, 0, []) by decide +kernel) h2) ?_
  refine Eq.trans (ev_lda (show zcode 0 564 = some (6, 565, 0, 0, []) by decide +kernel) rfl (by decide)) ?_
  refine Eq.trans (ev_ldi (show zcode 0 565 = some (4, 566, 3, 0, []) by decide +kernel) rfl) ?_
  refine Eq.trans (ev_ci (show zcode 0 566 = some (0, 567, 0, 2, []) by decide +kernel) (by decide)) ?_
  refine Eq.trans (ev_add (show zcode 0 567 = some (11, 568, 0, 0, []) by decide +kernel) h3) ?_
  refine Eq.trans (ev_scr (show zcode 0 568 = some (60, 569, 0, 0, []) by decide +kernel) h4) ?_
  exact ev_cvirt (show zcode 0 569 = some (76, 572, 191, 3, [12]) by decide +kernel) (args := [(0, (V (-2) (x3 + 1))), (0, (V (-2) (x3 + 2)))]) (rest := [(0, y0)]) rfl h5 rfl (show 1 ≤ 8 by decide) ⟨by decide, show 3 ≤ 3 by decide⟩
theorem b0_572 {T : zT} {V : zM} {q1 : Int} {q2 : Int} {x3 : Int} {y0 : Int} {y1 : Int} : ev 0 572 [(4, 0), (2, q1), (2, q2), (0, x3)] [(0, y1), (0, y0)] T V = if y0 = y1 then ev 0 1271 [(4, 0), (2, q1), (2, q2), (0, x3)] [] T V else ev 0 575 [(4, 0), (2, q1), (2, q2), (0, x3)] [] T V := by
  exact ev_ceq (show zcode 0 572 = some (46, 575, 1271, 0, []) by decide +kernel)
theorem b0_575 {T : zT} {V : zM} {q1 : Int} {q2 : Int} {x3 : Int} : ev 0 575 [(4, 0), (2, q1), (2, q2), (0, x3)] [] T V = some ((0, 0), T, V) := by
  refine Eq.trans (ev_ci (show zcode 0 575 = some (0, 576, 0, 0, []) by decide +kernel) (by decide)) ?_
  exact ev_rz (show zcode 0 576 = some (72, 577, 3, 0, []) by decide +kernel) (by decide)
theorem b0_577 {T : zT} {V : zM} {q1 : Int} {q2 : Int} {x3 : Int} (h1 : -2147483648 ≤ (x3 + 1) ∧ (x3 + 1) ≤ 2147483647) (h2 : (0 : Int) ≤ (x3 + 1) ∧ (x3 + 1) < zl T (-2)) (h3 : zO T q1 11) : ev 0 577 [(4, 0), (2, q1), (2, q2), (0, x3)] [] T V = (zcall 82 [(2, q1), (0, (V (-2) (x3 + 1)))] T V).bind fun x => ev 0 586 [(4, 0), (2, q1), (2, q2), (0, x3)] (z_push x.1 []) x.2.1 x.2.2 := by
  refine Eq.trans (ev_lda (show zcode 0 577 = some (6, 578, 1, 0, []) by decide +kernel) rfl (by decide)) ?_
  refine Eq.trans (ev_lda (show zcode 0 578 = some (6, 579, 0, 0, []) by decide +kernel) rfl (by decide)) ?_
  refine Eq.trans (ev_ldi (show zcode 0 579 = some (4, 580, 3, 0, []) by decide +kernel) rfl) ?_
  refine Eq.trans (ev_ci (show zcode 0 580 = some (0, 581, 0, 1, []) by decide +kernel) (by decide)) ?_
  refine Eq.trans (ev_add (show zcode 0 581 = some (11, 582, 0, 0, []) by decide +kernel) h1) ?_
  refine Eq.trans (ev_scr (show zcode 0 582 = some (60, 583, 0, 0, []) by decide +kernel) h2) ?_
  exact ev_cvirt (show zcode 0 583 = some (76, 586, 82, 2, [11]) by decide +kernel) (args := [(0, (V (-2) (x3 + 1)))]) (rest := []) rfl h3 rfl (show 0 ≤ 8 by decide) ⟨by decide, show 2 ≤ 5 by decide⟩
theorem b0_586 {T : zT} {V : zM} {q1 : Int} {q2 : Int} {x3 : Int} {y0 : Int} (h1 : -2147483648 ≤ (x3 + 1) ∧ (x3 + 1) ≤ 2147483647) (h2 : (0 : Int) ≤ (x3 + 1) ∧ (x3 + 1) < zl T (-2)) (h3 : zO T q2 12) : ev 0 586 [(4, 0), (2, q1), (2, q2), (0, x3)] [(0, y0)] T V = (zcall 193 [(2, q2), (0, (V (-2) (x3 + 1)))] T V).bind fun x => ev 0 595 [(4, 0), (2, q1), (2, q2), (0, x3)] (z_push x.1 [(0, y0)]) x.2.1 x.2.2 := by
  refine Eq.trans (ev_lda (show zcode 0 586 = some (6, 587, 2, 0, []) by decide +kernel) rfl (by decide)) ?_
  refine Eq.trans (ev_lda (show zcode 0 587 = some (6, 588, 0, 0, []) by decide +kernel) rfl (by decide)) ?_
  refine Eq.trans (ev_ldi (show zcode 0 588 = some (4, 589, 3, 0, []) by decide +kernel) rfl) ?_
  refine Eq.trans (ev_ci (show zcode 0 589 = some (0, 590, 0, 1, []) by decide +kernel) (by decide)) ?_
  refine Eq.trans (ev_add (show zcode 0 590 = some (11, 591, 0, 0, []) by decide +kernel) h1) ?_
  refine Eq.trans (ev_scr (show zcode 0 591 = some (60, 592, 0, 0, []) by decide +kernel) h2) ?_
  exact ev_cvirt (show zcode 0 592 = some (76, 595, 193, 2, [12]) by decide +kernel) (args := [(0, (V (-2) (x3 + 1)))]) (rest := [(0, y0)]) rfl h3 rfl (show 1 ≤ 8 by decide) ⟨by decide, show 2 ≤ 5 by decide⟩
theorem b0_595 {T : zT} {V : zM} {q1 : Int} {q2 : Int} {x3 : Int} {y0 : Int} {y1 : Int} : ev 0 595 [(4, 0), (2, q1), (2, q2), (0, x3)] [(0, y1), (0, y0)] T V = if y0 = y1 then ev 0 1271 [(4, 0), (2, q1), (2, q2), (0, x3)] [] T V else ev 0 598 [(4, 0), (2, q1), (2, q2), (0, x3)] [] T V := by
  exact ev_ceq (show zcode 0 595 = some (46, 598, 1271, 0, []) by decide +kernel)
theorem b0_598 {T : zT} {V : zM} {q1 : Int} {q2 : Int} {x3 : Int} : ev 0 598 [(4, 0), (2, q1), (2, q2), (0, x3)] [] T V = some ((0, 0), T, V) := by
  refine Eq.trans (ev_ci (show zcode 0 598 = some (0, 599, 0, 0, []) by decide +kernel) (by decide)) ?_
  exact ev_rz (show zcode 0 599 = some (72, 600, 3, 0, []) by decide +kernel) (by decide)
theorem b0_600 {T : zT} {V : zM} {q1 : Int} {q2 : Int} {x3 : Int} (h1 : -2147483648 ≤ (x3 + 1) ∧ (x3 + 1) ≤ 2147483647) (h2 : (0 : Int) ≤ (x3 + 1) ∧ (x3 + 1) < zl T (-2)) (h3 : -2147483648 ≤ (x3 + 2) ∧ (x3 + 2) ≤ 2147483647) (h4 : (0 : Int) ≤ (x3 + 2) ∧ (x3 + 2) < zl T (-2)) (h5 : -2147483648 ≤ (x3 + 3) ∧ (x3 + 3) ≤ 2147483647) (h6 : (0 : Int) ≤ (x3 + 3) ∧ (x3 + 3) < zl T (-2)) (h7 : zO T q1 11) : ev 0 600 [(4, 0), (2, q1), (2, q2), (0, x3)] [] T V = (zcall 85 [(2, q1), (0, (V (-2) (x3 + 1))), (0, (V (-2) (x3 + 2))), (0, (V (-2) (x3 + 3)))] T V).bind fun x => ev 0 619 [(4, 0), (2, q1), (2, q2), (0, x3)] (z_push x.1 []) x.2.1 x.2.2 := by
  refine Eq.trans (ev_lda (show zcode 0 600 = some (6, 601, 1, 0, []) by decide +kernel) rfl (by decide)) ?_
  refine Eq.trans (ev_lda (show zcode 0 601 = some (6, 602, 0, 0, []) by decide +kernel) rfl (by decide)) ?_
  refine Eq.trans (ev_ldi (show zcode 0 602 = some (4, 603, 3, 0, []) by decide +kernel) rfl) ?_
  refine Eq.trans (ev_ci (show zcode 0 603 = some (0, 604, 0, 1, []) by decide +kernel) (by decide)) ?_
  refine Eq.trans (ev_add (show zcode 0 604 = some (11, 605, 0, 0, []) by decide +kernel) h1) ?_
  refine Eq.trans (ev_scr (show zcode 0 605 = some (60, 606, 0, 0, []) by decide +kernel) h2) ?_
  refine Eq.trans (ev_lda (show zcode 0 606 = some (6, 607, 0, 0, []) by decide +kernel) rfl (by decide)) ?_
  refine Eq.trans (ev_ldi (show zcode 0 607 = some (4, 608, 3, 0, []) by decide +kernel) rfl) ?_
  refine Eq.trans (ev_ci (show zcode 0 608 = some (0, 609, 0, 2, []) by decide +kernel) (by decide)) ?_
  refine Eq.trans (ev_add (show zcode 0 609 = some (11, 610, 0, 0, []) by decide +kernel) h3) ?_
  refine Eq.trans (ev_scr (show zcode 0 610 = some (60, 611, 0, 0, []) by decide +kernel) h4) ?_
  refine Eq.trans (ev_lda (show zcode 0 611 = some (6, 612, 0, 0, []) by decide +kernel) rfl (by decide)) ?_
  refine Eq.trans (ev_ldi (show zcode 0 612 = some (4, 613, 3, 0, []) by decide +kernel) rfl) ?_
  refine Eq.trans (ev_ci (show zcode 0 613 = some (0, 614, 0, 3, []) by decide +kernel) (by decide)) ?_
  refine Eq.trans (ev_add (show zcode 0 614 = some (11, 615, 0, 0, []) by decide +kernel) h5) ?_
  refine Eq.trans (ev_scr (show zcode 0 615 = some (60, 616, 0, 0, []) by decide +kernel) h6) ?_
  exact ev_cvirt (show zcode 0 616 = some (76, 619, 85, 4, [11]) by decide +kernel) (args := [(0, (V (-2) (x3 + 1))), (0, (V (-2) (x3 + 2))), (0, (V (-2) (x3 + 3)))]) (rest := []) rfl h7 rfl (show 0 ≤ 8 by decide) ⟨by decide, show 4 ≤ 5 by decide⟩
theorem b0_619 {T : zT} {V : zM} {q1 : Int} {q2 : Int} {x3 : Int} {y0 : Int} (h1 : -2147483648 ≤ (x3 + 1) ∧ (x3 + 1) ≤ 2147483647) (h2 : (0 : Int) ≤ (x3 + 1) ∧ (x3 + 1) < zl T (-2)) (h3 : -2147483648 ≤ (x3 + 2) ∧ (x3 + 2) ≤ 2147483647) (h4 : (0 : Int) ≤ (x3 + 2) ∧ (x3 + 2) < zl T (-2)) (h5 : -2147483648 ≤ (x3 + 3) ∧ (x3 + 3) ≤ 2147483647) (h6 : (0 : Int) ≤ (x3 + 3) ∧ (x3 + 3) < zl T (-2)) (h7 : zO T q2 12) : ev 0 619 [(4, 0), (2, q1), (2, q2), (0, x3)] [(0, y0)] T V = (zcall 195 [(2, q2), (0, (V (-2) (x3 + 1))), (0, (V (-2) (x3 + 2))), (0, (V (-2) (x3 + 3)))] T V).bind fun x => ev 0 638 [(4, 0), (2, q1), (2, q2), (0, x3)] (z_push x.1 [(0, y0)]) x.2.1 x.2.2 := by
  refine Eq.trans (ev_lda (show zcode 0 619 = some (6, 620, 2, 0, []) by decide +kernel) rfl (by decide)) ?_
  refine Eq.trans (ev_lda (show zcode 0 620 = some (6, 621, 0, 0, []) by decide +kernel) rfl (by decide)) ?_
  refine Eq.trans (ev_ldi (show zcode 0 621 = some (4, 622, 3, 0, []) by decide +kernel) rfl) ?_
  refine Eq.trans (ev_ci (show zcode 0 622 = some (0, 623, 0, 1, []) by decide +kernel) (by decide)) ?_
  refine Eq.trans (ev_add (show zcode 0 623 = some (11, 624, 0, 0, []) by decide +kernel) h1) ?_
  refine Eq.trans (ev_scr (show zcode 0 624 = some (60, 625, 0, 0, []) by decide +kernel) h2) ?_
  refine Eq.trans (ev_lda (show zcode 0 625 = some (6, 626, 0, 0, []) by decide +kernel) rfl (by decide)) ?_
  refine Eq.trans (ev_ldi (show zcode 0 626 = some (4, 627, 3, 0, []) by decide +kernel) rfl) ?_
  refine Eq.trans (ev_ci (show zcode 0 627 = some (0, 628, 0, 2, []) by decide +kernel) (by decide)) ?_
  refine Eq.trans (ev_add (show zcode 0 628 = some (11, 629, 0, 0, []) by decide +kernel) h3) ?_
  refine Eq.trans (ev_scr (show zcode 0 629 = some (60, 630, 0, 0, []) by decide +kernel) h4) ?_
  refine Eq.trans (ev_lda (show zcode 0 630 = some (6, 631, 0, 0, []) by decide +kernel) rfl (by decide)) ?_
  refine Eq.trans (ev_ldi (show zcode 0 631 = some (4, 632, 3, 0, []) by decide +kernel) rfl) ?_
  refine Eq.trans (ev_ci (show zcode 0 632 = some (0, 633, 0, 3, []) by decide +kernel) (by decide)) ?_
  refine Eq.trans (ev_add (show zcode 0 633 = some (11, 634, 0, 0, []) by decide +kernel) h5) ?_
  refine Eq.trans (ev_scr (show zcode 0 634 = some (60, 635, 0, 0, []) by decide +kernel) h6) ?_
  exact ev_cvirt (show zcode 0 635 = some (76, 638, 195, 4, [12]) by decide +kernel) (args := [(0, (V (-2) (x3 + 1))), (0, (V (-2) (x3 + 2))), (0, (V (-2) (x3 + 3)))]) (rest := [(0, y0)]) rfl h7 rfl (show 1 ≤ 8 by decide) ⟨by decide, show 4 ≤ 7 by decide⟩
theorem b0_638 {T : zT} {V : zM} {q1 : Int} {q2 : Int} {x3 : Int} {y0 : Int} {y1 : Int} : ev 0 638 [(4, 0), (2, q1), (2, q2), (0, x3)] [(0, y1), (0, y0)] T V = if y0 = y1 then ev 0 1271 [(4, 0), (2, q1), (2, q2), (0, x3)] [] T V else ev 0 641 [(4, 0), (2, q1), (2, q2), (0, x3)] [] T V := by
  exact ev_ceq (show zcode 0 638 = some (46, 641, 1271, 0, []) by decide +kernel)
theorem b0_641 {T : zT} {V : zM} {q1 : Int} {q2 : Int} {x3 : Int} : ev 0 641 [(4, 0), (2, q1), (2, q2), (0, x3)] [] T V = some ((0, 0), T, V) := by
  refine Eq.trans (ev_ci (show zcode 0 641 = some (0, 642, 0, 0, []) by decide +kernel) (by decide)) ?_
  exact ev_rz (show zcode 0 642 = some (72, 643, 3, 0, []) by decide +kernel) (by decide)
theorem b0_643 {T : zT} {V : zM} {q1 : Int} {q2 : Int} {x3 : Int} (h1 : -2147483648 ≤ (x3 + 1) ∧ (x3 + 1) ≤ 2147483647) (h2 : (0 : Int) ≤ (x3 + 1) ∧ (x3 + 1) < zl T (-2)) (h3 : zO T q1 11) : ev 0 643 [(4, 0), (2, q1), (2, q2), (0, x3)] [] T V = (zcall 88 [(2, q1), (0, (V (-2) (x3 + 1)))] T V).bind fun x => ev 0 652 [(4, 0), (2, q1), (2, q2), (0, x3)] (z_push x.1 []) x.2.1 x.2.2 := by
  refine Eq.trans (ev_lda (show zcode 0 643 = some (6, 644, 1, 0, []) by decide +kernel) rfl (by decide)) ?_
  refine Eq.trans (ev_lda (show zcode 0 644 = some (6, 645, 0, 0, []) by decide +kernel) rfl (by decide)) ?_
  refine Eq.trans (ev_ldi (show zcode 0 645 = some (4, 646, 3, 0, []) by decide +kernel) rfl) ?_
  refine Eq.trans (ev_ci (show zcode 0 646 = some (0, 647, 0, 1, []) by decide +kernel) (by decide)) ?_
  refine Eq.trans (ev_add (show zcode 0 647 = some (11, 648, 0, 0, []) by decide +kernel) h1) ?_
  refine Eq.trans (ev_scr (show zcode 0 648 = some (60, 649, 0, 0, []) by decide +kernel) h2) ?_
  exact ev_cvirt (show zcode 0 649 = some (76, 652, 88, 2, [11]) by decide +kernel) (args := [(0, (V (-2) (x3 + 1)))]) (rest := []) rfl h3 rfl (show 0 ≤ 8 by decide) ⟨by decide, show 2 ≤ 4 by decide⟩
theorem b0_652 {T : zT} {V : zM} {q1 : Int} {q2 : Int} {x3 : Int} {y0 : Int} (h1 : -2147483648 ≤ (x3 + 1) ∧ (x3 + 1) ≤ 2147483647) (h2 : (0 : Int) ≤ (x3 + 1) ∧ (x3 + 1) < zl T (-2)) (h3 : zO T q2 12) : ev 0 652 [(4, 0), (2, q1), (2, q2), (0, x3)] [(0, y0)] T V = (zcall 200 [(2, q2), (0, (V (-2) (x3 + 1)))] T V).bind fun x => ev 0 661 [(4, 0), (2, q1), (2, q2), (0, x3)] (z_push x.1 [(0, y0)]) x.2.1 x.2.2 := by
  refine Eq.trans (ev_lda (show zcode 0 652 = some (6, 653, 2, 0, []) by decide +kernel) rfl (by decide)) ?_
  refine Eq.trans (ev_lda (show zcode 0 653 = some (6, 654, 0, 0, []) by decide +kernel) rfl (by decide)) ?_
  refine Eq.trans (ev_ldi (show zcode 0 654 = some (4, 655, 3, 0, []) by decide +kernel) rfl) ?_
  refine Eq.trans (ev_ci (show zcode 0 655 = some (0, 656, 0, 1, []) by decide +kernel) (by decide)) ?_
  refine Eq.trans (ev_add (show zcode 0 656 = some (11, 657, 0, 0, []) by decide +kernel) h1) ?_
  refine Eq.trans (ev_scr (show zcode 0 657 = some (60, 658, 0, 0, []) by decide +kernel) h2) ?_
  exact ev_cvirt (show zcode 0 658 = some (76, 661, 200, 2, [12]) by decide +kernel) (args := [(0, (V (-2) (x3 + 1)))]) (rest := [(0, y0)]) rfl h3 rfl (show 1 ≤ 8 by decide) ⟨by decide, show 2 ≤ 4 by decide⟩
theorem b0_661 {T : zT} {V : zM} {q1 : Int} {q2 : Int} {x3 : Int} {y0 : Int} {y1 : Int} : ev 0 661 [(4, 0), (2, q1), (2, q2), (0, x3)] [(0, y1), (0, y0)] T V = if y0 = y1 then ev 0 1271 [(4, 0), (2, q1), (2, q2), (0, x3)] [] T V else ev 0 664 [(4, 0), (2, q1), (2, q2), (0, x3)] [] T V := by
  exact ev_ceq (show zcode 0 661 = some (46, 664, 1271, 0, []) by decide +kernel)
theorem b0_664 {T : zT} {V : zM} {q1 : Int} {q2 : Int} {x3 : Int} : ev 0 664 [(4, 0), (2, q1), (2, q2), (0, x3)] [] T V = some ((0, 0), T, V) := by
  refine Eq.trans (ev_ci (show zcode 0 664 = some (0, 665, 0, 0, []) by decide +kernel) (by decide)) ?_
  exact ev_rz (show zcode 0 665 = some (72, 666, 3, 0, []) by decide +kernel) (by decide)
theorem b0_666 {T : zT} {V : zM} {q1 : Int} {q2 : Int} {x3 : Int} (h1 : zO T q1 11) : ev 0 666 [(4, 0), (2, q1), (2, q2), (0, x3)] [] T V = (zcall 89 [(2, q1)] T V).bind fun x => ev 0 670 [(4, 0), (2, q1), (2, q2), (0, x3)] (z_push x.1 []) x.2.1 x.2.2 := by
  refine Eq.trans (ev_lda (show zcode 0 666 = some (6, 667, 1, 0, []) by decide +kernel) rfl (by decide)) ?_
  exact ev_cvirt (show zcode 0 667 = some (76, 670, 89, 1, [11]) by decide +kernel) (args := []) (rest := []) rfl h1 rfl (show 0 ≤ 8 by decide) ⟨by decide, show 1 ≤ 4 by decide⟩
theorem b0_670 {T : zT} {V : zM} {q1 : Int} {q2 : Int} {x3 : Int} {y0 : Int} (h1 : zO T q2 12) : ev 0 670 [(4, 0), (2, q1), (2, q2), (0, x3)] [(0, y0)] T V = (zcall 201 [(2, q2)] T V).bind fun x => ev 0 674 [(4, 0), (2, q1), (2, q2), (0, x3)] (z_push x.1 [(0, y0)]) x.2.1 x.2.2 := by
  refine Eq.trans (ev_lda (show zcode 0 670 = some (6, 671, 2, 0, []) by decide +kernel) rfl (by decide)) ?_
  exact ev_cvirt (show zcode 0 671 = some (76, 674, 201, 1, [12]) by decide +kernel) (args := []) (rest := [(0, y0)]) rfl h1 rfl (show 1 ≤ 8 by decide) ⟨by decide, show 1 ≤ 4 by decide⟩
theorem b0_674 {T : zT} {V : zM} {q1 : Int} {q2 : Int} {x3 : Int} {y0 : Int} {y1 : Int} : ev 0 674 [(4, 0), (2, q1), (2, q2), (0, x3)] [(0, y1), (0, y0)] T V = if y0 = y1 then ev 0 1271 [(4, 0), (2, q1), (2, q2), (0, x3)] [] T V else ev 0 677 [(4, 0), (2, q1), (2, q2), (0, x3)] [] T V := by
  exact ev_ceq (show zcode 0 674 = some (46, 677, 1271, 0, []) by decide +kernel)
theorem b0_677 {T : zT} {V : zM} {q1 : Int} {q2 : Int} {x3 : Int} : ev 0 677 [(4, 0), (2, q1), (2, q2), (0, x3)] [] T V = some ((0, 0), T, V) := by
  refine Eq.trans (ev_ci (show zcode 0 677 = some (0, 678, 0, 0, []) by decide +kernel) (by decide)) ?_
  exact ev_rz (show zcode 0 678 = some (72, 679, 3, 0, []) by decide +kernel) (by decide)
theorem b0_679 {T : zT} {V : zM} {q1 : Int} {q2 : Int} {x3 : Int} (h1 : -2147483648 ≤ (x3 + 1) ∧ (x3 + 1) ≤ 2147483647) (h2 : (0 : Int) ≤ (x3 + 1) ∧ (x3 + 1) < zl T (-2)) (h3 : -2147483648 ≤ (x3 + 2) ∧ (x3 + 2) ≤ 2147483647) (h4 : (0 : Int) ≤ (x3 + 2) ∧ (x3 + 2) < zl T (-2)) (h5 : zO T q1 11) : ev 0 679 [(4, 0), (2, q1), (2, q2), (0, x3)] [] T V = (zcall 90 [(2, q1), (0, (V (-2) (x3 + 1))), (0, (V (-2) (x3 + 2)))] T V).bind fun x => ev 0 693 [(4, 0), (2, q1), (2, q2), (0, x3)] (z_push x.1 []) x.2.1 x.2.2 := by
  refine Eq.trans (ev_lda (show zcode 0 679 = some (6, 680, 1, 0, []) by decide +kernel) rfl (by decide)) ?_
  refine Eq.trans (ev_lda (show zcode 0 680 = some (6, 681, 0, 0, []) by decide +kernel) rfl (by decide)) ?_
  refine Eq.trans (ev_ldi (show zcode 0 681 = some (4, 682, 3, 0, []) by decide +kernel) rfl) ?_
  refine Eq.trans (ev_ci (show zcode 0 682 = some (0, 683, 0, 1, []) by decide +kernel) (by decide)) ?_
  refine Eq.trans (ev_add (show zcode 0 683 = some (11, 684, 0, 0, []) by decide +kernel) h1) ?_
  refine Eq.trans (ev_scr (show zcode 0 684 = some (60, 685, 0, 0, []) by decide +kernel) h2) ?_
  refine Eq.trans (ev_lda (show zcode 0 685 = some (6, 686, 0, 0, []) by decide +kernel) rfl (by decide)) ?_
  refine Eq.trans (ev_ldi (show zcode 0 686 = some (4, 687, 3, 0, []) by decide +kernel) rfl) ?_
  refine Eq.trans (ev_ci (show zcode 0 687 = some (0, 688, 0, 2, []) by decide +kernel) (by decide)) ?_
  refine Eq.trans (ev_add (show zcode 0 688 = some (11, 689, 0, 0, []) by decide +kernel) h3) ?_
  refine Eq.trans (ev_scr (show zcode 0 689 = some (60, 690, 0, 0, []) by decide +kernel) h4) ?_
  exact ev_cvirt (show zcode 0 690 = some (76, 693, 90, 3, [11]) by decide +kernel) (args := [(0, (V (-2) (x3 + 1))), (0, (V (-2) (x3 + 2)))]) (rest := []) rfl h5 rfl (show 0 ≤ 8 by decide) ⟨by decide, show 3 ≤ 4 by decide⟩
theorem b0_693 {T : zT} {V : zM} {q1 : Int} {q2 : Int} {x3 : Int} {y0 : Int} (h1 : -2147483648 ≤ (x3 + 1) ∧ (x3 + 1) ≤ 2147483647) (h2 : (0 : Int) ≤ (x3 + 1) ∧ (x3 + 1) < zl T (-2)) (h3 : -2147483648 ≤ (x3 + 2) ∧ (x3 + 2) ≤ 2147483647) (h4 : (0 : Int) ≤ (x3 + 2) ∧ (x3 + 2) < zl T (-2)) (h5 : zO T q2 12) : ev 0 693 [(4, 0), (2, q1), (2, q2), (0, x3)] [(0, y0)] T V = (zcall 202 [(2, q2), (0, (V (-2) (x3 + 1))), (0, (V (-2) (x3 + 2)))] T V).bind fun x => ev 0 707 [(4, 0), (2, q1), (2, q2), (0, x3)] (z_push x.1 [(0, y0)]) x.2.1 x.2.2 := by
  refine Eq.trans (ev_lda (show zcode 0 693 = some (6, 694, 2, 0, []) by decide +kernel) rfl (by decide)) ?_
  refine Eq.trans (ev_lda (show zcode 0 694 = some (6, 695, 0, 0, []) by decide +kernel) rfl (by decide)) ?_
  refine Eq.trans (ev_ldi (show zcode 0 695 = some (4, 696, 3, 0, []) by decide +kernel) rfl) ?_
  refine Eq.trans (ev_ci (show zcode 0 696 = some (0, 697, 0, 1, []) by decide +kernel) (by decide)) ?_
  refine Eq.trans (ev_add (show zcode 0 697 = some (11, 698, 0, 0, []) by decide +kernel) h1) ?_
  refine Eq.trans (ev_scr (show zcode 0 698 = some (60, 699, 0, 0, []) by decide +kernel) h2) ?_
  refine Eq.trans (ev_lda (show zcode 0 699 = some (6, 700, 0, 0, []) by decide +kernel) rfl (by decide)) ?_
  refine Eq.trans (ev_ldi (show zcode 0 700 = some (4, 701, 3, 0, []) by decide +kernel) rfl) ?_
  refine Eq.trans (ev_ci (show zcode 0 701 = some (0, 702, 0, 2, []) by decide +kernel) (by decide)) ?_
  refine Eq.trans (ev_add (show zcode 0 702 = some (11, 703, 0, 0, []) by decide +kernel) h3) ?_
  refine Eq.trans (ev_scr (show zcode 0 703 = some (60, 704, 0, 0, []) by decide +kernel) h4) ?_
  exact ev_cvirt (show zcode 0 704 = some (76, 707, 202, 3, [12]) by decide +kernel) (args := [(0, (V (-2) (x3 + 1))), (0, (V (-2) (x3 + 2)))]) (rest := [(0, y0)]) rfl h5 rfl (show 1 ≤ 8 by decide) ⟨by decide, show 3 ≤ 4 by decide⟩
theorem b0_707 {T : zT} {V : zM} {q1 : Int} {q2 : Int} {x3 : Int} {y0 : Int} {y1 : Int} : ev 0 707 [(4, 0), (2, q1), (2, q2), (0, x3)] [(0, y1), (0, y0)] T V = if y0 = y1 then ev 0 1271 [(4, 0), (2, q1), (2, q2), (0, x3)] [] T V else ev 0 710 [(4, 0), (2, q1), (2, q2), (0, x3)] [] T V := by
  exact ev_ceq (show zcode 0 707 = some (46, 710, 1271, 0, []) by decide +kernel)
theorem b0_710 {T : zT} {V : zM} {q1 : Int} {q2 : Int} {x3 : Int} : ev 0 710 [(4, 0), (2, q1), (2, q2), (0, x3)] [] T V = some ((0, 0), T, V) := by
  refine Eq.trans (ev_ci (show zcode 0 710 = some (0, 711, 0, 0, []) by decide +kernel) (by decide)) ?_
  exact ev_rz (show zcode 0 711 = some (72, 712, 3, 0, []) by decide +kernel) (by decide)
theorem b0_712 {T : zT} {V : zM} {q1 : Int} {q2 : Int} {x3 : Int} (h1 : -2147483648 ≤ (x3 + 1) ∧ (x3 + 1) ≤ 2147483647) (h2 : (0 : Int) ≤ (x3 + 1) ∧ (x3 + 1) < zl T (-2)) (h3 : zO T q1 11) : ev 0 712 [(4, 0), (2, q1), (2, q2), (0, x3)] [] T V = (zcall 91 [(2, q1), (0, (V (-2) (x3 + 1)))] T V).bind fun x => ev 0 721 [(4, 0), (2, q1), (2, q2), (0, x3)] (z_push x.1 []) x.2.1 x.2.2 := by
  refine Eq.trans (ev_lda (show zcode 0 712 = some (6, 713, 1, 0, []) by decide +kernel) rfl (by decide)) ?_
  refine Eq.trans (ev_lda (show zcode 0 713 = some (6, 714, 0, 0, []) by decide +kernel) rfl (by decide)) ?_
  refine Eq.trans (ev_ldi (show zcode 0 714 = some (4, 715, 3, 0, []) by decide +kernel) rfl) ?_
  refine Eq.trans (ev_ci (show zcode 0 715 = some (0, 716, 0, 1, []) by decide +kernel) (by decide)) ?_
  refine Eq.trans (ev_add (show zcode 0 716 = some (11, 717, 0, 0, []) by decide +kernel) h1) ?_
  refine Eq.trans (ev_scr (show zcode 0 717 = some (60, 718, 0, 0, []) by decide +kernel) h2) ?_
  exact ev_cvirt (show zcode 0 718 = some (76, 721, 91, 2, [11]) by decide +kernel) (args := [(0, (V (-2) (x3 + 1)))]) (rest := []) rfl h3 rfl (show 0 ≤ 8 by decide) ⟨by decide, show 2 ≤ 3 by decide⟩
theorem b0_721 {T : zT} {V : zM} {q1 : Int} {q2 : Int} {x3 : Int} {y0 : Int} (h1 : -2147483648 ≤ (x3 + 1) ∧ (x3 + 1) ≤ 2147483647) (h2 : (0 : Int) ≤ (x3 + 1) ∧ (x3 + 1) < zl T (-2)) (h3 : zO T q2 12) : ev 0 721 [(4, 0), (2, q1), (2, q2), (0, x3)] [(0, y0)] T V = (zcall 203 [(2, q2), (0, (V (-2) (x3 + 1)))] T V).bind fun x => ev 0 730 [(4, 0), (2, q1), (2, q2), (0, x3)] (z_push x.1 [(0, y0)]) x.2.1 x.2.2 := by
  refine Eq.trans (ev_lda (show zcode 0 721 = some (6, 722, 2, 0, []) by decide +kernel) rfl (by decide)) ?_
  refine Eq.trans (ev_lda (show zcode 0 722 = some (6, 723, 0, 0, []) by decide +kernel) rfl (by decide)) ?_
  refine Eq.trans (ev_ldi (show zcode 0 723 = some (4, 724, 3, 0, []) by decide +kernel) rfl) ?_
  refine Eq.trans (ev_ci (show zcode 0 724 = some (0, 725, 0, 1, []) by decide +kernel) (by decide)) ?_
  refine Eq.trans (ev_add (show zcode 0 725 = some (11, 726, 0, 0, []) by decide +kernel) h1) ?_
  refine Eq.trans (ev_scr (show zcode 0 726 = some (60, 727, 0, 0, []) by decide +kernel) h2) ?_
  exact ev_cvirt (show zcode 0 727 = some (76, 730, 203, 2, [12]) by decide +kernel) (args := [(0, (V (-2) (x3 + 1)))]) (rest := [(0, y0)]) rfl h3 rfl (show 1 ≤ 8 by decide) ⟨by decide, show 2 ≤ 3 by decide⟩
theorem b0_730 {T : zT} {V : zM} {q1 : Int} {q2 : Int} {x3 : Int} {y0 : Int} {y1 : Int} : ev 0 730 [(4, 0), (2, q1), (2, q2), (0, x3)] [(0, y1), (0, y0)] T V = if y0 = y1 then ev 0 1271 [(4, 0), (2, q1), (2, q2), (0, x3)] [] T V else ev 0 733 [(4, 0), (2, q1), (2, q2), (0, x3)] [] T V := by
  exact ev_ceq (show zcode 0 730 = some (46, 733, 1271, 0, []) by decide +kernel)
theorem b0_733 {T : zT} {V : zM} {q1 : Int} {q2 : Int} {x3 : Int} : ev 0 733 [(4, 0), (2, q1), (2, q2), (0, x3)] [] T V = some ((0, 0), T, V) := by
  refine Eq.trans (ev_ci (show zcode 0 733 = some (0, 734, 0, 0, []) by decide +kernel) (by decide)) ?_
  exact ev_rz (show zcode 0 734 = some (72, 735, 3, 0, []) by decide +kernel) (by decide)
theorem b0_735 {T : zT} {V : zM} {q1 : Int} {q2 : Int} {x3 : Int} (h1 : -2147483648 ≤ (x3 + 1) ∧ (x3 + 1) ≤ 2147483647) (h2 : (0 : Int) ≤ (x3 + 1) ∧ (x3 + 1) < zl T (-2)) (h3 : zO T q1 11) : ev 0 735 [(4, 0), (2, q1), (2, q2), (0, x3)] [] T V = (zcall 92 [(2, q1), (0, (V (-2) (x3 + 1)))] T V).bind fun x => ev 0 744 [(4, 0), (2, q1), (2, q2), (0, x3)] (z_push x.1 []) x.2.1 x.2.2 := by
  refine Eq.trans (ev_lda (show zcode 0 735 = some (6, 736, 1, 0, []) by decide +kernel) rfl (by decide)) ?_
  refine Eq.trans (ev_lda (show zcode 0 736 = some (6, 737, 0, 0, []) by decide +kernel) rfl (by decide)) ?_
  refine Eq.trans (ev_ldi (show zcode 0 737 = some (4, 738, 3, 0, []) by decide +kernel) rfl) ?_
  refine Eq.trans (ev_ci (show zcode 0 738 = some (0, 739, 0, 1, []) by decide +kernel) (by decide)) ?_
  refine Eq.trans (ev_add (show zcode 0 739 = some (11, 740, 0, 0, []) by decide +kernel) h1) ?_
  refine Eq.trans (ev_scr (show zcode 0 740 = some (60, 741, 0, 0, []) by decide +kernel) h2) ?_
  exact ev_cvirt (show zcode 0 741 = some (76, 744, 92, 2, [11]) by decide +kernel) (args := [(0, (V (-2) (x3 + 1)))]) (rest := []) rfl h3 rfl (show 0 ≤ 8 by decide) ⟨by decide, show 2 ≤ 8 by decide⟩
theorem b0_744 {T : zT} {V : zM} {q1 : Int} {q2 : Int} {x3 : Int} {y0 : Int} (h1 : -2147483648 ≤ (x3 + 1) ∧ (x3 + 1) ≤ 2147483647) (h2 : (0 : Int) ≤ (x3 + 1) ∧ (x3 + 1) < zl T (-2)) (h3 : zO T q2 12) : ev 0 744 [(4, 0), (2, q1), (2, q2), (0, x3)] [(0, y0)] T V = (zcall 204 [(2, q2), (0, (V (-2) (x3 + 1)))] T V).bind fun x => ev 0 753 [(4, 0), (2, q1), (2, q2), (0, x3)] (z_push x.1 [(0, y0)]) x.2.1 x.2.2 := by
  refine Eq.trans (ev_lda (show zcode 0 744 = some (6, 745, 2, 0, []) by decide +kernel) rfl (by decide)) ?_
  refine Eq.trans (ev_lda (show zcode 0 745 = some (6, 746, 0, 0, []) by decide +kernel) rfl (by decide)) ?_
  refine Eq.trans (ev_ldi (show zcode 0 746 = some (4, 747, 3, 0, []) by decide +kernel) rfl) ?_
  refine Eq.trans (ev_ci (show zcode 0 747 = some (0, 748, 0, 1, []) by decide +kernel) (by decide)) ?_
  refine Eq.trans (ev_add (show zcode 0 748 = some (11, 749, 0, 0, []) by decide +kernel) h1) ?_
  refine Eq.trans (ev_scr (show zcode 0 749 = some (60, 750, 0, 0, []) by decide +kernel) h2) ?_
  exact ev_cvirt (show zcode 0 750 = some (76, 753, 204, 2, [12]) by decide +kernel) (args := [(0, (V (-2) (x3 + 1)))]) (rest := [(0, y0)]) rfl h3 rfl (show 1 ≤ 8 by decide) ⟨by decide, show 2 ≤ 7 by decide⟩
theorem b0_753 {T : zT} {V : zM} {q1 : Int} {q2 : Int} {x3 : Int} {y0 : Int} {y1 : Int} : ev 0 753 [(4, 0), (2, q1), (2, q2), (0, x3)] [(0, y1), (0, y0)] T V = if y0 = y1 then ev 0 1271 [(4, 0), (2, q1), (2, q2), (0, x3)] [] T V else ev 0 756 [(4, 0), (2, q1), (2, q2), (0, x3)] [] T V := by
  exact ev_ceq (show zcode 0 753 = some (46, 756, 1271, 0, []) by decide +kernel)
theorem b0_756 {T : zT} {V : zM} {q1 : Int} {q2 : Int} {x3 : Int} : ev 0 756 [(4, 0), (2, q1), (2, q2), (0, x3)] [] T V = some ((0, 0), T, V) := by
  refine Eq.trans (ev_ci (show zcode 0 756 = some (0, 757, 0, 0, []) by decide +kernel) (by decide)) ?_
  exact ev_rz (show zcode 0 757 = some (72, 758, 3, 0, []) by decide +kernel) (by decide)
theorem b0_758 {T : zT} {V : zM} {q1 : Int} {q2 : Int} {x3 : Int} (h1 : -2147483648 ≤ (x3 + 1) ∧ (x3 + 1) ≤ 2147483647) (h2 : (0 : Int) ≤ (x3 + 1) ∧ (x3 + 1) < zl T (-2)) (h3 : zO T q1 11) : ev 0 758 [(4, 0), (2, q1), (2, q2), (0, x3)] [] T V = (zcall 97 [(2, q1), (0, (V (-2) (x3 + 1)))] T V).bind fun x => ev 0 767 [(4, 0), (2, q1), (2, q2), (0, x3)] (z_push x.1 []) x.2.1 x.2.2 := by
  refine Eq.trans (ev_lda (show zcode 0 758 = some (6, 759, 1, 0, []) by decide +kernel) rfl (by decide)) ?_
  refine Eq.trans (ev_lda (show zcode 0 759 = some (6, 760, 0, 0, []) by decide +kernel) rfl (by decide)) ?_
  refine Eq.trans (ev_ldi (show zcode 0 760 = some (4, 761, 3, 0, []) by decide +kernel) rfl) ?_
  refine Eq.trans (ev_ci (show zcode 0 761 = some (0, 762, 0, 1, []) by decide +kernel) (by decide)) ?_
  refine Eq.trans (ev_add (show zcode 0 762 = some (11, 763, 0, 0, []) by decide +kernel) h1) ?_
  refine Eq.trans (ev_scr (show zcode 0 763 = some (60, 764, 0, 0, []) by decide +kernel) h2) ?_
  exact ev_cvirt (show zcode 0 764 = some (76, 767, 97, 2, [11]) by decide +kernel) (args := [(0, (V (-2) (x3 + 1)))]) (rest := []) rfl h3 rfl (show 0 ≤ 8 by decide) ⟨by decide, show 2 ≤ 3 by decide⟩
theorem b0_767 {T : zT} {V : zM} {q1 : Int} {q2 : Int} {x3 : Int} {y0 : Int} (h1 : -2147483648 ≤ (x3 + 1) ∧ (x3 + 1) ≤ 2147483647) (h2 : (0 : Int) ≤ (x3 + 1) ∧ (x3 + 1) < zl T (-2)) (h3 : zO T q2 12) : ev 0 767 [(4, 0), (2, q1), (2, q2), (0, x3)] [(0, y0)] T V = (zcall 207 [(2, q2), (0, (V (-2) (x3 + 1)))] T V).bind fun x => ev 0 776 [(4, 0), (2, q1), (2, q2), (0, x3)] (z_push x.1 [(0, y0)]) x.2.1 x.2.2 := by
  refine Eq.trans (ev_lda (show zcode 0 767 = some (6, 768, 2, 0, []) by decide +kernel) rfl (by decide)) ?_
  refine Eq.trans (ev_lda (show zcode 0 768 = some (6, 769, 0, 0, []) by decide +kernel) rfl (by decide)) ?_
  refine Eq.trans (ev_ldi (show zcode 0 769 = some (4, 770, 3, 0, []) by decide +kernel) rfl) ?_
  refine Eq.trans (ev_ci (show zcode 0 770 = some (0, 771, 0, 1, []) by decide +kernel) (by decide)) ?_
  refine Eq.trans (ev_add (show zcode 0 771 = some (11, 772, 0, 0, []) by decide +kernel) h1) ?_
  refine Eq.trans (ev_scr (show zcode 0 772 = some (60, 773, 0, 0, []) by decide +kernel) h2) ?_
  exact ev_cvirt (show zcode 0 773 = some (76, 776, 207, 2, [12]) by decide +kernel) (args := [(0, (V (-2) (x3 + 1)))]) (rest := [(0, y0)]) rfl h3 rfl (show 1 ≤ 8 by decide) ⟨by decide, show 2 ≤ 2 by decide⟩
theorem b0_776 {T : zT} {V : zM} {q1 : Int} {q2 : Int} {x3 : Int} {y0 : Int} {y1 : Int} : ev 0 776 [(4, 0), (2, q1), (2, q2), (0, x3)] [(0, y1), (0, y0)] T V = if y0 = y1 then ev 0 1271 [(4, 0), (2, q1), (2, q2), (0, x3)] [] T V else ev 0 779 [(4, 0), (2, q1), (2, q2), (0, x3)] [] T V := by
  exact ev_ceq (show zcode 0 776 = some (46, 779, 1271, 0, []) by decide +kernel)
theorem b0_779 {T : zT} {V : zM} {q1 : Int} {q2 : Int} {x3 : Int} : ev 0 779 [(4, 0), (2, q1), (2, q2), (0, x3)] [] T V = some ((0, 0), T, V) := by
  refine Eq.trans (ev_ci (show zcode 0 779 = some (0, 780, 0, 0, []) by decide +kernel) (by decide)) ?_
  exact ev_rz (show zcode 0 780 = some (72, 781, 3, 0, []) by decide +kernel) (by decide)
theorem b0_781 {T : zT} {V : zM} {q1 : Int} {q2 : Int} {x3 : Int} (h1 : -2147483648 ≤ (x3 + 1) ∧ (x3 + 1) ≤ 2147483647) (h2 : (0 : Int) ≤ (x3 + 1) ∧ (x3 + 1) < zl T (-2)) (h3 : -2147483648 ≤ (x3 + 2) ∧ (x3 + 2) ≤ 2147483647) (h4 : (0 : Int) ≤ (x3 + 2) ∧ (x3 + 2) < zl T (-2)) (h5 : zO T q1 11) : ev 0 781 [(4, 0), (2, q1), (2, q2), (0, x3)] [] T V = (zcall 98 [(2, q1), (0, (V (-2) (x3 + 1))), (0, (V (-2) (x3 + 2)))] T V).bind fun x => ev 0 795 [(4, 0), (2, q1), (2, q2), (0, x3)] (z_push x.1 []) x.2.1 x.2.2 := by
  refine Eq.trans (ev_lda (show zcode 0 781 = some (6, 782, 1, 0, []) by decide +kernel) rfl (by decide)) ?_
  refine Eq.trans (ev_lda (show zcode 0 782 = some (6, 783, 0, 0, []) by decide +kernel) rfl (by decide)) ?_
  refine Eq.trans (ev_ldi (show zcode 0 783 = some (4, 784, 3, 0, []) by decide +kernel) rfl) ?_
  refine Eq.trans (ev_ci (show zcode 0 784 = some (0, 785, 0, 1, []) by decide +kernel) (by decide)) ?_
  refine Eq.trans (ev_add (show zcode 0 785 = some (11, 786, 0, 0, []) by decide +kernel) h1) ?_
  refine Eq.trans (ev_scr (show zcode 0 786 = some (60, 787, 0, 0, []) by decide +kernel) h2) ?_
  refine Eq.trans (ev_lda (show zcode 0 787 = some (6, 788, 0, 0, []) by decide +kernel) rfl (by decide)) ?_
  refine Eq.trans (ev_ldi (show zcode 0 788 = some (4, 789, 3, 0, []) by decide +kernel) rfl) ?_
  refine Eq.trans (ev_ci (show zcode 0 789 = some (0, 790, 0, 2, []) by decide +kernel) (by decide)) ?_
  refine Eq.trans (ev_add (show zcode 0 790 = some (11, 791, 0, 0, []) by decide +kernel) h3) ?_
  refine Eq.trans (ev_scr (show zcode 0 791 = some (60, 792, 0, 0, []) by decide +kernel) h4) ?_
  exact ev_cvirt (show zcode 0 792 = some (76, 795, 98, 3, [11]) by decide +kernel) (args := [(0, (V (-2) (x3 + 1))), (0, (V (-2) (x3 + 2)))]) (rest := []) rfl h5 rfl (show 0 ≤ 8 by decide) ⟨by decide, show 3 ≤ 4 by decide⟩
theorem b0_795 {T : zT} {V : zM} {q1 : Int} {q2 : Int} {x3 : Int} {y0 : Int} (h1 : -2147483648 ≤ (x3 + 1) ∧ (x3 + 1) ≤ 2147483647) (h2 : (0 : Int) ≤ (x3 + 1) ∧ (x3 + 1) < zl T (-2)) (h3 : -2147483648 ≤ (x3 + 2) ∧ (x3 + 2) ≤ 2147483647) (h4 : (0 : Int) ≤ (x3 + 2) ∧ (x3 + 2) < zl T (-2)) (h5 : zO T q2 12) : ev 0 795 [(4, 0), (2, q1), (2, q2), (0, x3)] [(0, y0)] T V = (zcall 208 [(2, q2), (0, (V (-2) (x3 + 1))), (0, (V (-2) (x3 + 2)))] T V).bind fun x => ev 0 809 [(4, 0), (2, q1), (2, q2), (0, x3)] (z_push x.1 [(0, y0)]) x.2.1 x.2.2 := by
  refine Eq.trans (ev_lda (show zcode 0 795 = some (6, 796, 2, 0, []) by decide +kernel) rfl (by decide)) ?_
  refine Eq.trans (ev_lda (show zcode 0 796 = some (6, 797, 0, 0, []) by decide +kernel) rfl (by decide)) ?_
  refine Eq.trans (ev_ldi (show zcode 0 797 = some (4, 798, 3, 0, []) by decide +kernel) rfl) ?_
  refine Eq.trans (ev_ci (show zcode 0 798 = some (0, 799, 0, 1, []) by decide +kernel) (by decide)) ?_
  refine Eq.trans (ev_add (show zcode 0 799 = some (11, 800, 0, 0, []) by decide +kernel) h1) ?_
  refine Eq.trans (ev_scr (show zcode 0 800 = some (60, 801, 0, 0, []) by decide +kernel) h2) ?_
  refine Eq.trans (ev_lda (show zcode 0 801 = some (6, 802, 0, 0, []) by decide +kernel) rfl (by decide)) ?_
  refine Eq.trans (ev_ldi (show zcode 0 802 = some (4, 803, 3, 0, []) by decide +kernel) rfl) ?_
  refine Eq.trans (ev_ci (show zcode 0 803 = some (0, 804, 0, 2, []) by decide +kernel) (by decide)) ?_
  refine Eq.trans (ev_add (show zcode 0 804 = some (11, 805, 0, 0, []) by decide +kernel) h3) ?_
  refine Eq.trans (ev_scr (show zcode 0 805 = some (60, 806, 0, 0, []) by decide +kernel) h4) ?_
  exact ev_cvirt (show zcode 0 806 = some (76, 809, 208, 3, [12]) by decide +kernel) (args := [(0, (V (-2) (x3 + 1))), (0, (V (-2) (x3 + 2)))]) (rest := [(0, y0)]) rfl h5 rfl (show 1 ≤ 8 by decide) ⟨by decide, show 3 ≤ 4 by decide⟩
theorem b0_809 {T : zT} {V : zM} {q1 : Int} {q2 : Int} {x3 : Int} {y0 : Int} {y1 : Int} : ev 0 809 [(4, 0), (2, q1), (2, q2), (0, x3)] [(0, y1), (0, y0)] T V = if y0 = y1 then ev 0 1271 [(4, 0), (2, q1), (2, q2), (0, x3)] [] T V else ev 0 812 [(4, 0), (2, q1), (2, q2), (0, x3)] [] T V := by
  exact ev_ceq (show zcode 0 809 = some (46, 812, 1271, 0, []) by decide +kernel)
theorem b0_812 {T : zT} {V : zM} {q1 : Int} {q2 : Int} {x3 : Int} : ev 0 812 [(4, 0), (2, q1), (2, q2), (0, x3)] [] T V = some ((0, 0), T, V) := by
  refine Eq.trans (ev_ci (show zcode 0 812 = some (0, 813, 0, 0, []) by decide +kernel) (by decide)) ?_
  exact ev_rz (show zcode 0 813 = some (72, 814, 3, 0, []) by decide +kernel) (by decide)
theorem b0_814 {T : zT} {V : zM} {q1 : Int} {q2 : Int} {x3 : Int} (h1 : -2147483648 ≤ (x3 + 1) ∧ (x3 + 1) ≤ 2147483647) (h2 : (0 : Int) ≤ (x3 + 1) ∧ (x3 + 1) < zl T (-2)) (h3 : zO T q1 11) : ev 0 814 [(4, 0), (2, q1), (2, q2), (0, x3)] [] T V = (zcall 99 [(2, q1), (0, (V (-2) (x3 + 1)))] T V).bind fun x => ev 0 823 [(4, 0), (2, q1), (2, q2), (0, x3)] (z_push x.1 []) x.2.1 x.2.2 := by
  refine Eq.trans (ev_lda (show zcode 0 814 = some (6, 815, 1, 0, []) by decide +kernel) rfl (by decide)) ?_
  refine Eq.trans (ev_lda (show zcode 0 815 = some (6, 816, 0, 0, []) by decide +kernel) rfl (by decide)) ?_
  refine Eq.trans (ev_ldi (show zcode 0 816 = some (4, 817, 3, 0, []) by decide +kernel) rfl) ?_
  refine Eq.trans (ev_ci (show zcode 0 817 = some (0, 818, 0, 1, []) by decide +kernel) (by decide)) ?_
  refine Eq.trans (ev_add (show zcode 0 818 = some (11, 819, 0, 0, []) by decide +kernel) h1) ?_
  refine Eq.trans (ev_scr (show zcode 0 819 = some (60, 820, 0, 0, []) by decide +kernel) h2) ?_
  exact ev_cvirt (show zcode 0 820 = some (76, 823, 99, 2, [11]) by decide +kernel) (args := [(0, (V (-2) (x3 + 1)))]) (rest := []) rfl h3 rfl (show 0 ≤ 8 by decide) ⟨by decide, show 2 ≤ 3 by decide⟩
theorem b0_823 {T : zT} {V : zM} {q1 : Int} {q2 : Int} {x3 : Int} {y0 : Int} (h1 : -2147483648 ≤ (x3 + 1) ∧ (x3 + 1) ≤ 2147483647) (h2 : (0 : Int) ≤ (x3 + 1) ∧ (x3 + 1) < zl T (-2)) (h3 : zO T q2 12) : ev 0 823 [(4, 0), (2, q1), (2, q2), (0, x3)] [(0, y0)] T V = (zcall 209 [(2, q2), (0, (V (-2) (x3 + 1)))] T V).bind fun x => ev 0 832 [(4, 0), (2, q1), (2, q2), (0, x3)] (z_push x.1 [(0, y0)]) x.2.1 x.2.2 := by
  refine Eq.trans (ev_lda (show zcode 0 823 = some (6, 824, 2, 0, []) by decide +kernel) rfl (by decide)) ?_
  refine Eq.trans (ev_lda (show zcode 0 824 = some (6, 825, 0, 0, []) by decide +kernel) rfl (by decide)) ?_
  refine Eq.trans (ev_ldi (show zcode 0 825 = some (4, 826, 3, 0, []) by decide +kernel) rfl) ?_
  refine Eq.trans (ev_ci (show zcode 0 826 = some (0, 827, 0, 1, []) by decide +kernel) (by decide)) ?_
  refine Eq.trans (ev_add (show zcode 0 827 = some (11, 828, 0, 0, []) by decide +kernel) h1) ?_
  refine Eq.trans (ev_scr (show zcode 0 828 = some (60, 829, 0, 0, []) by decide +kernel) h2) ?_
  exact ev_cvirt (show zcode 0 829 = some (76, 832, 209, 2, [12]) by decide +kernel) (args := [(0, (V (-2) (x3 + 1)))]) (rest := [(0, y0)]) rfl h3 rfl (show 1 ≤ 8 by decide) ⟨by decide, show 2 ≤ 3 by decide⟩
theorem b0_832 {T : zT} {V : zM} {q1 : Int} {q2 : Int} {x3 : Int} {y0 : Int} {y1 : Int} : ev 0 832 [(4, 0), (2, q1), (2, q2), (0, x3)] [(0, y1), (0, y0)] T V = if y0 = y1 then ev 0 1271 [(4, 0), (2, q1), (2, q2), (0, x3)] [] T V else ev 0 835 [(4, 0), (2, q1), (2, q2), (0, x3)] [] T V := by
  exact ev_ceq (show zcode 0 832 = some (46, 835, 1271, 0, []) by decide +kernel)
theorem b0_835 {T : zT} {V : zM} {q1 : Int} {q2 : Int} {x3 : Int} : ev 0 835 [(4, 0), (2, q1), (2, q2), (0, x3)] [] T V = some ((0, 0), T, V) := by
  refine Eq.trans (ev_ci (show zcode 0 835 = some (0, 836, 0, 0, []) by decide +kernel) (by decide)) ?_
  exact ev_rz (show zcode 0 836 = some (72, 837, 3, 0, []) by decide +kernel) (by decide)
theorem b0_837 {T : zT} {V : zM} {q1 : Int} {q2 : Int} {x3 : Int} (h1 : zO T q1 11) : ev 0 837 [(4, 0), (2, q1), (2, q2), (0, x3)] [] T V = (zcall 100 [(2, q1)] T V).bind fun x => ev 0 841 [(4, 0), (2, q1), (2, q2), (0, x3)] (z_push x.1 []) x.2.1 x.2.2 := by
  refine Eq.trans (ev_lda (show zcode 0 837 = some (6, 838, 1, 0, []) by decide +kernel) rfl (by decide)) ?_
  exact ev_cvirt (show zcode 0 838 = some (76, 841, 100, 1, [11]) by decide +kernel) (args := []) (rest := []) rfl h1 rfl (show 0 ≤ 8 by decide) ⟨by decide, show 1 ≤ 1 by decide⟩
theorem b0_841 {T : zT} {V : zM} {q1 : Int} {q2 : Int} {x3 : Int} {y0 : Int} (h1 : zO T q2 12) : ev 0 841 [(4, 0), (2, q1), (2, q2), (0, x3)] [(1, y0)] T V = (zcall 210 [(2, q2)] T V).bind fun x => ev 0 845 [(4, 0), (2, q1), (2, q2), (0, x3)] (z_push x.1 [(1, y0)]) x.2.1 x.2.2 := by
  refine Eq.trans (ev_lda (show zcode 0 841 = some (6, 842, 2, 0, []) by decide +kernel) rfl (by decide)) ?_
  exact ev_cvirt (show zcode 0 842 = some (76, 845, 210, 1, [12]) by decide +kernel) (args := []) (rest := [(1, y0)]) rfl h1 rfl (show 2 ≤ 8 by decide) ⟨by decide, show 1 ≤ 2 by decide⟩
theorem b0_845 {T : zT} {V : zM} {q1 : Int} {q2 : Int} {x3 : Int} {y0 : Int} {y1 : Int} : ev 0 845 [(4, 0), (2, q1), (2, q2), (0, x3)] [(1, y1), (1, y0)] T V = if y0 = y1 then ev 0 1271 [(4, 0), (2, q1), (2, q2), (0, x3)] [] T V else ev 0 849 [(4, 0), (2, q1), (2, q2), (0, x3)] [] T V := by
  exact ev_leq (show zcode 0 845 = some (31, 846, 0, 0, []) by decide +kernel) (show zcode 0 846 = some (40, 849, 1271, 0, []) by decide +kernel)
theorem b0_849 {T : zT} {V : zM} {q1 : Int} {q2 : Int} {x3 : Int} : ev 0 849 [(4, 0), (2, q1), (2, q2), (0, x3)] [] T V = some ((0, 0), T, V) := by
  refine Eq.trans (ev_ci (show zcode 0 849 = some (0, 850, 0, 0, []) by decide +kernel) (by decide)) ?_
  exact ev_rz (show zcode 0 850 = some (72, 851, 3, 0, []) by decide +kernel) (by decide)
theorem b0_851 {T : zT} {V : zM} {q1 : Int} {q2 : Int} {x3 : Int} (h1 : zO T q1 11) : ev 0 851 [(4, 0), (2, q1), (2, q2), (0, x3)] [] T V = (zcall 119 [(2, q1)] T V).bind fun x => ev 0 855 [(4, 0), (2, q1), (2, q2), (0, x3)] (z_push x.1 []) x.2.1 x.2.2 := by
  refine Eq.trans (ev_lda (show zcode 0 851 = some (6, 852, 1, 0, []) by decide +kernel) rfl (by decide)) ?_
  exact ev_cvirt (show zcode 0 852 = some (76, 855, 119, 1, [11]) by decide +kernel) (args := []) (rest := []) rfl h1 rfl (show 0 ≤ 8 by decide) ⟨by decide, show 1 ≤ 1 by decide⟩
theorem b0_855 {T : zT} {V : zM} {q1 : Int} {q2 : Int} {x3 : Int} {y0 : Int} (h1 : zO T q2 12) : ev 0 855 [(4, 0), (2, q1), (2, q2), (0, x3)] [(0, y0)] T V = (zcall 224 [(2, q2)] T V).bind fun x => ev 0 859 [(4, 0), (2, q1), (2, q2), (0, x3)] (z_push x.1 [(0, y0)]) x.2.1 x.2.2 := by
  refine Eq.trans (ev_lda (show zcode 0 855 = some (6, 856, 2, 0, []) by decide +kernel) rfl (by decide)) ?_
  exact ev_cvirt (show zcode 0 856 = some (76, 859, 224, 1, [12]) by decide +kernel) (args := []) (rest := [(0, y0)]) rfl h1 rfl (show 1 ≤ 8 by decide) ⟨by decide, show 1 ≤ 1 by decide⟩
theorem b0_859 {T : zT} {V : zM} {q1 : Int} {q2 : Int} {x3 : Int} {y0 : Int} {y1 : Int} : ev 0 859 [(4, 0), (2, q1), (2, q2), (0, x3)] [(0, y1), (0, y0)] T V = if y0 = y1 then ev 0 1271 [(4, 0), (2, q1), (2, q2), (0, x3)] [] T V else ev 0 862 [(4, 0), (2, q1), (2, q2), (0, x3)] [] T V := by
  exact ev_ceq (show zcode 0 859 = some (46, 862, 1271, 0, []) by decide +kernel)
theorem b0_862 {T : zT} {V : zM} {q1 : Int} {q2 : Int} {x3 : Int} : ev 0 862 [(4, 0), (2, q1), (2, q2), (0, x3)] [] T V = some ((0, 0), T, V) := by
  refine Eq.trans (ev_ci (show zcode 0 862 = some (0, 863, 0, 0, []) by decide +kernel) (by decide)) ?_
  exact ev_rz (show zcode 0 863 = some (72, 864, 3, 0, []) by decide +kernel) (by decide)
theorem b0_864 {T : zT} {V : zM} {q1 : Int} {q2 : Int} {x3 : Int} (h1 : -2147483648 ≤ (x3 + 1) ∧ (x3 + 1) ≤ 2147483647) (h2 : (0 : Int) ≤ (x3 + 1) ∧ (x3 + 1) < zl T (-2)) (h3 : zO T q1 11) : ev 0 864 [(4, 0), (2, q1), (2, q2), (0, x3)] [] T V = (zcall 120 [(2, q1), (0, (V (-2) (x3 + 1)))] T V).bind fun x => ev 0 873 [(4, 0), (2, q1), (2, q2), (0, x3)] (z_push x.1 []) x.2.1 x.2.2 := by
  refine Eq.trans (ev_lda (show zcode 0 864 = some (6, 865, 1, 0, []) by decide +kernel) rfl (by decide)) ?_
  refine Eq.trans (ev_lda (show zcode 0 865 = some (6, 866, 0, 0, []) by decide +kernel) rfl (by decide)) ?_
  refine Eq.trans (ev_ldi (show zcode 0 866 = some (4, 867, 3, 0, []) by decide +kernel) rfl) ?_
  refine Eq.trans (ev_ci (show zcode 0 867 = some (0, 868, 0, 1, []) by decide +kernel) (by decide)) ?_
  refine Eq.trans (ev_add (show zcode 0 868 = some (11, 869, 0, 0, []) by decide +kernel) h1) ?_
  refine Eq.trans (ev_scr (show zcode 0 869 = some (60, 870, 0, 0, []) by decide +kernel) h2) ?_
  exact ev_cvirt (show zcode 0 870 = some (76, 873, 120, 2, [11]) by decide +kernel) (args := [(0, (V (-2) (x3 + 1)))]) (rest := []) rfl h3 rfl (show 0 ≤ 8 by decide) ⟨by decide, show 2 ≤ 3 by decide⟩
theorem b0_873 {T : zT} {V : zM} {q1 : Int} {q2 : Int} {x3 : Int} {y0 : Int} (h1 : -2147483648 ≤ (x3 + 1) ∧ (x3 + 1) ≤ 2147483647) (h2 : (0 : Int) ≤ (x3 + 1) ∧ (x3 + 1) < zl T (-2)) (h3 : zO T q2 12) : ev 0 873 [(4, 0), (2, q1), (2, q2), (0, x3)] [(0, y0)] T V = (zcall 228 [(2, q2), (0, (V (-2) (x3 + 1)))] T V).bind fun x => ev 0 882 [(4, 0), (2, q1), (2, q2), (0, x3)] (z_push x.1 [(0, y0)]) x.2.1 x.2.2 := by
  refine Eq.trans (ev_lda (show zcode 0 873 = some (6, 874, 2, 0, []) by decide +kernel) rfl (by decide)) ?_
  refine Eq.trans (ev_lda (show zcode 0 874 = some (6, 875, 0, 0, []) by decide +kernel) rfl (by decide)) ?_
  refine Eq.trans (ev_ldi (show zcode 0 875 = some (4, 876, 3, 0, []) by decide +kernel) rfl) ?_
  refine Eq.trans (ev_ci (show zcode 0 876 = some (0, 877, 0, 1, []) by decide +kernel) (by decide)) ?_
  refine Eq.trans (ev_add (show zcode 0 877 = some (11, 878, 0, 0, []) by decide +kernel) h1) ?_
  refine Eq.trans (ev_scr (show zcode 0 878 = some (60, 879, 0, 0, []) by decide +kernel) h2) ?_
  exact ev_cvirt (show zcode 0 879 = some (76, 882, 228, 2, [12]) by decide +kernel) (args := [(0, (V (-2) (x3 + 1)))]) (rest := [(0, y0)]) rfl h3 rfl (show 1 ≤ 8 by decide) ⟨by decide, show 2 ≤ 6 by decide⟩
theorem b0_882 {T : zT} {V : zM} {q1 : Int} {q2 : Int} {x3 : Int} {y0 : Int} {y1 : Int} : ev 0 882 [(4, 0), (2, q1), (2, q2), (0, x3)] [(0, y1), (0, y0)] T V = if y0 = y1 then ev 0 1271 [(4, 0), (2, q1), (2, q2), (0, x3)] [] T V else ev 0 885 [(4, 0), (2, q1), (2, q2), (0, x3)] [] T V := by
  exact ev_ceq (show zcode 0 882 = some (46, 885, 1271, 0, []) by decide +kernel)
theorem b0_885 {T : zT} {V : zM} {q1 : Int} {q2 : Int} {x3 : Int} : ev 0 885 [(4, 0), (2, q1), (2, q2), (0, x3)] [] T V = some ((0, 0), T, V) := by
  refine Eq.trans (ev_ci (show zcode 0 885 = some (0, 886, 0, 0, []) by decide +kernel) (by decide)) ?_
  exact ev_rz (show zcode 0 886 = some (72, 887, 3, 0, []) by decide +kernel) (by decide)
theorem b0_887 {T : zT} {V : zM} {q1 : Int} {q2 : Int} {x3 : Int} (h1 : -2147483648 ≤ (x3 + 1) ∧ (x3 + 1) ≤ 2147483647) (h2 : (0 : Int) ≤ (x3 + 1) ∧ (x3 + 1) < zl T (-2)) (h3 : zO T q1 11) : ev 0 887 [(4, 0), (2, q1), (2, q2), (0, x3)] [] T V = (zcall 122 [(2, q1), (0, (V (-2) (x3 + 1)))] T V).bind fun x => ev 0 896 [(4, 0), (2, q1), (2, q2), (0, x3)] (z_push x.1 []) x.2.1 x.2.2 := by
  refine Eq.trans (ev_lda (show zcode 0 887 = some (6, 888, 1, 0, []) by decide +kernel) rfl (by decide)) ?_
  refine Eq.trans (ev_lda (show zcode 0 888 = some (6, 889, 0, 0, []) by decide +kernel) rfl (by decide)) ?_
  refine Eq.trans (ev_ldi (show zcode 0 889 = some (4, 890, 3, 0, []) by decide +kernel) rfl) ?_
  refine Eq.trans (ev_ci (show zcode 0 890 = some (0, 891, 0, 1, []) by decide +kernel) (by decide)) ?_
  refine Eq.trans (ev_add (show zcode 0 891 = some (11, 892, 0, 0, []) by decide +kernel) h1) ?_
  refine Eq.trans (ev_scr (show zcode 0 892 = some (60, 893, 0, 0, []) by decide +kernel) h2) ?_
  exact ev_cvirt (show zcode 0 893 = some (76, 896, 122, 2, [11]) by decide +kernel) (args := [(0, (V (-2) (x3 + 1)))]) (rest := []) rfl h3 rfl (show 0 ≤ 8 by decide) ⟨by decide, show 2 ≤ 4 by decide⟩
theorem b0_896 {T : zT} {V : zM} {q1 : Int} {q2 : Int} {x3 : Int} {y0 : Int} (h1 : -2147483648 ≤ (x3 + 1) ∧ (x3 + 1) ≤ 2147483647) (h2 : (0 : Int) ≤ (x3 + 1) ∧ (x3 + 1) < zl T (-2)) (h3 : zO T q2 12) : ev 0 896 [(4, 0), (2, q1), (2, q2), (0, x3)] [(0, y0)] T V = (zcall 223 [(2, q2), (0, (V (-2) (x3 + 1)))] T V).bind fun x => ev 0 905 [(4, 0), (2, q1), (2, q2), (0, x3)] (z_push x.1 [(0, y0)]) x.2.1 x.2.2 := by
  refine Eq.trans (ev_lda (show zcode 0 896 = some (6, 897, 2, 0, []) by decide +kernel) rfl (by decide)) ?_
  refine Eq.trans (ev_lda (show zcode 0 897 = some (6, 898, 0, 0, []) by decide +kernel) rfl (by decide)) ?_
  refine Eq.trans (ev_ldi (show zcode 0 898 = some (4, 899, 3, 0, []) by decide +kernel) rfl) ?_
  refine Eq.trans (ev_ci (show zcode 0 899 = some (0, 900, 0, 1, []) by decide +kernel) (by decide)) ?_
  refine Eq.trans (ev_add (show zcode 0 900 = some (11, 901, 0, 0, []) by decide +kernel) h1) ?_
  refine Eq.trans (ev_scr (show zcode 0 901 = some (60, 902, 0, 0, []) by decide +kernel) h2) ?_
  exact ev_cvirt (show zcode 0 902 = some (76, 905, 223, 2, [12]) by decide +kernel) (args := [(0, (V (-2) (x3 + 1)))]) (rest := [(0, y0)]) rfl h3 rfl (show 1 ≤ 8 by decide) ⟨by decide, show 2 ≤ 4 by decide⟩
theorem b0_905 {T : zT} {V : zM} {q1 : Int} {q2 : Int} {x3 : Int} {y0 : Int} {y1 : Int} : ev 0 905 [(4, 0), (2, q1), (2, q2), (0, x3)] [(0, y1), (0, y0)] T V = if y0 = y1 then ev 0 1271 [(4, 0), (2, q1), (2, q2), (0, x3)] [] T V else ev 0 908 [(4, 0), (2, q1), (2, q2), (0, x3)] [] T V := by
  exact ev_ceq (show zcode 0 905 = some (46, 908, 1271, 0, []) by decide +kernel)
theorem b0_908 {T : zT} {V : zM} {q1 : Int} {q2 : Int} {x3 : Int} : ev 0 908 [(4, 0), (2, q1), (2, q2), (0, x3)] [] T V = some ((0, 0), T, V) := by
  refine Eq.trans (ev_ci (show zcode 0 908 = some (0, 909, 0, 0, []) by decide +kernel) (by decide)) ?_
  exact ev_rz (show zcode 0 909 = some (72, 910, 3, 0, []) by decide +kernel) (by decide)
theorem b0_910 {T : zT} {V : zM} {q1 : Int} {q2 : Int} {x3 : Int} (h1 : -2147483648 ≤ (x3 + 1) ∧ (x3 + 1) ≤ 2147483647) (h2 : (0 : Int) ≤ (x3 + 1) ∧ (x3 + 1) < zl T (-2)) (h3 : -2147483648 ≤ (x3 + 2) ∧ (x3 + 2) ≤ 2147483647) (h4 : (0 : Int) ≤ (x3 + 2) ∧ (x3 + 2) < zl T (-2)) (h5 : zO T q1 11) : ev 0 910 [(4, 0), (2, q1), (2, q2), (0, x3)] [] T V = (zcall 123 [(2, q1), (0, (V (-2) (x3 + 1))), (0, (V (-2) (x3 + 2)))] T V).bind fun x => ev 0 924 [(4, 0), (2, q1), (2, q2), (0, x3)] (z_push x.1 []) x.2.1 x.2.2 := by
  refine Eq.trans (ev_lda (show zcode 0 910 = some (6, 911, 1, 0, []) by decide +kernel) rfl (by decide)) ?_
  refine Eq.trans (ev_lda (show zcode 0 911 = some (6, 912, 0, 0, []) by decide +kernel) rfl (by decide)) ?_
  refine Eq.trans (ev_ldi (show zcode 0 912 = some (4, 913, 3, 0, []) by decide +kernel) rfl) ?_
  refine Eq.trans (ev_ci (show zcode 0 913 = some (0, 914, 0, 1, []) by decide +kernel) (by decide)) ?_
  refine Eq.trans (ev_add (show zcode 0 914 = some (11, 915, 0, 0, []) by decide +kernel) h1) ?_
  refine Eq.trans (ev_scr (show zcode 0 915 = some (60, 916, 0, 0, []) by decide +kernel) h2) ?_
  refine Eq.trans (ev_lda (show zcode 0 916 = some (6, 917, 0, 0, []) by decide +kernel) rfl (by decide)) ?_
  refine Eq.trans (ev_ldi (show zcode 0 917 = some (4, 918, 3, 0, []) by decide +kernel) rfl) ?_
  refine Eq.trans (ev_ci (show zcode 0 918 = some (0, 919, 0, 2, []) by decide +kernel) (by decide)) ?_
  refine Eq.trans (ev_add (show zcode 0 919 = some (11, 920, 0, 0, []) by decide +kernel) h3) ?_
  refine Eq.trans (ev_scr (show zcode 0 920 = some (60, 921, 0, 0, []) by decide +kernel) h4) ?_
  exact ev_cvirt (show zcode 0 921 = some (76, 924, 123, 3, [11]) by decide +kernel) (args := [(0, (V (-2) (x3 + 1))), (0, (V (-2) (x3 + 2)))]) (rest := []) rfl h5 rfl (show 0 ≤ 8 by decide) ⟨by decide, show 3 ≤ 4 by decide⟩
theorem b0_924 {T : zT} {V : zM} {q1 : Int} {q2 : Int} {x3 : Int} {y0 : Int} (h1 : -2147483648 ≤ (x3 + 1) ∧ (x3 + 1) ≤ 2147483647) (h2 : (0 : Int) ≤ (x3 + 1) ∧ (x3 + 1) < zl T (-2)) (h3 : -2147483648 ≤ (x3 + 2) ∧ (x3 + 2) ≤ 2147483647) (h4 : (0 : Int) ≤ (x3 + 2) ∧ (x3 + 2) < zl T (-2)) (h5 : zO T q2 12) : ev 0 924 [(4, 0), (2, q1), (2, q2), (0, x3)] [(0, y0)] T V = (zcall 159 [(2, q2), (0, (V (-2) (x3 + 1))), (0, (V (-2) (x3 + 2)))] T V).bind fun x => ev 0 938 [(4, 0), (2, q1), (2, q2), (0, x3)] (z_push x.1 [(0, y0)]) x.2.1 x.2.2 := by
  refine Eq.trans (ev_lda (show zcode 0 924 = some (6, 925, 2, 0, []) by decide +kernel) rfl (by decide)) ?_
  refine Eq.trans (ev_lda (show zcode 0 925 = some (6, 926, 0, 0, []) by decide +kernel) rfl (by decide)) ?_
  refine Eq.trans (ev_ldi (show zcode 0 926 = some (4, 927, 3, 0, []) by decide +kernel) rfl) ?_
  refine Eq.trans (ev_ci (show zcode 0 927 = some (0, 928, 0, 1, []) by decide +kernel) (by decide)) ?_
  refine Eq.trans (ev_add (show zcode 0 928 = some (11, 929, 0, 0, []) by decide +kernel) h1) ?_
  refine Eq.trans (ev_scr (show zcode 0 929 = some (60, 930, 0, 0, []) by decide +kernel) h2) ?_
  refine Eq.trans (ev_lda (show zcode 0 930 = some (6, 931, 0, 0, []) by decide +kernel) rfl (by decide)) ?_
  refine Eq.trans (ev_ldi (show zcode 0 931 = some (4, 932, 3, 0, []) by decide +kernel) rfl) ?_
  refine Eq.trans (ev_ci (show zcode 0 932 = some (0, 933, 0, 2, []) by decide +kernel) (by decide)) ?_
  refine Eq.trans (ev_add (show zcode 0 933 = some (11, 934, 0, 0, []) by decide +kernel) h3) ?_
  refine Eq.trans (ev_scr (show zcode 0 934 = some (60, 935, 0, 0, []) by decide +kernel) h4) ?_
  exact ev_cvirt (show zcode 0 935 = some (76, 938, 159, 3, [12]) by decide +kernel) (args := [(0, (V (-2) (x3 + 1))), (0, (V (-2) (x3 + 2)))]) (rest := [(0, y0)]) rfl h5 rfl (show 1 ≤ 8 by decide) ⟨by decide, show 3 ≤ 4 by decide⟩
theorem b0_938 {T : zT} {V : zM} {q1 : Int} {q2 : Int} {x3 : Int} {y0 : Int} {y1 : Int} : ev 0 938 [(4, 0), (2, q1), (2, q2), (0, x3)] [(0, y1), (0, y0)] T V = if y0 = y1 then ev 0 1271 [(4, 0), (2, q1), (2, q2), (0, x3)] [] T V else ev 0 941 [(4, 0), (2, q1), (2, q2), (0, x3)] [] T V := by
  exact ev_ceq (show zcode 0 938 = some (46, 941, 1271, 0, []) by decide +kernel)
theorem b0_941 {T : zT} {V : zM} {q1 : Int} {q2 : Int} {x3 : Int} : ev 0 941 [(4, 0), (2, q1), (2, q2), (0, x3)] [] T V = some ((0, 0), T, V) := by
  refine Eq.trans (ev_ci (show zcode 0 941 = some (0, 942, 0, 0, []) by decide +kernel) (by decide)) ?_
  exact ev_rz (show zcode 0 942 = some (72, 943, 3, 0, []) by decide +kernel) (by decide)
theorem b0_943 {T : zT} {V : zM} {q1 : Int} {q2 : Int} {x3 : Int} (h1 : zO T q1 11) : ev 0 943 [(4, 0), (2, q1), (2, q2), (0, x3)] [] T V = (zcall 124 [(2, q1)] T V).bind fun x => ev 0 947 [(4, 0), (2, q1), (2, q2), (0, x3)] (z_push x.1 []) x.2.1 x.2.2 := by
  refine Eq.trans (ev_lda (show zcode 0 943 = some (6, 944, 1, 0, []) by decide +kernel) rfl (by decide)) ?_
  exact ev_cvirt (show zcode 0 944 = some (76, 947, 124, 1, [11]) by decide +kernel) (args := []) (rest := []) rfl h1 rfl (show 0 ≤ 8 by decide) ⟨by decide, show 1 ≤ 1 by decide⟩
theorem b0_947 {T : zT} {V : zM} {q1 : Int} {q2 : Int} {x3 : Int} {y0 : Int} (h1 : zO T q2 12) : ev 0 947 [(4, 0), (2, q1), (2, q2), (0, x3)] [(1, y0)] T V = (zcall 230 [(2, q2)] T V).bind fun x => ev 0 951 [(4, 0), (2, q1), (2, q2), (0, x3)] (z_push x.1 [(1, y0)]) x.2.1 x.2.2 := by
  refine Eq.trans (ev_lda (show zcode 0 947 = some (6, 948, 2, 0, []) by decide +kernel) rfl (by decide)) ?_
  exact ev_cvirt (show zcode 0 948 = some (76, 951, 230, 1, [12]) by decide +kernel) (args := []) (rest := [(1, y0)]) rfl h1 rfl (show 2 ≤ 8 by decide) ⟨by decide, show 1 ≤ 1 by decide⟩
theorem b0_951 {T : zT} {V : zM} {q1 : Int} {q2 : Int} {x3 : Int} {y0 : Int} {y1 : Int} : ev 0 951 [(4, 0), (2, q1), (2, q2), (0, x3)] [(1, y1), (1, y0)] T V = if y0 = y1 then ev 0 1271 [(4, 0), (2, q1), (2, q2), (0, x3)] [] T V else ev 0 955 [(4, 0), (2, q1), (2, q2), (0, x3)] [] T V := by
  exact ev_leq (show zcode 0 951 = some (31, 952, 0, 0, []) by decide +kernel) (show zcode 0 952 = some (40, 955, 1271, 0, []) by decide +kernel)
theorem b0_955 {T : zT} {V : zM} {q1 : Int} {q2 : Int} {x3 : Int} : ev 0 955 [(4, 0), (2, q1), (2, q2), (0, x3)] [] T V = some ((0, 0), T, V) := by
  refine Eq.trans (ev_ci (show zcode 0 955 = some (0, 956, 0, 0, []) by decide +kernel) (by decide)) ?_
  exact ev_rz (show zcode 0 956 = some (72, 957, 3, 0, []) by decide +kernel) (by decide)
theorem b0_957 {T : zT} {V : zM} {q1 : Int} {q2 : Int} {x3 : Int} (h1 : -2147483648 ≤ (x3 + 1) ∧ (x3 + 1) ≤ 2147483647) (h2 : (0 : Int) ≤ (x3 + 1) ∧ (x3 + 1) < zl T (-2)) (h3 : -2147483648 ≤ (x3 + 2) ∧ (x3 + 2) ≤ 2147483647) (h4 : (0 : Int) ≤ (x3 + 2) ∧ (x3 + 2) < zl T (-2)) (h5 : zO T q1 11) : ev 0 957 [(4, 0), (2, q1), (2, q2), (0, x3)] [] T V = (zcall 129 [(2, q1), (0, (V (-2) (x3 + 1))), (0, (V (-2) (x3 + 2)))] T V).bind fun x => ev 0 971 [(4, 0), (2, q1), (2, q2), (0, x3)] (z_push x.1 []) x.2.1 x.2.2 := by
  refine Eq.trans (ev_lda (show zcode 0 957 = some (6, 958, 1, 0, []) by decide +kernel) rfl (by decide)) ?_
  refine Eq.trans (ev_lda (show zcode 0 958 = some (6, 959, 0, 0, []) by decide +kernel) rfl (by decide)) ?_
  refine Eq.trans (ev_ldi (show zcode 0 959 = some (4, 960, 3, 0, []) by decide +kernel) rfl) ?_
  refine Eq.trans (ev_ci (show zcode 0 960 = some (0, 961, 0, 1, []) by decide +kernel) (by decide)) ?_
  refine Eq.trans (ev_add (show zcode 0 961 = some (11, 962, 0, 0, []) by decide +kernel) h1) ?_
  refine Eq.trans (ev_scr (show zcode 0 962 = some (60, 963, 0, 0, []) by decide +kernel) h2) ?_
  refine Eq.trans (ev_lda (show zcode 0 963 = some (6, 964, 0, 0, []) by decide +kernel) rfl (by decide)) ?_
  refine Eq.trans (ev_ldi (show zcode 0 964 = some (4, 965, 3, 0, []) by decide +kernel) rfl) ?_
  refine Eq.trans (ev_ci (show zcode 0 965 = some (0, 966, 0, 2, []) by decide +kernel) (by decide)) ?_
  refine Eq.trans (ev_add (show zcode 0 966 = some (11, 967, 0, 0, []) by decide +kernel) h3) ?_
  refine Eq.trans (ev_scr (show zcode 0 967 = some (60, 968, 0, 0, []) by decide +kernel) h4) ?_
  exact ev_cvirt (show zcode 0 968 = some (76, 971, 129, 3, [11]) by decide +kernel) (args := [(0, (V (-2) (x3 + 1))), (0, (V (-2) (x3 + 2)))]) (rest := []) rfl h5 rfl (show 0 ≤ 8 by decide) ⟨by decide, show 3 ≤ 5 by decide⟩
theorem b0_971 {T : zT} {V : zM} {q1 : Int} {q2 : Int} {x3 : Int} {y0 : Int} (h1 : -2147483648 ≤ (x3 + 1) ∧ (x3 + 1) ≤ 2147483647) (h2 : (0 : Int) ≤ (x3 + 1) ∧ (x3 + 1) < zl T (-2)) (h3 : -2147483648 ≤ (x3 + 2) ∧ (x3 + 2) ≤ 2147483647) (h4 : (0 : Int) ≤ (x3 + 2) ∧ (x3 + 2) < zl T (-2)) (h5 : zO T q2 12) : ev 0 971 [(4, 0), (2, q1), (2, q2), (0, x3)] [(0, y0)] T V = (zcall 233 [(2, q2), (0, (V (-2) (x3 + 1))), (0, (V (-2) (x3 + 2)))] T V).bind fun x => ev 0 985 [(4, 0), (2, q1), (2, q2), (0, x3)] (z_push x.1 [(0, y0)]) x.2.1 x.2.2 := by
  refine Eq.trans (ev_lda (show zcode 0 971 = some (6, 972, 2, 0, []) by decide +kernel) rfl (by decide)) ?_
  refine Eq.trans (ev_lda (show zcode 0 972 = some (6, 973, 0, 0, []) by decide +kernel) rfl (by decide)) ?_
  refine Eq.trans (ev_ldi (show zcode 0 973 = some (4, 974, 3, 0, []) by decide +kernel) rfl) ?_
  refine Eq.trans (ev_ci (show zcode 0 974 = some (0, 975, 0, 1, []) by decide +kernel) (by decide)) ?_
  refine Eq.trans (ev_add (show zcode 0 975 = some (11, 976, 0, 0, []) by decide +kernel) h1) ?_
  refine Eq.trans (ev_scr (show zcode 0 976 = some (60, 977, 0, 0, []) by decide +kernel) h2) ?_
  refine Eq.trans (ev_lda (show zcode 0 977 = some (6, 978, 0, 0, []) by decide +kernel) rfl (by decide)) ?_
  refine Eq.trans (ev_ldi (show zcode 0 978 = some (4, 979, 3, 0, []) by decide +kernel) rfl) ?_
  refine Eq.trans (ev_ci (show zcode 0 979 = some (0, 980, 0, 2, []) by decide +kernel) (by decide)) ?_
  refine Eq.trans (ev_add (show zcode 0 980 = some (11, 981, 0, 0, []) by decide +kernel) h3) ?_
  refine Eq.trans (ev_scr (show zcode 0 981 = some (60, 982, 0, 0, []) by decide +kernel) h4) ?_
  exact ev_cvirt (show zcode 0 982 = some (76, 985, 233, 3, [12]) by decide +kernel) (args := [(0, (V (-2) (x3 + 1))), (0, (V (-2) (x3 + 2)))]) (rest := [(0, y0)]) rfl h5 rfl (show 1 ≤ 8 by decide) ⟨by decide, show 3 ≤ 7 by decide⟩
theorem b0_985 {T : zT} {V : zM} {q1 : Int} {q2 : Int} {x3 : Int} {y0 : Int} {y1 : Int} : ev 0 985 [(4, 0), (2, q1), (2, q2), (0, x3)] [(0, y1), (0, y0)] T V = if y0 = y1 then ev 0 1271 [(4, 0), (2, q1), (2, q2), (0, x3)] [] T V else ev 0 988 [(4, 0), (2, q1), (2, q2), (0, x3)] [] T V := by
  exact ev_ceq (show zcode 0 985 = some (46, 988, 1271, 0, []) by decide +kernel)
theorem b0_988 {T : zT} {V : zM} {q1 : Int} {q2 : Int} {x3 : Int} : ev 0 988 [(4, 0), (2, q1), (2, q2), (0, x3)] [] T V = some ((0, 0), T, V) := by
  refine Eq.trans (ev_ci (show zcode 0 988 = some (0, 989, 0, 0, []) by decide +kernel) (by decide)) ?_
  exact ev_rz (show zcode 0 989 = some (72, 990, 3, 0, []) by decide +kernel) (by decide)
theorem b0_990 {T : zT} {V : zM} {q1 : Int} {q2 : Int} {x3 : Int} (h1 : -2147483648 ≤ (x3 + 1) ∧ (x3 + 1) ≤ 2147483647) (h2 : (0 : Int) ≤ (x3 + 1) ∧ (x3 + 1) < zl T (-2)) (h3 : -2147483648 ≤ (x3 + 2) ∧ (x3 + 2) ≤ 2147483647) (h4 : (0 : Int) ≤ (x3 + 2) ∧ (x3 + 2) < zl T (-2)) (h5 : zO T q1 11) : ev 0 990 [(4, 0), (2, q1), (2, q2), (0, x3)] [] T V = (zcall 130 [(2, q1), (0, (V (-2) (x3 + 1))), (0, (V (-2) (x3 + 2)))] T V).bind fun x => ev 0 1004 [(4, 0), (2, q1), (2, q2), (0, x3)] (z_push x.1 []) x.2.1 x.2.2 := by
  refine Eq.trans (ev_lda (show zcode 0 990 = some (6, 991, 1, 0, []) by decide +kernel) rfl (by decide)) ?_
  refine Eq.trans (ev_lda (show zcode 0 991 = some (6, 992, 0, 0, []) by decide +kernel) rfl (by decide)) ?_
  refine Eq.trans (ev_ldi (show zcode 0 992 = some (4, 993, 3, 0, []) by decide +kernel) rfl) ?_
  refine Eq.trans (ev_ci (show zcode 0 993 = some (0, 994, 0, 1, []) by decide +kernel) (by decide)) ?_
  refine Eq.trans (ev_add (show zcode 0 994 = some (11, 995, 0, 0, []) by decide +kernel) h1) ?_
  refine Eq.trans (ev_scr (show zcode 0 995 = some (60, 996, 0, 0, []) by decide +kernel) h2) ?_
  refine Eq.trans (ev_lda (show zcode 0 996 = some (6, 997, 0, 0, []) by decide +kernel) rfl (by decide)) ?_
  refine Eq.trans (ev_ldi (show zcode 0 997 = some (4, 998, 3, 0, []) by decide +kernel) rfl) ?_
  refine Eq.trans (ev_ci (show zcode 0 998 = some (0, 999, 0, 2, []) by decide +kernel) (by decide)) ?_
  refine Eq.trans (ev_add (show zcode 0 999 = some (11, 1000, 0, 0, []) by decide +kernel) h3) ?_
  refine Eq.trans (ev_scr (show zcode 0 1000 = some (60, 1001, 0, 0, []) by decide +kernel) h4) ?_
  exact ev_cvirt (show zcode 0 1001 = some (76, 1004, 130, 3, [11]) by decide +kernel) (args := [(0, (V (-2) (x3 + 1))), (0, (V (-2) (x3 + 2)))]) (rest := []) rfl h5 rfl (show 0 ≤ 8 by decide) ⟨by decide, show 3 ≤ 3 by decide⟩
theorem b0_1004 {T : zT} {V : zM} {q1 : Int} {q2 : Int} {x3 : Int} {y0 : Int} (h1 : -2147483648 ≤ (x3 + 1) ∧ (x3 + 1) ≤ 2147483647) (h2 : (0 : Int) ≤ (x3 + 1) ∧ (x3 + 1) < zl T (-2)) (h3 : -2147483648 ≤ (x3 + 2) ∧ (x3 + 2) ≤ 2147483647) (h4 : (0 : Int) ≤ (x3 + 2) ∧ (x3 + 2) < zl T (-2)) (h5 : zO T q2 12) : ev 0 1004 [(4, 0), (2, q1), (2, q2), (0, x3)] [(1, y0)] T V = (zcall 232 [(2, q2), (0, (V (-2) (x3 + 1))), (0, (V (-2) (x3 + 2)))] T V).bind fun x => ev 0 1018 [(4, 0), (2, q1), (2, q2), (0, x3)] (z_push x.1 [(1, y0)]) x.2.1 x.2.2 := by
  refine Eq.trans (ev_lda (show zcode 0 1004 = some (6, 1005, 2, 0, []) by decide +kernel) rfl (by decide)) ?_
  refine Eq.trans (ev_lda (show zcode 0 1005 = some (6, 1006, 0, 0, []) by decide +kernel) rfl (by decide)) ?_
  refine Eq.trans (ev_ldi (show zcode 0 1006 = some (4, 1007, 3, 0, []) by decide +kernel) rfl) ?_
  refine Eq.trans (ev_ci (show zcode 0 1007 = some (0, 1008, 0, 1, []) by decide +kernel) (by decide)) ?_
  refine Eq.trans (ev_add (show zcode 0 1008 = some (11, 1009, 0, 0, []) by decide +kernel) h1) ?_
  refine Eq.trans (ev_scr (show zcode 0 1009 = some (60, 1010, 0, 0, []) by decide +kernel) h2) ?_
  refine Eq.trans (ev_lda (show zcode 0 1010 = some (6, 1011, 0, 0, []) by decide +kernel) rfl (by decide)) ?_
  refine Eq.trans (ev_ldi (show zcode 0 1011 = some (4, 1012, 3, 0, []) by decide +kernel) rfl) ?_
  refine Eq.trans (ev_ci (show zcode 0 1012 = some (0, 1013, 0, 2, []) by decide +kernel) (by decide)) ?_
  refine Eq.trans (ev_add (show zcode 0 1013 = some (11, 1014, 0, 0, []) by decide +kernel) h3) ?_
  refine Eq.trans (ev_scr (show zcode 0 1014 = some (60, 1015, 0, 0, []) by decide +kernel) h4) ?_
  exact ev_cvirt (show zcode 0 1015 = some (76, 1018, 232, 3, [12]) by decide +kernel) (args := [(0, (V (-2) (x3 + 1))), (0, (V (-2) (x3 + 2)))]) (rest := [(1, y0)]) rfl h5 rfl (show 2 ≤ 8 by decide) ⟨by decide, show 3 ≤ 3 by decide⟩
theorem b0_1018 {T : zT} {V : zM} {q1 : Int} {q2 : Int} {x3 : Int} {y0 : Int} {y1 : Int} : ev 0 1018 [(4, 0), (2, q1), (2, q2), (0, x3)] [(1, y1), (1, y0)] T V = if y0 = y1 then ev 0 1271 [(4, 0), (2, q1), (2, q2), (0, x3)] [] T V else ev 0 1022 [(4, 0), (2, q1), (2, q2), (0, x3)] [] T V := by
  exact ev_leq (show zcode 0 1018 = some (31, 1019, 0, 0, []) by decide +kernel) (show zcode 0 1019 = some (40, 1022, 1271, 0, []) by decide +kernel)
theorem b0_1022 {T : zT} {V : zM} {q1 : Int} {q2 : Int} {x3 : Int} : ev 0 1022 [(4, 0), (2, q1), (2, q2), (0, x3)] [] T V = some ((0, 0), T, V) := by
  refine Eq.trans (ev_ci (show zcode 0 1022 = some (0, 1023, 0, 0, []) by decide +kernel) (by decide)) ?_
  exact ev_rz (show zcode 0 1023 = some (72, 1024, 3, 0, []) by decide +kernel) (by decide)
theorem b0_1024 {T : zT} {V : zM} {q1 : Int} {q2 : Int} {x3 : Int} (h1 : -2147483648 ≤ (x3 + 1) ∧ (x3 + 1) ≤ 2147483647) (h2 : (0 : Int) ≤ (x3 + 1) ∧ (x3 + 1) < zl T (-2)) (h3 : -2147483648 ≤ (x3 + 2) ∧ (x3 + 2) ≤ 2147483647) (h4 : (0 : Int) ≤ (x3 + 2) ∧ (x3 + 2) < zl T (-2)) (h5 : -2147483648 ≤ (x3 + 3) ∧ (x3 + 3) ≤ 2147483647) (h6 : (0 : Int) ≤ (x3 + 3) ∧ (x3 + 3) < zl T (-2)) (h7 : -2147483648 ≤ (x3 + 4) ∧ (x3 + 4) ≤ 2147483647) (h8 : (0 : Int) ≤ (x3 + 4) ∧ (x3 + 4) < zl T (-2)) (h9 : -2147483648 ≤ (x3 + 5) ∧ (x3 + 5) ≤ 2147483647) (h10 : (0 : Int) ≤ (x3 + 5) ∧ (x3 + 5) < zl T (-2)) (h11 : zO T q1 11) : ev 0 1024 [(4, 0), (2, q1), (2, q2), (0, x3)] [] T V = (zcall 131 [(2, q1), (0, (V (-2) (x3 + 1))), (0, (V (-2) (x3 + 2))), (0, (V (-2) (x3 + 3))), (0, (V (-2) (x3 + 4))), (0, (V (-2) (x3 + 5)))] T V).bind fun x => ev 0 1053 [(4, 0), (2, q1), (2, q2), (0, x3)] (z_push x.1 []) x.2.1 x.2.2 := by
  refine Eq.trans (ev_lda (show zcode 0 1024 = some (6, 1025, 1, 0, []) by decide +kernel) rfl (by decide)) ?_
  refine Eq.trans (ev_lda (show zcode 0 1025 = some (6, 1026, 0, 0, []) by decide +kernel) rfl (by decide)) ?_
  refine Eq.trans (ev_ldi (show zcode 0 1026 = some (4, 1027, 3, 0, []) by decide +kernel) rfl) ?_
  refine Eq.trans (ev_ci (show zcode 0 1027 = some (0, 1028, 0, 1, []) by decide +kernel) (by decide)) ?_
  refine Eq.trans (ev_add (show zcode 0 1028 = some (11, 1029, 0, 0, []) by decide +kernel) h1) ?_
  refine Eq.trans (ev_scr (show zcode 0 1029 = some (60, 1030, 0, 0, []) by decide +kernel) h2) ?_
  refine Eq.trans (ev_lda (show zcode 0 1030 = some (6, 1031, 0, 0, []) by decide +kernel) rfl (by decide)) ?_
  refine Eq.trans (ev_ldi (show zcode 0 1031 = some (4, 1032, 3, 0, []) by decide +kernel) rfl) ?_
  refine Eq.trans (ev_ci (show zcode 0 1032 = some (0, 1033, 0, 2, []) by decide +kernel) (by decide)) ?_
  refine Eq.trans (ev_add (show zcode 0 1033 = some (11, 1034, 0, 0, []) by decide +kernel) h3) ?_
  refine Eq.trans (ev_scr (show zcode 0 1034 = some (60, 1035, 0, 0, []) by decide +kernel) h4) ?_
  refine Eq.trans (ev_lda (show zcode 0 1035 = some (6, 1036, 0, 0, []) by decide +kernel) rfl (by decide)) ?_
  refine Eq.trans (ev_ldi (show zcode 0 1036 = some (4, 1037, 3, 0, []) by decide +kernel) rfl) ?_
  refine Eq.trans (ev_ci (show zcode 0 1037 = some (0, 1038, 0, 3, []) by decide +kernel) (by decide)) ?_
  refine Eq.trans (ev_add (show zcode 0 1038 = some (11, 1039, 0, 0, []) by decide +kernel) h5) ?_
  refine Eq.trans (ev_scr (show zcode 0 1039 = some (60, 1040, 0, 0, []) by decide +kernel) h6) ?_
  refine Eq.trans (ev_lda (show zcode 0 1040 = some (6, 1041, 0, 0, []) by decide +kernel) rfl (by decide)) ?_
  refine Eq.trans (ev_ldi (show zcode 0 1041 = some (4, 1042, 3, 0, []) by decide +kernel) rfl) ?_
  refine Eq.trans (ev_ci (show zcode 0 1042 = some (0, 1043, 0, 4, []) by decide +kernel) (by decide)) ?_
  refine Eq.trans (ev_add (show zcode 0 1043 = some (11, 1044, 0, 0, []) by decide +kernel) h7) ?_
  refine Eq.trans (ev_scr (show zcode 0 1044 = some (60, 1045, 0, 0, []) by decide +kernel) h8) ?_
  refine Eq.trans (ev_lda (show zcode 0 1045 = some (6, 1046, 0, 0, []) by decide +kernel) rfl (by decide)) ?_
  refine Eq.trans (ev_ldi (show zcode 0 1046 = some (4, 1047, 3, 0, []) by decide +kernel) rfl) ?_
  refine Eq.trans (ev_ci (show zcode 0 1047 = some (0, 1048, 0, 5, []) by decide +kernel) (by decide)) ?_
  refine Eq.trans (ev_add (show zcode 0 1048 = some (11, 1049, 0, 0, []) by decide +kernel) h9) ?_
  refine Eq.trans (ev_scr (show zcode 0 1049 = some (60, 1050, 0, 0, []) by decide +kernel) h10) ?_
  exact ev_cvirt (show zcode 0 1050 = some (76, 1053, 131, 6, [11]) by decide +kernel) (args := [(0, (V (-2) (x3 + 1))), (0, (V (-2) (x3 + 2))), (0, (V (-2) (x3 + 3))), (0, (V (-2) (x3 + 4))), (0, (V (-2) (x3 + 5)))]) (rest := []) rfl h11 rfl (show 0 ≤ 8 by decide) ⟨by decide, show 6 ≤ 8 by decide⟩
theorem b0_1053 {T : zT} {V : zM} {q1 : Int} {q2 : Int} {x3 : Int} {y0 : Int} (h1 : -2147483648 ≤ (x3 + 1) ∧ (x3 + 1) ≤ 2147483647) (h2 : (0 : Int) ≤ (x3 + 1) ∧ (x3 + 1) < zl T (-2)) (h3 : -2147483648 ≤ (x3 + 2) ∧ (x3 + 2) ≤ 2147483647) (h4 : (0 : Int) ≤ (x3 + 2) ∧ (x3 + 2) < zl T (-2)) (h5 : -2147483648 ≤ (x3 + 3) ∧ (x3 + 3) ≤ 2147483647) (h6 : (0 : Int) ≤ (x3 + 3) ∧ (x3 + 3) < zl T (-2)) (h7 : -2147483648 ≤ (x3 + 4) ∧ (x3 + 4) ≤ 2147483647) (h8 : (0 : Int) ≤ (x3 + 4) ∧ (x3 + 4) < zl T (-2)) (h9 : -2147483648 ≤ (x3 + 5) ∧ (x3 + 5) ≤ 2147483647) (h10 : (0 : Int) ≤ (x3 + 5) ∧ (x3 + 5) < zl T (-2)) (h11 : zO T q2 12) : ev 0 1053 [(4, 0), (2, q1), (2, q2), (0, x3)] [(0, y0)] T V = (zcall 234 [(2, q2), (0, (V (-2) (x3 + 1))), (0, (V (-2) (x3 + 2))), (0, (V (-2) (x3 + 3))), (0, (V (-2) (x3 + 4))), (0, (V (-2) (x3 + 5)))] T V).bind fun x => ev 0 1082 [(4, 0), (2, q1), (2, q2), (0, x3)] (z_push x.1 [(0, y0)]) x.2.1 x.2.2 := by
  refine Eq.trans (ev_lda (show zcode 0 1053 = some (6, 1054, 2, 0, []) by decide +kernel) rfl (by decide)) ?_
  refine Eq.trans (ev_lda (show zcode 0 1054 = some (6, 1055, 0, 0, []) by decide +kernel) rfl (by decide)) ?_
  refine Eq.trans (ev_ldi (show zcode 0 1055 = some (4, 1056, 3, 0, []) by decide +kernel) rfl) ?_
  refine Eq.trans (ev_ci (show zcode 0 1056 = some (0, 1057, 0, 1, []) by decide +kernel) (by decide)) ?_
  refine Eq.trans (ev_add (show zcode 0 1057 = some (11, 1058, 0, 0, []) by decide +kernel) h1) ?_
  refine Eq.trans (ev_scr (show zcode 0 1058 = some (60, 1059, 0, 0, []) by decide +kernel) h2) ?_
  refine Eq.trans (ev_lda (show zcode 0 1059 = some (6, 1060, 0, 0, []) by decide +kernel) rfl (by decide)) ?_
  refine Eq.trans (ev_ldi (show zcode 0 1060 = some (4, 1061, 3, 0, []) by decide +kernel) rfl) ?_
  refine Eq.trans (ev_ci (show zcode 0 1061 = some (0, 1062, 0, 2, []) by decide +kernel) (by decide)) ?_
  refine Eq.trans (ev_add (show zcode 0 1062 = some (11, 1063, 0, 0, []) by decide +kernel) h3) ?_
  refine Eq.trans (ev_scr (show zcode 0 1063 = some (60, 1064, 0, 0, []) by decide +kernel) h4) ?_
  refine Eq.trans (ev_lda (show zcode 0 1064 = some (6, 1065, 0, 0, []) by decide +kernel) rfl (by decide)) ?_
  refine Eq.trans (ev_ldi (show zcode 0 1065 = some (4, 1066, 3, 0, []) by decide +kernel) rfl) ?_
  refine Eq.trans (ev_ci (show zcode 0 1066 = some (0, 1067, 0, 3, []) by decide +kernel) (by decide)) ?_
  refine Eq.trans (ev_add (show zcode 0 1067 = some (11, 1068, 0, 0, []) by decide +kernel) h5) ?_
  refine Eq.trans (ev_scr (show zcode 0 1068 = some (60, 1069, 0, 0, []) by decide +kernel) h6) ?_
  refine Eq.trans (ev_lda (show zcode 0 1069 = some (6, 1070, 0, 0, []) by decide +kernel) rfl (by decide)) ?_
  refine Eq.trans (ev_ldi (show zcode 0 1070 = some (4, 1071, 3, 0, []) by decide +kernel) rfl) ?_
  refine Eq.trans (ev_ci (show zcode 0 1071 = some (0, 1072, 0, 4, []) by decide +kernel) (by decide)) ?_
  refine Eq.trans (ev_add (show zcode 0 1072 = some (11, 1073, 0, 0, []) by decide +kernel) h7) ?_
  refine Eq.trans (ev_scr (show zcode 0 1073 = some (60, 1074, 0, 0, []) by decide +kernel) h8) ?_
  refine Eq.trans (ev_lda (show zcode 0 1074 = some (6, 1075, 0, 0, []) by decide +kernel) rfl (by decide)) ?_
  refine Eq.trans (ev_ldi (show zcode 0 1075 = some (4, 1076, 3, 0, []) by decide +kernel) rfl) ?_
  refine Eq.trans (ev_ci (show zcode 0 1076 = some (0, 1077, 0, 5, []) by decide +kernel) (by decide)) ?_
  refine Eq.trans (ev_add (show zcode 0 1077 = some (11, 1078, 0, 0, []) by decide +kernel) h9) ?_
  refine Eq.trans (ev_scr (show zcode 0 1078 = some (60, 1079, 0, 0, []) by decide +kernel) h10) ?_
  exact ev_cvirt (show zcode 0 1079 = some (76, 1082, 234, 6, [12]) by decide +kernel) (args := [(0, (V (-2) (x3 + 1))), (0, (V (-2) (x3 + 2))), (0, (V (-2) (x3 + 3))), (0, (V (-2) (x3 + 4))), (0, (V (-2) (x3 + 5)))]) (rest := [(0, y0)]) rfl h11 rfl (show 1 ≤ 8 by decide) ⟨by decide, show 6 ≤ 7 by decide⟩
theorem b0_1082 {T : zT} {V : zM} {q1 : Int} {q2 : Int} {x3 : Int} {y0 : Int} {y1 : Int} : ev 0 1082 [(4, 0), (2, q1), (2, q2), (0, x3)] [(0, y1), (0, y0)] T V = if y0 = y1 then ev 0 1271 [(4, 0), (2, q1), (2, q2), (0, x3)] [] T V else ev 0 1085 [(4, 0), (2, q1), (2, q2), (0, x3)] [] T V := by
  exact ev_ceq (show zcode 0 1082 = some (46, 1085, 1271, 0, []) by decide +kernel)
theorem b0_1085 {T : zT} {V : zM} {q1 : Int} {q2 : Int} {x3 : Int} : ev 0 1085 [(4, 0), (2, q1), (2, q2), (0, x3)] [] T V = some ((0, 0), T, V) := by
  refine Eq.trans (ev_ci (show zcode 0 1085 = some (0, 1086, 0, 0, []) by decide +kernel) (by decide)) ?_
  exact ev_rz (show zcode 0 1086 = some (72, 1087, 3, 0, []) by decide +kernel) (by decide)
theorem b0_1087 {T : zT} {V : zM} {q1 : Int} {q2 : Int} {x3 : Int} (h1 : -2147483648 ≤ (x3 + 1) ∧ (x3 + 1) ≤ 2147483647) (h2 : (0 : Int) ≤ (x3 + 1) ∧ (x3 + 1) < zl T (-2)) (h3 : zO T q1 11) : ev 0 1087 [(4, 0), (2, q1), (2, q2), (0, x3)] [] T V = (zcall 133 [(2, q1), (0, (V (-2) (x3 + 1)))] T V).bind fun x => ev 0 1096 [(4, 0), (2, q1), (2, q2), (0, x3)] (z_push x.1 []) x.2.1 x.2.2 := by
  refine Eq.trans (ev_lda (show zcode 0 1087 = some (6, 1088, 1, 0, []) by decide +kernel) rfl (by decide)) ?_
  refine Eq.trans (ev_lda (show zcode 0 1088 = some (6, 1089, 0, 0, []) by decide +kernel) rfl (by decide)) ?_
  refine Eq.trans (ev_ldi (show zcode 0 1089 = some (4, 1090, 3, 0, []) by decide +kernel) rfl) ?_
  refine Eq.trans (ev_ci (show zcode 0 1090 = some (0, 1091, 0, 1, []) by decide +kernel) (by decide)) ?_
  refine Eq.trans (ev_add (show zcode 0 1091 = some (11, 1092, 0, 0, []) by decide +kernel) h1) ?_
  refine Eq.trans (ev_scr (show zcode 0 1092 = some (60, 1093, 0, 0, []) by decide +kernel) h2) ?_
  exact ev_cvirt (show zcode 0 1093 = some (76, 1096, 133, 2, [11]) by decide +kernel) (args := [(0, (V (-2) (x3 + 1)))]) (rest := []) rfl h3 rfl (show 0 ≤ 8 by decide) ⟨by decide, show 2 ≤ 2 by decide⟩
theorem b0_1096 {T : zT} {V : zM} {q1 : Int} {q2 : Int} {x3 : Int} {y0 : Int} (h1 : -2147483648 ≤ (x3 + 1) ∧ (x3 + 1) ≤ 2147483647) (h2 : (0 : Int) ≤ (x3 + 1) ∧ (x3 + 1) < zl T (-2)) (h3 : zO T q2 12) : ev 0 1096 [(4, 0), (2, q1), (2, q2), (0, x3)] [(0, y0)] T V = (zcall 235 [(2, q2), (0, (V (-2) (x3 + 1)))] T V).bind fun x => ev 0 1105 [(4, 0), (2, q1), (2, q2), (0, x3)] (z_push x.1 [(0, y0)]) x.2.1 x.2.2 := by
  refine Eq.trans (ev_lda (show zcode 0 1096 = some (6, 1097, 2, 0, []) by decide +kernel) rfl (by decide)) ?_
  refine Eq.trans (ev_lda (show zcode 0 1097 = some (6, 1098, 0, 0, []) by decide +kernel) rfl (by decide)) ?_
  refine Eq.trans (ev_ldi (show zcode 0 1098 = some (4, 1099, 3, 0, []) by decide +kernel) rfl) ?_
  refine Eq.trans (ev_ci (show zcode 0 1099 = some (0, 1100, 0, 1, []) by decide +kernel) (by decide)) ?_
  refine Eq.trans (ev_add (show zcode 0 1100 = some (11, 1101, 0, 0, []) by decide +kernel) h1) ?_
  refine Eq.trans (ev_scr (show zcode 0 1101 = some (60, 1102, 0, 0, []) by decide +kernel) h2) ?_
  exact ev_cvirt (show zcode 0 1102 = some (76, 1105, 235, 2, [12]) by decide +kernel) (args := [(0, (V (-2) (x3 + 1)))]) (rest := [(0, y0)]) rfl h3 rfl (show 1 ≤ 8 by decide) ⟨by decide, show 2 ≤ 3 by decide⟩
theorem b0_1105 {T : zT} {V : zM} {q1 : Int} {q2 : Int} {x3 : Int} {y0 : Int} {y1 : Int} : ev 0 1105 [(4, 0), (2, q1), (2, q2), (0, x3)] [(0, y1), (0, y0)] T V = if y0 = y1 then ev 0 1271 [(4, 0), (2, q1), (2, q2), (0, x3)] [] T V else ev 0 1108 [(4, 0), (2, q1), (2, q2), (0, x3)] [] T V := by
  exact ev_ceq (show zcode 0 1105 = some (46, 1108, 1271, 0, []) by decide +kernel)
theorem b0_1108 {T : zT} {V : zM} {q1 : Int} {q2 : Int} {x3 : Int} : ev 0 1108 [(4, 0), (2, q1), (2, q2), (0, x3)] [] T V = some ((0, 0), T, V) := by
  refine Eq.trans (ev_ci (show zcode 0 1108 = some (0, 1109, 0, 0, []) by decide +kernel) (by decide)) ?_
  exact ev_rz (show zcode 0 1109 = some (72, 1110, 3, 0, []) by decide +kernel) (by decide)
theorem b0_1110 {T : zT} {V : zM} {q1 : Int} {q2 : Int} {x3 : Int} (h1 : -2147483648 ≤ (x3 + 1) ∧ (x3 + 1) ≤ 2147483647) (h2 : (0 : Int) ≤ (x3 + 1) ∧ (x3 + 1) < zl T (-2)) (h3 : zO T q1 11) : ev 0 1110 [(4, 0), (2, q1), (2, q2), (0, x3)] [] T V = (zcall 135 [(2, q1), (0, (V (-2) (x3 + 1)))] T V).bind fun x => ev 0 1119 [(4, 0), (2, q1), (2, q2), (0, x3)] (z_push x.1 []) x.2.1 x.2.2 := by
  refine Eq.trans (ev_lda (show zcode 0 1110 = some (6, 1111, 1, 0, []) by decide +kernel) rfl (by decide)) ?_
  refine Eq.trans (ev_lda (show zcode 0 1111 = some (6, 1112, 0, 0, []) by decide +kernel) rfl (by decide)) ?_
  refine Eq.trans (ev_ldi (show zcode 0 1112 = some (4, 1113, 3, 0, []) by decide +kernel) rfl) ?_
  refine Eq.trans (ev_ci (show zcode 0 1113 = some (0, 1114, 0, 1, []) by decide +kernel) (by decide)) ?_
  refine Eq.trans (ev_add (show zcode 0 1114 = some (11, 1115, 0, 0, []) by decide +kernel) h1) ?_
  refine Eq.trans (ev_scr (show zcode 0 1115 = some (60, 1116, 0, 0, []) by decide +kernel) h2) ?_
  exact ev_cvirt (show zcode 0 1116 = some (76, 1119, 135, 2, [11]) by decide +kernel) (args := [(0, (V (-2) (x3 + 1)))]) (rest := []) rfl h3 rfl (show 0 ≤ 8 by decide) ⟨by decide, show 2 ≤ 2 by decide⟩
theorem b0_1119 {T : zT} {V : zM} {q1 : Int} {q2 : Int} {x3 : Int} {y0 : Int} (h1 : -2147483648 ≤ (x3 + 1) ∧ (x3 + 1) ≤ 2147483647) (h2 : (0 : Int) ≤ (x3 + 1) ∧ (x3 + 1) < zl T (-2)) (h3 : zO T q2 12) : ev 0 1119 [(4, 0), (2, q1), (2, q2), (0, x3)] [(0, y0)] T V = (zcall 236 [(2, q2), (0, (V (-2) (x3 + 1)))] T V).bind fun x => ev 0 1128 [(4, 0), (2, q1), (2, q2), (0, x3)] (z_push x.1 [(0, y0)]) x.2.1 x.2.2 := by
  refine Eq.trans (ev_lda (show zcode 0 1119 = some (6, 1120, 2, 0, []) by decide +kernel) rfl (by decide)) ?_
  refine Eq.trans (ev_lda (show zcode 0 1120 = some (6, 1121, 0, 0, []) by decide +kernel) rfl (by decide)) ?_
  refine Eq.trans (ev_ldi (show zcode 0 1121 = some (4, 1122, 3, 0, []) by decide +kernel) rfl) ?_
  refine Eq.trans (ev_ci (show zcode 0 1122 = some (0, 1123, 0, 1, []) by decide +kernel) (by decide)) ?_
  refine Eq.trans (ev_add (show zcode 0 1123 = some (11, 1124, 0, 0, []) by decide +kernel) h1) ?_
  refine Eq.trans (ev_scr (show zcode 0 1124 = some (60, 1125, 0, 0, []) by decide +kernel) h2) ?_
  exact ev_cvirt (show zcode 0 1125 = some (76, 1128, 236, 2, [12]) by decide +kernel) (args := [(0, (V (-2) (x3 + 1)))]) (rest := [(0, y0)]) rfl h3 rfl (show 1 ≤ 8 by decide) ⟨by decide, show 2 ≤ 2 by decide⟩
theorem b0_1128 {T : zT} {V : zM} {q1 : Int} {q2 : Int} {x3 : Int} {y0 : Int} {y1 : Int} : ev 0 1128 [(4, 0), (2, q1), (2, q2), (0, x3)] [(0, y1), (0, y0)] T V = if y0 = y1 then ev 0 1271 [(4, 0), (2, q1), (2, q2), (0, x3)] [] T V else ev 0 1131 [(4, 0), (2, q1), (2, q2), (0, x3)] [] T V := by
  exact ev_ceq (show zcode 0 1128 = some (46, 1131, 1271, 0, []) by decide +kernel)
theorem b0_1131 {T : zT} {V : zM} {q1 : Int} {q2 : Int} {x3 : Int} : ev 0 1131 [(4, 0), (2, q1), (2, q2), (0, x3)] [] T V = some ((0, 0), T, V) := by
  refine Eq.trans (ev_ci (show zcode 0 1131 = some (0, 1132, 0, 0, []) by decide +kernel) (by decide)) ?_
  exact ev_rz (show zcode 0 1132 = some (72, 1133, 3, 0, []) by decide +kernel) (by decide)
theorem b0_1133 {T : zT} {V : zM} {q1 : Int} {q2 : Int} {x3 : Int} (h1 : -2147483648 ≤ (x3 + 1) ∧ (x3 + 1) ≤ 2147483647) (h2 : (0 : Int) ≤ (x3 + 1) ∧ (x3 + 1) < zl T (-2)) (h3 : zO T q1 11) : ev 0 1133 [(4, 0), (2, q1), (2, q2), (0, x3)] [] T V = (zcall 139 [(2, q1), (0, (V (-2) (x3 + 1)))] T V).bind fun x => ev 0 1142 [(4, 0), (2, q1), (2, q2), (0, x3)] (z_push x.1 []) x.2.1 x.2.2 := by
  refine Eq.trans (ev_lda (show zcode 0 1133 = some (6, 1134, 1, 0, []) by decide +kernel) rfl (by decide)) ?_
  refine Eq.trans (ev_lda (show zcode 0 1134 = some (6, 1135, 0, 0, []) by decide +kernel) rfl (by decide)) ?_
  refine Eq.trans (ev_ldi (show zcode 0 1135 = some (4, 1136, 3, 0, []) by decide +kernel) rfl) ?_
  refine Eq.trans (ev_ci (show zcode 0 1136 = some (0, 1137, 0, 1, []) by decide +kernel) (by decide)) ?_
  refine Eq.trans (ev_add (show zcode 0 1137 = some (11, 1138, 0, 0, []) by decide +kernel) h1) ?_
  refine Eq.trans (ev_scr (show zcode 0 1138 = some (60, 1139, 0, 0, []) by decide +kernel) h2) ?_
  exact ev_cvirt (show zcode 0 1139 = some (76, 1142, 139, 2, [11]) by decide +kernel) (args := [(0, (V (-2) (x3 + 1)))]) (rest := []) rfl h3 rfl (show 0 ≤ 8 by decide) ⟨by decide, show 2 ≤ 6 by decide⟩
theorem b0_1142 {T : zT} {V : zM} {q1 : Int} {q2 : Int} {x3 : Int} {y0 : Int} (h1 : -2147483648 ≤ (x3 + 1) ∧ (x3 + 1) ≤ 2147483647) (h2 : (0 : Int) ≤ (x3 + 1) ∧ (x3 + 1) < zl T (-2)) (h3 : zO T q2 12) : ev 0 1142 [(4, 0), (2, q1), (2, q2), (0, x3)] [(0, y0)] T V = (zcall 240 [(2, q2), (0, (V (-2) (x3 + 1)))] T V).bind fun x => ev 0 1151 [(4, 0), (2, q1), (2, q2), (0, x3)] (z_push x.1 [(0, y0)]) x.2.1 x.2.2 := by
  refine Eq.trans (ev_lda (show zcode 0 1142 = some (6, 1143, 2, 0, []) by decide +kernel) rfl (by decide)) ?_
  refine Eq.trans (ev_lda (show zcode 0 1143 = some (6, 1144, 0, 0, []) by decide +kernel) rfl (by decide)) ?_
  refine Eq.trans (ev_ldi (show zcode 0 1144 = some (4, 1145, 3, 0, []) by decide +kernel) rfl) ?_
  refine Eq.trans (ev_ci (show zcode 0 1145 = some (0, 1146, 0, 1, []) by decide +kernel) (by decide)) ?_
  refine Eq.trans (ev_add (show zcode 0 1146 = some (11, 1147, 0, 0, []) by decide +kernel) h1) ?_
  refine Eq.trans (ev_scr (show zcode 0 1147 = some (60, 1148, 0, 0, []) by decide +kernel) h2) ?_
  exact ev_cvirt (show zcode 0 1148 = some (76, 1151, 240, 2, [12]) by decide +kernel) (args := [(0, (V (-2) (x3 + 1)))]) (rest := [(0, y0)]) rfl h3 rfl (show 1 ≤ 8 by decide) ⟨by decide, show 2 ≤ 7 by decide⟩
theorem b0_1151 {T : zT} {V : zM} {q1 : Int} {q2 : Int} {x3 : Int} {y0 : Int} {y1 : Int} : ev 0 1151 [(4, 0), (2, q1), (2, q2), (0, x3)] [(0, y1), (0, y0)] T V = if y0 = y1 then ev 0 1271 [(4, 0), (2, q1), (2, q2), (0, x3)] [] T V else ev 0 1154 [(4, 0), (2, q1), (2, q2), (0, x3)] [] T V := by
  exact ev_ceq (show zcode 0 1151 = some (46, 1154, 1271, 0, []) by decide +kernel)
theorem b0_1154 {T : zT} {V : zM} {q1 : Int} {q2 : Int} {x3 : Int} : ev 0 1154 [(4, 0), (2, q1), (2, q2), (0, x3)] [] T V = some ((0, 0), T, V) := by
  refine Eq.trans (ev_ci (show zcode 0 1154 = some (0, 1155, 0, 0, []) by decide +kernel) (by decide)) ?_
  exact ev_rz (show zcode 0 1155 = some (72, 1156, 3, 0, []) by decide +kernel) (by decide)
theorem b0_1156 {T : zT} {V : zM} {q1 : Int} {q2 : Int} {x3 : Int} (h1 : -2147483648 ≤ (x3 + 1) ∧ (x3 + 1) ≤ 2147483647) (h2 : (0 : Int) ≤ (x3 + 1) ∧ (x3 + 1) < zl T (-2)) (h3 : -2147483648 ≤ (x3 + 2) ∧ (x3 + 2) ≤ 2147483647) (h4 : (0 : Int) ≤ (x3 + 2) ∧ (x3 + 2) < zl T (-2)) (h5 : zO T q1 11) : ev 0 1156 [(4, 0), (2, q1), (2, q2), (0, x3)] [] T V = (zcall 141 [(2, q1), (0, (V (-2) (x3 + 1))), (0, (V (-2) (x3 + 2)))] T V).bind fun x => ev 0 1170 [(4, 0), (2, q1), (2, q2), (0, x3)] (z_push x.1 []) x.2.1 x.2.2 := by
  refine Eq.trans (ev_lda (show zcode 0 1156 = some (6, 1157, 1, 0, []) by decide +kernel) rfl (by decide)) ?_
  refine Eq.trans (ev_lda (show zcode 0 1157 = some (6, 1158, 0, 0, []) by decide +kernel) rfl (by decide)) ?_
  refine Eq.trans (ev_ldi (show zcode 0 1158 = some (4, 1159, 3, 0, []) by decide +kernel) rfl) ?_
  refine Eq.trans (ev_ci (show zcode 0 1159 = some (0, 1160, 0, 1, []) by decide +kernel) (by decide)) ?_
  refine Eq.trans (ev_add (show zcode 0 1160 = some (11, 1161, 0, 0, []) by decide +kernel) h1) ?_
  refine Eq.trans (ev_scr (show zcode 0 1161 = some (60, 1162, 0, 0, []) by decide +kernel) h2) ?_
  refine Eq.trans (ev_lda (show zcode 0 1162 = some (6, 1163, 0, 0, []) by decide +kernel) rfl (by decide)) ?_
  refine Eq.trans (ev_ldi (show zcode 0 1163 = some (4, 1164, 3, 0, []) by decide +kernel) rfl) ?_
  refine Eq.trans (ev_ci (show zcode 0 1164 = some (0, 1165, 0, 2, []) by decide +kernel) (by decide)) ?_
  refine Eq.trans (ev_add (show zcode 0 1165 = some (11, 1166, 0, 0, []) by decide +kernel) h3) ?_
  refine Eq.trans (ev_scr (show zcode 0 1166 = some (60, 1167, 0, 0, []) by decide +kernel) h4) ?_
  exact ev_cvirt (show zcode 0 1167 = some (76, 1170, 141, 3, [11]) by decide +kernel) (args := [(0, (V (-2) (x3 + 1))), (0, (V (-2) (x3 + 2)))]) (rest := []) rfl h5 rfl (show 0 ≤ 8 by decide) ⟨by decide, show 3 ≤ 3 by decide⟩
theorem b0_1170 {T : zT} {V : zM} {q1 : Int} {q2 : Int} {x3 : Int} {y0 : Int} (h1 : -2147483648 ≤ (x3 + 1) ∧ (x3 + 1) ≤ 2147483647) (h2 : (0 : Int) ≤ (x3 + 1) ∧ (x3 + 1) < zl T (-2)) (h3 : -2147483648 ≤ (x3 + 2) ∧ (x3 + 2) ≤ 2147483647) (h4 : (0 : Int) ≤ (x3 + 2) ∧ (x3 + 2) < zl T (-2)) (h5 : zO T q2 12) : ev 0 1170 [(4, 0), (2, q1), (2, q2), (0, x3)] [(0, y0)] T V = (zcall 241 [(2, q2), (0, (V (-2) (x3 + 1))), (0, (V (-2) (x3 + 2)))] T V).bind fun x => ev 0 1184 [(4, 0), (2, q1), (2, q2), (0, x3)] (z_push x.1 [(0, y0)]) x.2.1 x.2.2 := by
  refine Eq.trans (ev_lda (show zcode 0 1170 = some (6, 1171, 2, 0, []) by decide +kernel) rfl (by decide)) ?_
  refine Eq.trans (ev_lda (show zcode 0 1171 = some (6, 1172, 0, 0, []) by decide +kernel) rfl (by decide)) ?_
  refine Eq.trans (ev_ldi (show zcode 0 1172 = some (4, 1173, 3, 0, []) by decide +kernel) rfl) ?_
  refine Eq.trans (ev_ci (show zcode 0 1173 = some (0, 1174, 0, 1, []) by decide +kernel) (by decide)) ?_
  refine Eq.trans (ev_add (show zcode 0 1174 = some (11, 1175, 0, 0, []) by decide +kernel) h1) ?_
  refine Eq.trans (ev_scr (show zcode 0 1175 = some (60, 1176, 0, 0, []) by decide +kernel) h2) ?_
  refine Eq.trans (ev_lda (show zcode 0 1176 = some (6, 1177, 0, 0, []) by decide +kernel) rfl (by decide)) ?_
  refine Eq.trans (ev_ldi (show zcode 0 1177 = some (4, 1178, 3, 0, []) by decide +kernel) rfl) ?_
  refine Eq.trans (ev_ci (show zcode 0 1178 = some (0, 1179, 0, 2, []) by decide +kernel) (by decide)) ?_
  refine Eq.trans (ev_add (show zcode 0 1179 = some (11, 1180, 0, 0, []) by decide +kernel) h3) ?_
  refine Eq.trans (ev_scr (show zcode 0 1180 = some (60, 1181, 0, 0, []) by decide +kernel) h4) ?_
  exact ev_cvirt (show zcode 0 1181 = some (76, 1184, 241, 3, [12]) by decide +kernel) (args := [(0, (V (-2) (x3 + 1))), (0, (V (-2) (x3 + 2)))]) (rest := [(0, y0)]) rfl h5 rfl (show 1 ≤ 8 by decide) ⟨by decide, show 3 ≤ 6 by decide⟩
theorem b0_1184 {T : zT} {V : zM} {q1 : Int} {q2 : Int} {x3 : Int} {y0 : Int} {y1 : Int} : ev 0 1184 [(4, 0), (2, q1), (2, q2), (0, x3)] [(0, y1), (0, y0)] T V = if y0 = y1 then ev 0 1271 [(4, 0), (2, q1), (2, q2), (0, x3)] [] T V else ev 0 1187 [(4, 0), (2, q1), (2, q2), (0, x3)] [] T V := by
  exact ev_ceq (show zcode 0 1184 = some (46, 1187, 1271, 0, []) by decide +kernel)
theorem b0_1187 {T : zT} {V : zM} {q1 : Int} {q2 : Int} {x3 : Int} : ev 0 1187 [(4, 0), (2, q1), (2, q2), (0, x3)] [] T V = some ((0, 0), T, V) := by
  refine Eq.trans (ev_ci (show zcode 0 1187 = some (0, 1188, 0, 0, []) by decide +kernel) (by decide)) ?_
  exact ev_rz (show zcode 0 1188 = some (72, 1189, 3, 0, []) by decide +kernel) (by decide)
theorem b0_1189 {T : zT} {V : zM} {q1 : Int} {q2 : Int} {x3 : Int} (h1 : -2147483648 ≤ (x3 + 1) ∧ (x3 + 1) ≤ 2147483647) (h2 : (0 : Int) ≤ (x3 + 1) ∧ (x3 + 1) < zl T (-2)) (h3 : zO T q1 11) : ev 0 1189 [(4, 0), (2, q1), (2, q2), (0, x3)] [] T V = (zcall 143 [(2, q1), (0, (V (-2) (x3 + 1)))] T V).bind fun x => ev 0 1198 [(4, 0), (2, q1), (2, q2), (0, x3)] (z_push x.1 []) x.2.1 x.2.2 := by
  refine Eq.trans (ev_lda (show zcode 0 1189 = some (6, 1190, 1, 0, []) by decide +kernel) rfl (by decide)) ?_
  refine Eq.trans (ev_lda (show zcode 0 1190 = some (6, 1191, 0, 0, []) by decide +kernel) rfl (by decide)) ?_
  refine Eq.trans (ev_ldi (show zcode 0 1191 = some (4, 1192, 3, 0, []) by decide +kernel) rfl) ?_
  refine Eq.trans (ev_ci (show zcode 0 1192 = some (0, 1193, 0, 1, []) by decide +kernel) (by decide)) ?_
  refine Eq.trans (ev_add (show zcode 0 1193 = some (11, 1194, 0, 0, []) by decide +kernel) h1) ?_
  refine Eq.trans (ev_scr (show zcode 0 1194 = some (60, 1195, 0, 0, []) by decide +kernel) h2) ?_
  exact ev_cvirt (show zcode 0 1195 = some (76, 1198, 143, 2, [11]) by decide +kernel) (args := [(0, (V (-2) (x3 + 1)))]) (rest := []) rfl h3 rfl (show 0 ≤ 8 by decide) ⟨by decide, show 2 ≤ 2 by decide⟩
theorem b0_1198 {T : zT} {V : zM} {q1 : Int} {q2 : Int} {x3 : Int} {y0 : Int} (h1 : -2147483648 ≤ (x3 + 1) ∧ (x3 + 1) ≤ 2147483647) (h2 : (0 : Int) ≤ (x3 + 1) ∧ (x3 + 1) < zl T (-2)) (h3 : zO T q2 12) : ev 0 1198 [(4, 0), (2, q1), (2, q2), (0, x3)] [(0, y0)] T V = (zcall 149 [(2, q2), (0, (V (-2) (x3 + 1)))] T V).bind fun x => ev 0 1207 [(4, 0), (2, q1), (2, q2), (0, x3)] (z_push x.1 [(0, y0)]) x.2.1 x.2.2 := by
  refine Eq.trans (ev_lda (show zcode 0 1198 = some (6, 1199, 2, 0, []) by decide +kernel) rfl (by decide)) ?_
  refine Eq.trans (ev_lda (show zcode 0 1199 = some (6, 1200, 0, 0, []) by decide +kernel) rfl (by decide)) ?_
  refine Eq.trans (ev_ldi (show zcode 0 1200 = some (4, 1201, 3, 0, []) by decide +kernel) rfl) ?_
  refine Eq.trans (ev_ci (show zcode 0 1201 = some (0, 1202, 0, 1, []) by decide +kernel) (by decide)) ?_
  refine Eq.trans (ev_add (show zcode 0 1202 = some (11, 1203, 0, 0, []) by decide +kernel) h1) ?_
  refine Eq.trans (ev_scr (show zcode 0 1203 = some (60, 1204, 0, 0, []) by decide +kernel) h2) ?_
  exact ev_cvirt (show zcode 0 1204 = some (76, 1207, 149, 2, [12]) by decide +kernel) (args := [(0, (V (-2) (x3 + 1)))]) (rest := [(0, y0)]) rfl h3 rfl (show 1 ≤ 8 by decide) ⟨by decide, show 2 ≤ 3 by decide⟩
theorem b0_1207 {T : zT} {V : zM} {q1 : Int} {q2 : Int} {x3 : Int} {y0 : Int} {y1 : Int} : ev 0 1207 [(4, 0), (2, q1), (2, q2), (0, x3)] [(0, y1), (0, y0)] T V = if y0 = y1 then ev 0 1271 [(4, 0), (2, q1), (2, q2), (0, x3)] [] T V else ev 0 1210 [(4, 0), (2, q1), (2, q2), (0, x3)] [] T V := by
  exact ev_ceq (show zcode 0 1207 = some (46, 1210, 1271, 0, []) by decide +kernel)
theorem b0_1210 {T : zT} {V : zM} {q1 : Int} {q2 : Int} {x3 : Int} : ev 0 1210 [(4, 0), (2, q1), (2, q2), (0, x3)] [] T V = some ((0, 0), T, V) := by
  refine Eq.trans (ev_ci (show zcode 0 1210 = some (0, 1211, 0, 0, []) by decide +kernel) (by decide)) ?_
  exact ev_rz (show zcode 0 1211 = some (72, 1212, 3, 0, []) by decide +kernel) (by decide)
theorem b0_1212 {T : zT} {V : zM} {q1 : Int} {q2 : Int} {x3 : Int} (h1 : -2147483648 ≤ (x3 + 1) ∧ (x3 + 1) ≤ 2147483647) (h2 : (0 : Int) ≤ (x3 + 1) ∧ (x3 + 1) < zl T (-2)) (h3 : zO T q1 11) : ev 0 1212 [(4, 0), (2, q1), (2, q2), (0, x3)] [] T V = (zcall 144 [(2, q1), (0, (V (-2) (x3 + 1)))] T V).bind fun x => ev 0 1221 [(4, 0), (2, q1), (2, q2), (0, x3)] (z_push x.1 []) x.2.1 x.2.2 := by
  refine Eq.trans (ev_lda (show zcode 0 1212 = some (6, 1213, 1, 0, []) by decide +kernel) rfl (by decide)) ?_
  refine Eq.trans (ev_lda (show zcode 0 1213 = some (6, 1214, 0, 0, []) by decide +kernel) rfl (by decide)) ?_
  refine Eq.trans (ev_ldi (show zcode 0 1214 = some (4, 1215, 3, 0, []) by decide +kernel) rfl) ?_
  refine Eq.trans (ev_ci (show zcode 0 1215 = some (0, 1216, 0, 1, []) by decide +kernel) (by decide)) ?_
  refine Eq.trans (ev_add (show zcode 0 1216 = some (11, 1217, 0, 0, []) by decide +kernel) h1) ?_
  refine Eq.trans (ev_scr (show zcode 0 1217 = some (60, 1218, 0, 0, []) by decide +kernel) h2) ?_
  exact ev_cvirt (show zcode 0 1218 = some (76, 1221, 144, 2, [11]) by decide +kernel) (args := [(0, (V (-2) (x3 + 1)))]) (rest := []) rfl h3 rfl (show 0 ≤ 8 by decide) ⟨by decide, show 2 ≤ 2 by decide⟩
theorem b0_1221 {T : zT} {V : zM} {q1 : Int} {q2 : Int} {x3 : Int} {y0 : Int} (h1 : -2147483648 ≤ (x3 + 1) ∧ (x3 + 1) ≤ 2147483647) (h2 : (0 : Int) ≤ (x3 + 1) ∧ (x3 + 1) < zl T (-2)) (h3 : zO T q2 12) : ev 0 1221 [(4, 0), (2, q1), (2, q2), (0, x3)] [(0, y0)] T V = (zcall 153 [(2, q2), (0, (V (-2) (x3 + 1)))] T V).bind fun x => ev 0 1230 [(4, 0), (2, q1), (2, q2), (0, x3)] (z_push x.1 [(0, y0)]) x.2.1 x.2.2 := by
  refine Eq.trans (ev_lda (show zcode 0 1221 = some (6, 1222, 2, 0, []) by decide +kernel) rfl (by decide)) ?_
  refine Eq.trans (ev_lda (show zcode 0 1222 = some (6, 1223, 0, 0, []) by decide +kernel) rfl (by decide)) ?_
  refine Eq.trans (ev_ldi (show zcode 0 1223 = some (4, 1224, 3, 0, []) by decide +kernel) rfl) ?_
  refine Eq.trans (ev_ci (show zcode 0 1224 = some (0, 1225, 0, 1, []) by decide +kernel) (by decide)) ?_
  refine Eq.trans (ev_add (show zcode 0 1225 = some (11, 1226, 0, 0, []) by decide +kernel) h1) ?_
  refine Eq.trans (ev_scr (show zcode 0 1226 = some (60, 1227, 0, 0, []) by decide +kernel) h2) ?_
  exact ev_cvirt (show zcode 0 1227 = some (76, 1230, 153, 2, [12]) by decide +kernel) (args := [(0, (V (-2) (x3 + 1)))]) (rest := [(0, y0)]) rfl h3 rfl (show 1 ≤ 8 by decide) ⟨by decide, show 2 ≤ 3 by decide⟩
theorem b0_1230 {T : zT} {V : zM} {q1 : Int} {q2 : Int} {x3 : Int} {y0 : Int} {y1 : Int} : ev 0 1230 [(4, 0), (2, q1), (2, q2), (0, x3)] [(0, y1), (0, y0)] T V = if y0 = y1 then ev 0 1271 [(4, 0), (2, q1), (2, q2), (0, x3)] [] T V else ev 0 1233 [(4, 0), (2, q1), (2, q2), (0, x3)] [] T V := by
  exact ev_ceq (show zcode 0 1230 = some (46, 1233, 1271, 0, []) by decide +kernel)
theorem b0_1233 {T : zT} {V : zM} {q1 : Int} {q2 : Int} {x3 : Int} : ev 0 1233 [(4, 0), (2, q1), (2, q2), (0, x3)] [] T V = some ((0, 0), T, V) := by
  refine Eq.trans (ev_ci (show zcode 0 1233 = some (0, 1234, 0, 0, []) by decide +kernel) (by decide)) ?_
  exact ev_rz (show zcode 0 1234 = some (72, 1235, 3, 0, []) by decide +kernel) (by decide)
theorem b0_1235 {T : zT} {V : zM} {q1 : Int} {q2 : Int} {x3 : Int} (h1 : -2147483648 ≤ (x3 + 1) ∧ (x3 + 1) ≤ 2147483647) (h2 : (0 : Int) ≤ (x3 + 1) ∧ (x3 + 1) < zl T (-2)) (h3 : zO T q1 11) : ev 0 1235 [(4, 0), (2, q1), (2, q2), (0, x3)] [] T V = (zcall 145 [(2, q1), (0, (V (-2) (x3 + 1)))] T V).bind fun x => ev 0 1244 [(4, 0), (2, q1), (2, q2), (0, x3)] (z_push x.1 []) x.2.1 x.2.2 := by
  refine Eq.trans (ev_lda (show zcode 0 1235 = some (6, 1236, 1, 0, []) by decide +kernel) rfl (by decide)) ?_
  refine Eq.trans (ev_lda (show zcode 0 1236 = some (6, 1237, 0, 0, []) by decide +kernel) rfl (by decide)) ?_
  refine Eq.trans (ev_ldi (show zcode 0 1237 = some (4, 1238, 3, 0, []) by decide +kernel) rfl) ?_
  refine Eq.trans (ev_ci (show zcode 0 1238 = some (0, 1239, 0, 1, []) by decide +kernel) (by decide)) ?_
  refine Eq.trans (ev_add (show zcode 0 1239 = some (11, 1240, 0, 0, []) by decide +kernel) h1) ?_
  refine Eq.trans (ev_scr (show zcode 0 1240 = some (60, 1241, 0, 0, []) by decide +kernel) h2) ?_
  exact ev_cvirt (show zcode 0 1241 = some (76, 1244, 145, 2, [11]) by decide +kernel) (args := [(0, (V (-2) (x3 + 1)))]) (rest := []) rfl h3 rfl (show 0 ≤ 8 by decide) ⟨by decide, show 2 ≤ 2 by decide⟩
theorem b0_1244 {T : zT} {V : zM} {q1 : Int} {q2 : Int} {x3 : Int} {y0 : Int} (h1 : -2147483648 ≤ (x3 + 1) ∧ (x3 + 1) ≤ 2147483647) (h2 : (0 : Int) ≤ (x3 + 1) ∧ (x3 + 1) < zl T (-2)) (h3 : zO T q2 12) : ev 0 1244 [(4, 0), (2, q1), (2, q2), (0, x3)] [(0, y0)] T V = (zcall 243 [(2, q2), (0, (V (-2) (x3 + 1)))] T V).bind fun x => ev 0 1253 [(4, 0), (2, q1), (2, q2), (0, x3)] (z_push x.1 [(0, y0)]) x.2.1 x.2.2 := by
  refine Eq.trans (ev_lda (show zcode 0 1244 = some (6, 1245, 2, 0, []) by decide +kernel) rfl (by decide)) ?_
  refine Eq.trans (ev_lda (show zcode 0 1245 = some (6, 1246, 0, 0, []) by decide +kernel) rfl (by decide)) ?_
  refine Eq.trans (ev_ldi (show zcode 0 1246 = some (4, 1247, 3, 0, []) by decide +kernel) rfl) ?_
  refine Eq.trans (ev_ci (show zcode 0 1247 = some (0, 1248, 0, 1, []) by decide +kernel) (by decide)) ?_
  refine Eq.trans (ev_add (show zcode 0 1248 = some (11, 1249, 0, 0, []) by decide +kernel) h1) ?_
  refine Eq.trans (ev_scr (show zcode 0 1249 = some (60, 1250, 0, 0, []) by decide +kernel) h2) ?_
  exact ev_cvirt (show zcode 0 1250 = some (76, 1253, 243, 2, [12]) by decide +kernel) (args := [(0, (V (-2) (x3 + 1)))]) (rest := [(0, y0)]) rfl h3 rfl (show 1 ≤ 8 by decide) ⟨by decide, show 2 ≤ 5 by decide⟩
theorem b0_1253 {T : zT} {V : zM} {q1 : Int} {q2 : Int} {x3 : Int} {y0 : Int} {y1 : Int} : ev 0 1253 [(4, 0), (2, q1), (2, q2), (0, x3)] [(0, y1), (0, y0)] T V = if y0 = y1 then ev 0 1271 [(4, 0), (2, q1), (2, q2), (0, x3)] [] T V else ev 0 1256 [(4, 0), (2, q1), (2, q2), (0, x3)] [] T V := by
  exact ev_ceq (show zcode 0 1253 = some (46, 1256, 1271, 0, []) by decide +kernel)
theorem b0_1256 {T : zT} {V : zM} {q1 : Int} {q2 : Int} {x3 : Int} : ev 0 1256 [(4, 0), (2, q1), (2, q2), (0, x3)] [] T V = some ((0, 0), T, V) := by
  refine Eq.trans (ev_ci (show zcode 0 1256 = some (0, 1257, 0, 0, []) by decide +kernel) (by decide)) ?_
  exact ev_rz (show zcode 0 1257 = some (72, 1258, 3, 0, []) by decide +kernel) (by decide)
theorem b0_1258 {T : zT} {V : zM} {q1 : Int} {q2 : Int} {x3 : Int} (h1 : zO T q1 11) : ev 0 1258 [(4, 0), (2, q1), (2, q2), (0, x3)] [] T V = (zcall 147 [(2, q1)] T V).bind fun x => ev 0 1262 [(4, 0), (2, q1), (2, q2), (0, x3)] (z_push x.1 []) x.2.1 x.2.2 := by
  refine Eq.trans (ev_lda (show zcode 0 1258 = some (6, 1259, 1, 0, []) by decide +kernel) rfl (by decide)) ?_
  exact ev_cvirt (show zcode 0 1259 = some (76, 1262, 147, 1, [11]) by decide +kernel) (args := []) (rest := []) rfl h1 rfl (show 0 ≤ 8 by decide) ⟨by decide, show 1 ≤ 1 by decide⟩
theorem b0_1262 {T : zT} {V : zM} {q1 : Int} {q2 : Int} {x3 : Int} {y0 : Int} (h1 : zO T q2 12) : ev 0 1262 [(4, 0), (2, q1), (2, q2), (0, x3)] [(0, y0)] T V = (zcall 244 [(2, q2)] T V).bind fun x => ev 0 1266 [(4, 0), (2, q1), (2, q2), (0, x3)] (z_push x.1 [(0, y0)]) x.2.1 x.2.2 := by
  refine Eq.trans (ev_lda (show zcode 0 1262 = some (6, 1263, 2, 0, []) by decide +kernel) rfl (by decide)) ?_
  exact ev_cvirt (show zcode 0 1263 = some (76, 1266, 244, 1, [12]) by decide +kernel) (args := []) (rest := [(0, y0)]) rfl h1 rfl (show 1 ≤ 8 by decide) ⟨by decide, show 1 ≤ 1 by decide⟩
theorem b0_1266 {T : zT} {V : zM} {q1 : Int} {q2 : Int} {x3 : Int} {y0 : Int} {y1 : Int} : ev 0 1266 [(4, 0), (2, q1), (2, q2), (0, x3)] [(0, y1), (0, y0)] T V = if y0 = y1 then ev 0 1271 [(4, 0), (2, q1), (2, q2), (0, x3)] [] T V else ev 0 1269 [(4, 0), (2, q1), (2, q2), (0, x3)] [] T V := by
  exact ev_ceq (show zcode 0 1266 = some (46, 1269, 1271, 0, []) by decide +kernel)
theorem b0_1269 {T : zT} {V : zM} {q1 : Int} {q2 : Int} {x3 : Int} : ev 0 1269 [(4, 0), (2, q1), (2, q2), (0, x3)] [] T V = some ((0, 0), T, V) := by
  refine Eq.trans (ev_ci (show zcode 0 1269 = some (0, 1270, 0, 0, []) by decide +kernel) (by decide)) ?_
  exact ev_rz (show zcode 0 1270 = some (72, 1271, 3, 0, []) by decide +kernel) (by decide)
theorem b0_1271 {T : zT} {V : zM} {q1 : Int} {q2 : Int} {x3 : Int} (h1 : -2147483648 ≤ (x3 + 6) ∧ (x3 + 6) ≤ 2147483647) : ev 0 1271 [(4, 0), (2, q1), (2, q2), (0, x3)] [] T V = ev 0 18 [(4, 0), (2, q1), (2, q2), (0, (x3 + 6))] [] T V := by
  refine Eq.trans (ev_inc (show zcode 0 1271 = some (10, 1274, 3, 6, []) by decide +kernel) rfl h1 (Or.inr (show ¬ (2 : Nat) = 1 by decide))) ?_
  exact ev_goto (show zcode 0 1274 = some (53, 1277, 18, 0, []) by decide +kernel)
theorem b0_1277 {T : zT} {V : zM} {q1 : Int} {q2 : Int} {x3 : Int} : ev 0 1277 [(4, 0), (2, q1), (2, q2), (0, x3)] [] T V = some ((0, 1), T, V) := by
  refine Eq.trans (ev_ci (show zcode 0 1277 = some (0, 1278, 0, 1, []) by decide +kernel) (by decide)) ?_
  exact ev_rz (show zcode 0 1278 = some (72, 1279, 3, 0, []) by decide +kernel) (by decide)
