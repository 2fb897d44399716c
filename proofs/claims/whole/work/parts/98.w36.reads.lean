/-! printed by emit_w36.py: the readings, at a heap of the class alone -/
def zStq (T : zT) : Prop := ∃ V, zHp (fun _ _ => 0) zs1_e T V
theorem so0_q {T : zT} (g : zStq T) : zO T 0 11 := g.elim (fun _ h => h.o 0 (by decide +kernel) (by decide +kernel))
theorem so59_q {T : zT} (g : zStq T) : zO T 59 4 := g.elim (fun _ h => h.o 59 (by decide +kernel) (by decide +kernel))
theorem so65_q {T : zT} (g : zStq T) : zO T 65 3 := g.elim (fun _ h => h.o 65 (by decide +kernel) (by decide +kernel))
theorem sa60_q {T : zT} (g : zStq T) : zAr T 60 0 128 := g.elim (fun _ h => h.ar 60 (by decide +kernel) (by decide +kernel))
theorem sa61_q {T : zT} (g : zStq T) : zAr T 61 0 128 := g.elim (fun _ h => h.ar 61 (by decide +kernel) (by decide +kernel))
theorem sa62_q {T : zT} (g : zStq T) : zAr T 62 0 128 := g.elim (fun _ h => h.ar 62 (by decide +kernel) (by decide +kernel))
theorem sa63_q {T : zT} (g : zStq T) : zAr T 63 0 128 := g.elim (fun _ h => h.ar 63 (by decide +kernel) (by decide +kernel))
theorem sa64_q {T : zT} (g : zStq T) : zAr T 64 0 128 := g.elim (fun _ h => h.ar 64 (by decide +kernel) (by decide +kernel))
theorem sp0_0_q {T : zT} (g : zStq T) : zp T 0 0 = 1 := g.elim (fun _ h => h.pt ⟨by decide, by decide +kernel⟩ (by decide +kernel))
theorem sp0_5_q {T : zT} (g : zStq T) : zp T 0 5 = 59 := g.elim (fun _ h => h.pt ⟨by decide, by decide +kernel⟩ (by decide +kernel))
theorem sp0_6_q {T : zT} (g : zStq T) : zp T 0 6 = 65 := g.elim (fun _ h => h.pt ⟨by decide, by decide +kernel⟩ (by decide +kernel))
theorem sp59_0_q {T : zT} (g : zStq T) : zp T 59 0 = 60 := g.elim (fun _ h => h.pt ⟨by decide, by decide +kernel⟩ (by decide +kernel))
theorem sp59_1_q {T : zT} (g : zStq T) : zp T 59 1 = 61 := g.elim (fun _ h => h.pt ⟨by decide, by decide +kernel⟩ (by decide +kernel))
theorem sp59_2_q {T : zT} (g : zStq T) : zp T 59 2 = 62 := g.elim (fun _ h => h.pt ⟨by decide, by decide +kernel⟩ (by decide +kernel))
theorem sp59_3_q {T : zT} (g : zStq T) : zp T 59 3 = 63 := g.elim (fun _ h => h.pt ⟨by decide, by decide +kernel⟩ (by decide +kernel))
theorem sp59_4_q {T : zT} (g : zStq T) : zp T 59 4 = 64 := g.elim (fun _ h => h.pt ⟨by decide, by decide +kernel⟩ (by decide +kernel))
theorem st1_q {T : zT} (g : zStq T) : zState T 1 := g.elim (fun _ h => ⟨h.o 1 (by decide +kernel) (by decide +kernel), h.pt ⟨by decide, by decide +kernel⟩ (by decide +kernel), h.pt ⟨by decide, by decide +kernel⟩ (by decide +kernel), h.pt ⟨by decide, by decide +kernel⟩ (by decide +kernel), h.pt ⟨by decide, by decide +kernel⟩ (by decide +kernel), h.pt ⟨by decide, by decide +kernel⟩ (by decide +kernel), h.pt ⟨by decide, by decide +kernel⟩ (by decide +kernel), h.pt ⟨by decide, by decide +kernel⟩ (by decide +kernel), h.ar 2 (by decide +kernel) (by decide +kernel), h.ar 3 (by decide +kernel) (by decide +kernel), h.ar 4 (by decide +kernel) (by decide +kernel), h.ar 5 (by decide +kernel) (by decide +kernel), ⟨h.o 6 (by decide +kernel) (by decide +kernel), h.pt ⟨by decide, by decide +kernel⟩ (by decide +kernel), h.pt ⟨by decide, by decide +kernel⟩ (by decide +kernel), h.pt ⟨by decide, by decide +kernel⟩ (by decide +kernel), h.pt ⟨by decide, by decide +kernel⟩ (by decide +kernel), h.pt ⟨by decide, by decide +kernel⟩ (by decide +kernel), h.pt ⟨by decide, by decide +kernel⟩ (by decide +kernel), h.pt ⟨by decide, by decide +kernel⟩ (by decide +kernel), h.ar 7 (by decide +kernel) (by decide +kernel), h.ar 8 (by decide +kernel) (by decide +kernel), h.ar 9 (by decide +kernel) (by decide +kernel), h.ar 10 (by decide +kernel) (by decide +kernel), h.ar 11 (by decide +kernel) (by decide +kernel), h.ar 12 (by decide +kernel) (by decide +kernel), h.ar 13 (by decide +kernel) (by decide +kernel)⟩, ⟨h.o 14 (by decide +kernel) (by decide +kernel), h.pt ⟨by decide, by decide +kernel⟩ (by decide +kernel), h.pt ⟨by decide, by decide +kernel⟩ (by decide +kernel), h.pt ⟨by decide, by decide +kernel⟩ (by decide +kernel), h.pt ⟨by decide, by decide +kernel⟩ (by decide +kernel), h.pt ⟨by decide, by decide +kernel⟩ (by decide +kernel), h.pt ⟨by decide, by decide +kernel⟩ (by decide +kernel), h.pt ⟨by decide, by decide +kernel⟩ (by decide +kernel), h.ar 15 (by decide +kernel) (by decide +kernel), h.ar 16 (by decide +kernel) (by decide +kernel), h.ar 17 (by decide +kernel) (by decide +kernel), h.ar 18 (by decide +kernel) (by decide +kernel), h.ar 19 (by decide +kernel) (by decide +kernel), h.ar 20 (by decide +kernel) (by decide +kernel), h.ar 21 (by decide +kernel) (by decide +kernel)⟩, ⟨h.o 22 (by decide +kernel) (by decide +kernel), h.pt ⟨by decide, by decide +kernel⟩ (by decide +kernel), h.pt ⟨by decide, by decide +kernel⟩ (by decide +kernel), h.pt ⟨by decide, by decide +kernel⟩ (by decide +kernel), h.pt ⟨by decide, by decide +kernel⟩ (by decide +kernel), h.pt ⟨by decide, by decide +kernel⟩ (by decide +kernel), h.ar 23 (by decide +kernel) (by decide +kernel), h.ar 24 (by decide +kernel) (by decide +kernel), h.ar 25 (by decide +kernel) (by decide +kernel), h.ar 26 (by decide +kernel) (by decide +kernel), h.ar 27 (by decide +kernel) (by decide +kernel)⟩⟩)
theorem st6_q {T : zT} (g : zStq T) : zTongue T 6 := g.elim (fun _ h => ⟨h.o 6 (by decide +kernel) (by decide +kernel), h.pt ⟨by decide, by decide +kernel⟩ (by decide +kernel), h.pt ⟨by decide, by decide +kernel⟩ (by decide +kernel), h.pt ⟨by decide, by decide +kernel⟩ (by decide +kernel), h.pt ⟨by decide, by decide +kernel⟩ (by decide +kernel), h.pt ⟨by decide, by decide +kernel⟩ (by decide +kernel), h.pt ⟨by decide, by decide +kernel⟩ (by decide +kernel), h.pt ⟨by decide, by decide +kernel⟩ (by decide +kernel), h.ar 7 (by decide +kernel) (by decide +kernel), h.ar 8 (by decide +kernel) (by decide +kernel), h.ar 9 (by decide +kernel) (by decide +kernel), h.ar 10 (by decide +kernel) (by decide +kernel), h.ar 11 (by decide +kernel) (by decide +kernel), h.ar 12 (by decide +kernel) (by decide +kernel), h.ar 13 (by decide +kernel) (by decide +kernel)⟩)
theorem st14_q {T : zT} (g : zStq T) : zTongue T 14 := g.elim (fun _ h => ⟨h.o 14 (by decide +kernel) (by decide +kernel), h.pt ⟨by decide, by decide +kernel⟩ (by decide +kernel), h.pt ⟨by decide, by decide +kernel⟩ (by decide +kernel), h.pt ⟨by decide, by decide +kernel⟩ (by decide +kernel), h.pt ⟨by decide, by decide +kernel⟩ (by decide +kernel), h.pt ⟨by decide, by decide +kernel⟩ (by decide +kernel), h.pt ⟨by decide, by decide +kernel⟩ (by decide +kernel), h.pt ⟨by decide, by decide +kernel⟩ (by decide +kernel), h.ar 15 (by decide +kernel) (by decide +kernel), h.ar 16 (by decide +kernel) (by decide +kernel), h.ar 17 (by decide +kernel) (by decide +kernel), h.ar 18 (by decide +kernel) (by decide +kernel), h.ar 19 (by decide +kernel) (by decide +kernel), h.ar 20 (by decide +kernel) (by decide +kernel), h.ar 21 (by decide +kernel) (by decide +kernel)⟩)
theorem st65_q {T : zT} (g : zStq T) : zPairT T 65 := g.elim (fun _ h => ⟨h.o 65 (by decide +kernel) (by decide +kernel), h.pt ⟨by decide, by decide +kernel⟩ (by decide +kernel), h.pt ⟨by decide, by decide +kernel⟩ (by decide +kernel), h.pt ⟨by decide, by decide +kernel⟩ (by decide +kernel), h.pt ⟨by decide, by decide +kernel⟩ (by decide +kernel), h.pt ⟨by decide, by decide +kernel⟩ (by decide +kernel), h.ar 66 (by decide +kernel) (by decide +kernel), h.ar 67 (by decide +kernel) (by decide +kernel), h.ar 68 (by decide +kernel) (by decide +kernel), h.ar 69 (by decide +kernel) (by decide +kernel), h.ar 70 (by decide +kernel) (by decide +kernel)⟩)
theorem b15_0_q {T : zT} {V : zM}  (hS : zStq T)  : ev 15 0 [(2, 0), (9, 0)] [] T V = (zcall 16 [(2, 59), (2, 1)] T V).bind fun x => ev 15 11 [(2, 0), (9, 0)] (z_push x.1 []) x.2.1 x.2.2 := by
  refine Eq.trans (ev_lda (show zcode 15 0 = some (6, 1, 0, 0, []) by decide +kernel) rfl (by decide)) ?_
  refine Eq.trans (ev_gq (show zcode 15 1 = some (56, 4, 11, 5, []) by decide +kernel) (so0_q hS) (sp0_5_q hS)) ?_
  refine Eq.trans (ev_lda (show zcode 15 4 = some (6, 5, 0, 0, []) by decide +kernel) rfl (by decide)) ?_
  refine Eq.trans (ev_gq (show zcode 15 5 = some (56, 8, 11, 0, []) by decide +kernel) (so0_q hS) (sp0_0_q hS)) ?_
  exact ev_cvirt (show zcode 15 8 = some (76, 11, 16, 2, [4]) by decide +kernel) (args := [(2, 1)]) (rest := []) rfl (so59_q hS) rfl (show 0 ≤ 8 by decide) ⟨by decide, show 2 ≤ 5 by decide⟩
theorem b15_11_q {T : zT} {V : zM}  (hS : zStq T)  : ev 15 11 [(2, 0), (9, 0)] [] T V = (zcall 20 [(2, 65)] T V).bind fun x => ev 15 18 [(2, 0), (9, 0)] (z_push x.1 []) x.2.1 x.2.2 := by
  refine Eq.trans (ev_lda (show zcode 15 11 = some (6, 12, 0, 0, []) by decide +kernel) rfl (by decide)) ?_
  refine Eq.trans (ev_gq (show zcode 15 12 = some (56, 15, 11, 6, []) by decide +kernel) (so0_q hS) (sp0_6_q hS)) ?_
  exact ev_cvirt (show zcode 15 15 = some (76, 18, 20, 1, [3]) by decide +kernel) (args := []) (rest := []) rfl (so65_q hS) rfl (show 0 ≤ 8 by decide) ⟨by decide, show 1 ≤ 2 by decide⟩
theorem b15_27_q {T : zT} {V : zM} {x1 : Int} (hS : zStq T)  : ev 15 27 [(2, 0), (0, x1)] [] T V = (zcall 21 [(2, 65), (2, 59), (0, x1), (0, 0)] T V).bind fun x => ev 15 40 [(2, 0), (0, x1)] (z_push x.1 []) x.2.1 x.2.2 := by
  refine Eq.trans (ev_lda (show zcode 15 27 = some (6, 28, 0, 0, []) by decide +kernel) rfl (by decide)) ?_
  refine Eq.trans (ev_gq (show zcode 15 28 = some (56, 31, 11, 6, []) by decide +kernel) (so0_q hS) (sp0_6_q hS)) ?_
  refine Eq.trans (ev_lda (show zcode 15 31 = some (6, 32, 0, 0, []) by decide +kernel) rfl (by decide)) ?_
  refine Eq.trans (ev_gq (show zcode 15 32 = some (56, 35, 11, 5, []) by decide +kernel) (so0_q hS) (sp0_5_q hS)) ?_
  refine Eq.trans (ev_ldi (show zcode 15 35 = some (4, 36, 1, 0, []) by decide +kernel) rfl) ?_
  refine Eq.trans (ev_ci (show zcode 15 36 = some (0, 37, 0, 0, []) by decide +kernel) (by decide)) ?_
  exact ev_cvirt (show zcode 15 37 = some (76, 40, 21, 4, [3]) by decide +kernel) (args := [(2, 59), (0, x1), (0, 0)]) (rest := []) rfl (so65_q hS) rfl (show 0 ≤ 8 by decide) ⟨by decide, show 4 ≤ 5 by decide⟩
theorem b15_46_q {T : zT} {V : zM} {x1 : Int} (hS : zStq T)  : ev 15 46 [(2, 0), (0, x1)] [] T V = some ((9, 0), T, (zwr V 0 14 0)) := by
  refine Eq.trans (ev_lda (show zcode 15 46 = some (6, 47, 0, 0, []) by decide +kernel) rfl (by decide)) ?_
  refine Eq.trans (ev_ci (show zcode 15 47 = some (0, 48, 0, 0, []) by decide +kernel) (by decide)) ?_
  refine Eq.trans (ev_pz (show zcode 15 48 = some (58, 51, 11, 14, []) by decide +kernel) (so0_q hS) (by decide)) ?_
  exact ev_rn (show zcode 15 51 = some (73, 52, 0, 0, []) by decide +kernel)
theorem b16_21_q {T : zT} {V : zM} {q1 : Int} {x2 : Int} {x3 : Int} {x4 : Int} (hS : zStq T) (h1 : -2147483648 ≤ (x3 + x4) ∧ (x3 + x4) ≤ 2147483647) (h2 : (0 : Int) ≤ x4 ∧ x4 < 128) (h3 : zState T q1) (h4 : (0 : Int) ≤ x2 ∧ x2 < 7) (h5 : -2147483648 ≤ ((V 62 x4) + (V (q1 + 4) x2)) ∧ ((V 62 x4) + (V (q1 + 4) x2)) ≤ 2147483647) (h6 : (0 : Int) ≤ (x3 + x4) ∧ (x3 + x4) < 128) (h7 : -2147483648 ≤ (((zwr (zwr V 62 (x3 + x4) ((V 62 x4) + (V (q1 + 4) x2))) 63 (x3 + x4) (x3 + x4)) (q1 + 3) x2) - 1) ∧ (((zwr (zwr V 62 (x3 + x4) ((V 62 x4) + (V (q1 + 4) x2))) 63 (x3 + x4) (x3 + x4)) (q1 + 3) x2) - 1) ≤ 2147483647) (h8 : (0 : Int) ≤ (((zwr (zwr V 62 (x3 + x4) ((V 62 x4) + (V (q1 + 4) x2))) 63 (x3 + x4) (x3 + x4)) (q1 + 3) x2) - 1) ∧ (((zwr (zwr V 62 (x3 + x4) ((V 62 x4) + (V (q1 + 4) x2))) 63 (x3 + x4) (x3 + x4)) (q1 + 3) x2) - 1) ≤ 30) (h9 : -2147483648 ≤ (x4 + 1) ∧ (x4 + 1) ≤ 2147483647) : ev 16 21 [(2, 59), (2, q1), (0, x2), (0, x3), (0, x4)] [] T V = ev 16 15 [(2, 59), (2, q1), (0, x2), (0, x3), (0, (x4 + 1))] [] T (zwr (zwr (zwr V 62 (x3 + x4) ((V 62 x4) + (V (q1 + 4) x2))) 63 (x3 + x4) (x3 + x4)) 64 (x3 + x4) (zor ((zwr (zwr V 62 (x3 + x4) ((V 62 x4) + (V (q1 + 4) x2))) 63 (x3 + x4) (x3 + x4)) 64 x4) ((2 : Int) ^ ((((zwr (zwr V 62 (x3 + x4) ((V 62 x4) + (V (q1 + 4) x2))) 63 (x3 + x4) (x3 + x4)) (q1 + 3) x2) - 1)).toNat))) := by
  refine Eq.trans (ev_lda (show zcode 16 21 = some (6, 22, 0, 0, []) by decide +kernel) rfl (by decide)) ?_
  refine Eq.trans (ev_gq (show zcode 16 22 = some (56, 25, 4, 2, []) by decide +kernel) (so59_q hS) (sp59_2_q hS)) ?_
  refine Eq.trans (ev_ldi (show zcode 16 25 = some (4, 26, 3, 0, []) by decide +kernel) rfl) ?_
  refine Eq.trans (ev_ldi (show zcode 16 26 = some (4, 28, 4, 0, []) by decide +kernel) rfl) ?_
  refine Eq.trans (ev_add (show zcode 16 28 = some (11, 29, 0, 0, []) by decide +kernel) h1) ?_
  refine Eq.trans (ev_lda (show zcode 16 29 = some (6, 30, 0, 0, []) by decide +kernel) rfl (by decide)) ?_
  refine Eq.trans (ev_gq (show zcode 16 30 = some (56, 33, 4, 2, []) by decide +kernel) (so59_q hS) (sp59_2_q hS)) ?_
  refine Eq.trans (ev_ldi (show zcode 16 33 = some (4, 35, 4, 0, []) by decide +kernel) rfl) ?_
  refine Eq.trans (ev_ia (show zcode 16 35 = some (60, 36, 0, 0, []) by decide +kernel) (sa62_q hS) h2) ?_
  refine Eq.trans (ev_lda (show zcode 16 36 = some (6, 37, 1, 0, []) by decide +kernel) rfl (by decide)) ?_
  refine Eq.trans (ev_gq (show zcode 16 37 = some (56, 40, 6, 4, []) by decide +kernel) h3.o h3.p4) ?_
  refine Eq.trans (ev_ldi (show zcode 16 40 = some (4, 41, 2, 0, []) by decide +kernel) rfl) ?_
  refine Eq.trans (ev_ia (show zcode 16 41 = some (60, 42, 0, 0, []) by decide +kernel) h3.a4 h4) ?_
  refine Eq.trans (ev_add (show zcode 16 42 = some (11, 43, 0, 0, []) by decide +kernel) h5) ?_
  refine Eq.trans (ev_is (show zcode 16 43 = some (64, 44, 0, 0, []) by decide +kernel) (sa62_q hS) h6) ?_
  refine Eq.trans (ev_lda (show zcode 16 44 = some (6, 45, 0, 0, []) by decide +kernel) rfl (by decide)) ?_
  refine Eq.trans (ev_gq (show zcode 16 45 = some (56, 48, 4, 3, []) by decide +kernel) (so59_q hS) (sp59_3_q hS)) ?_
  refine Eq.trans (ev_ldi (show zcode 16 48 = some (4, 49, 3, 0, []) by decide +kernel) rfl) ?_
  refine Eq.trans (ev_ldi (show zcode 16 49 = some (4, 51, 4, 0, []) by decide +kernel) rfl) ?_
  refine Eq.trans (ev_add (show zcode 16 51 = some (11, 52, 0, 0, []) by decide +kernel) h1) ?_
  refine Eq.trans (ev_ldi (show zcode 16 52 = some (4, 53, 3, 0, []) by decide +kernel) rfl) ?_
  refine Eq.trans (ev_ldi (show zcode 16 53 = some (4, 55, 4, 0, []) by decide +kernel) rfl) ?_
  refine Eq.trans (ev_add (show zcode 16 55 = some (11, 56, 0, 0, []) by decide +kernel) h1) ?_
  refine Eq.trans (ev_is (show zcode 16 56 = some (64, 57, 0, 0, []) by decide +kernel) (sa63_q hS) h6) ?_
  refine Eq.trans (ev_lda (show zcode 16 57 = some (6, 58, 0, 0, []) by decide +kernel) rfl (by decide)) ?_
  refine Eq.trans (ev_gq (show zcode 16 58 = some (56, 61, 4, 4, []) by decide +kernel) (so59_q hS) (sp59_4_q hS)) ?_
  refine Eq.trans (ev_ldi (show zcode 16 61 = some (4, 62, 3, 0, []) by decide +kernel) rfl) ?_
  refine Eq.trans (ev_ldi (show zcode 16 62 = some (4, 64, 4, 0, []) by decide +kernel) rfl) ?_
  refine Eq.trans (ev_add (show zcode 16 64 = some (11, 65, 0, 0, []) by decide +kernel) h1) ?_
  refine Eq.trans (ev_lda (show zcode 16 65 = some (6, 66, 0, 0, []) by decide +kernel) rfl (by decide)) ?_
  refine Eq.trans (ev_gq (show zcode 16 66 = some (56, 69, 4, 4, []) by decide +kernel) (so59_q hS) (sp59_4_q hS)) ?_
  refine Eq.trans (ev_ldi (show zcode 16 69 = some (4, 71, 4, 0, []) by decide +kernel) rfl) ?_
  refine Eq.trans (ev_ia (show zcode 16 71 = some (60, 72, 0, 0, []) by decide +kernel) (sa64_q hS) h2) ?_
  refine Eq.trans (ev_ci (show zcode 16 72 = some (0, 73, 0, 1, []) by decide +kernel) (by decide)) ?_
  refine Eq.trans (ev_lda (show zcode 16 73 = some (6, 74, 1, 0, []) by decide +kernel) rfl (by decide)) ?_
  refine Eq.trans (ev_gq (show zcode 16 74 = some (56, 77, 6, 3, []) by decide +kernel) h3.o h3.p3) ?_
  refine Eq.trans (ev_ldi (show zcode 16 77 = some (4, 78, 2, 0, []) by decide +kernel) rfl) ?_
  refine Eq.trans (ev_ia (show zcode 16 78 = some (60, 79, 0, 0, []) by decide +kernel) h3.a3 h4) ?_
  refine Eq.trans (ev_ci (show zcode 16 79 = some (0, 80, 0, 1, []) by decide +kernel) (by decide)) ?_
  refine Eq.trans (ev_sub (show zcode 16 80 = some (12, 81, 0, 0, []) by decide +kernel) h7) ?_
  refine Eq.trans (ev_shl1 (show zcode 16 81 = some (20, 82, 0, 0, []) by decide +kernel) h8) ?_
  refine Eq.trans (ev_or (show zcode 16 82 = some (15, 83, 0, 0, []) by decide +kernel)) ?_
  refine Eq.trans (ev_is (show zcode 16 83 = some (64, 84, 0, 0, []) by decide +kernel) (sa64_q hS) h6) ?_
  refine Eq.trans (ev_inc (show zcode 16 84 = some (10, 87, 4, 1, []) by decide +kernel) rfl h9 (Or.inr (show ¬ (0 : Nat) = 1 by decide))) ?_
  exact ev_goto (show zcode 16 87 = some (53, 90, 15, 0, []) by decide +kernel)
theorem b16_96_q {T : zT} {V : zM} {q1 : Int} {x2 : Int} {v3 : zV} {v4 : zV} (hS : zStq T) (h1 : zState T q1) : ev 16 96 [(2, 59), (2, q1), (0, x2), v3, v4] [] T V = (zcall 17 [(2, (q1 + 5)), (2, 63), (2, 60)] T V).bind fun x => ev 16 111 [(2, 59), (2, q1), (0, x2), v3, v4] (z_push x.1 []) x.2.1 x.2.2 := by
  refine Eq.trans (ev_lda (show zcode 16 96 = some (6, 97, 1, 0, []) by decide +kernel) rfl (by decide)) ?_
  refine Eq.trans (ev_gq (show zcode 16 97 = some (56, 100, 6, 5, []) by decide +kernel) h1.o h1.p5) ?_
  refine Eq.trans (ev_lda (show zcode 16 100 = some (6, 101, 0, 0, []) by decide +kernel) rfl (by decide)) ?_
  refine Eq.trans (ev_gq (show zcode 16 101 = some (56, 104, 4, 3, []) by decide +kernel) (so59_q hS) (sp59_3_q hS)) ?_
  refine Eq.trans (ev_lda (show zcode 16 104 = some (6, 105, 0, 0, []) by decide +kernel) rfl (by decide)) ?_
  refine Eq.trans (ev_gq (show zcode 16 105 = some (56, 108, 4, 0, []) by decide +kernel) (so59_q hS) (sp59_0_q hS)) ?_
  exact ev_cstat (show zcode 16 108 = some (74, 111, 17, 3, []) by decide +kernel) (args := [(2, (q1 + 5)), (2, 63), (2, 60)]) (rest := []) rfl rfl (show 0 ≤ 8 by decide) ⟨by decide, show 3 ≤ 7 by decide⟩
theorem b16_111_q {T : zT} {V : zM} {q1 : Int} {x2 : Int} {v3 : zV} {v4 : zV} (hS : zStq T) (h1 : zState T q1) : ev 16 111 [(2, 59), (2, q1), (0, x2), v3, v4] [] T V = (zcall 17 [(2, (q1 + 13)), (2, 64), (2, 61)] T V).bind fun x => ev 16 126 [(2, 59), (2, q1), (0, x2), v3, v4] (z_push x.1 []) x.2.1 x.2.2 := by
  refine Eq.trans (ev_lda (show zcode 16 111 = some (6, 112, 1, 0, []) by decide +kernel) rfl (by decide)) ?_
  refine Eq.trans (ev_gq (show zcode 16 112 = some (56, 115, 6, 6, []) by decide +kernel) h1.o h1.p6) ?_
  refine Eq.trans (ev_lda (show zcode 16 115 = some (6, 116, 0, 0, []) by decide +kernel) rfl (by decide)) ?_
  refine Eq.trans (ev_gq (show zcode 16 116 = some (56, 119, 4, 4, []) by decide +kernel) (so59_q hS) (sp59_4_q hS)) ?_
  refine Eq.trans (ev_lda (show zcode 16 119 = some (6, 120, 0, 0, []) by decide +kernel) rfl (by decide)) ?_
  refine Eq.trans (ev_gq (show zcode 16 120 = some (56, 123, 4, 1, []) by decide +kernel) (so59_q hS) (sp59_1_q hS)) ?_
  exact ev_cstat (show zcode 16 123 = some (74, 126, 17, 3, []) by decide +kernel) (args := [(2, (q1 + 13)), (2, 64), (2, 61)]) (rest := []) rfl rfl (show 0 ≤ 8 by decide) ⟨by decide, show 3 ≤ 7 by decide⟩
theorem b21_0_q {T : zT} {V : zM} {q0 : Int} {x2 : Int} {x3 : Int} (hS : zStq T) (h1 : (0 : Int) ≤ x2 ∧ x2 < 128) : ev 21 0 [(2, q0), (2, 59), (0, x2), (0, x3), (9, 0)] [] T V = (zcall 22 [(0, (V 60 x2)), (0, (V 61 x2))] T V).bind fun x => ev 21 15 [(2, q0), (2, 59), (0, x2), (0, x3), (9, 0)] (z_push x.1 []) x.2.1 x.2.2 := by
  refine Eq.trans (ev_lda (show zcode 21 0 = some (6, 1, 1, 0, []) by decide +kernel) rfl (by decide)) ?_
  refine Eq.trans (ev_gq (show zcode 21 1 = some (56, 4, 4, 0, []) by decide +kernel) (so59_q hS) (sp59_0_q hS)) ?_
  refine Eq.trans (ev_ldi (show zcode 21 4 = some (4, 5, 2, 0, []) by decide +kernel) rfl) ?_
  refine Eq.trans (ev_ia (show zcode 21 5 = some (60, 6, 0, 0, []) by decide +kernel) (sa60_q hS) h1) ?_
  refine Eq.trans (ev_lda (show zcode 21 6 = some (6, 7, 1, 0, []) by decide +kernel) rfl (by decide)) ?_
  refine Eq.trans (ev_gq (show zcode 21 7 = some (56, 10, 4, 1, []) by decide +kernel) (so59_q hS) (sp59_1_q hS)) ?_
  refine Eq.trans (ev_ldi (show zcode 21 10 = some (4, 11, 2, 0, []) by decide +kernel) rfl) ?_
  refine Eq.trans (ev_ia (show zcode 21 11 = some (60, 12, 0, 0, []) by decide +kernel) (sa61_q hS) h1) ?_
  exact ev_cstat (show zcode 21 12 = some (74, 15, 22, 2, []) by decide +kernel) (args := [(0, (V 60 x2)), (0, (V 61 x2))]) (rest := []) rfl rfl (show 0 ≤ 8 by decide) ⟨by decide, show 2 ≤ 2 by decide⟩
theorem b21_76_q {T : zT} {V : zM} {q0 : Int} {x2 : Int} {x3 : Int} {x4 : Int} (hS : zStq T) (h1 : zPairT T q0) (h2 : (0 : Int) ≤ x4 ∧ x4 < 729) (h3 : -2147483648 ≤ ((V (q0 + 1) x4) + 1) ∧ ((V (q0 + 1) x4) + 1) ≤ 2147483647) (h4 : (0 : Int) ≤ x2 ∧ x2 < 128) : ev 21 76 [(2, q0), (2, 59), (0, x2), (0, x3), (0, x4)] [] T V = if ((zwr (zwr V (q0 + 1) x4 ((V (q0 + 1) x4) + 1)) (q0 + 4) x4 (zor ((zwr V (q0 + 1) x4 ((V (q0 + 1) x4) + 1)) (q0 + 4) x4) x3)) (q0 + 3) x4) ≤ ((zwr (zwr V (q0 + 1) x4 ((V (q0 + 1) x4) + 1)) (q0 + 4) x4 (zor ((zwr V (q0 + 1) x4 ((V (q0 + 1) x4) + 1)) (q0 + 4) x4) x3)) 62 x2) then ev 21 135 [(2, q0), (2, 59), (0, x2), (0, x3), (0, x4)] [] T (zwr (zwr V (q0 + 1) x4 ((V (q0 + 1) x4) + 1)) (q0 + 4) x4 (zor ((zwr V (q0 + 1) x4 ((V (q0 + 1) x4) + 1)) (q0 + 4) x4) x3)) else ev 21 114 [(2, q0), (2, 59), (0, x2), (0, x3), (0, x4)] [] T (zwr (zwr V (q0 + 1) x4 ((V (q0 + 1) x4) + 1)) (q0 + 4) x4 (zor ((zwr V (q0 + 1) x4 ((V (q0 + 1) x4) + 1)) (q0 + 4) x4) x3)) := by
  refine Eq.trans (ev_lda (show zcode 21 76 = some (6, 77, 0, 0, []) by decide +kernel) rfl (by decide)) ?_
  refine Eq.trans (ev_gq (show zcode 21 77 = some (56, 80, 3, 0, []) by decide +kernel) h1.o h1.p0) ?_
  refine Eq.trans (ev_ldi (show zcode 21 80 = some (4, 82, 4, 0, []) by decide +kernel) rfl) ?_
  refine Eq.trans (ev_dup2 (show zcode 21 82 = some (38, 83, 0, 0, []) by decide +kernel) (by decide)) ?_
  refine Eq.trans (ev_ia (show zcode 21 83 = some (60, 84, 0, 0, []) by decide +kernel) h1.a1 h2) ?_
  refine Eq.trans (ev_ci (show zcode 21 84 = some (0, 85, 0, 1, []) by decide +kernel) (by decide)) ?_
  refine Eq.trans (ev_add (show zcode 21 85 = some (11, 86, 0, 0, []) by decide +kernel) h3) ?_
  refine Eq.trans (ev_is (show zcode 21 86 = some (64, 87, 0, 0, []) by decide +kernel) h1.a1 h2) ?_
  refine Eq.trans (ev_lda (show zcode 21 87 = some (6, 88, 0, 0, []) by decide +kernel) rfl (by decide)) ?_
  refine Eq.trans (ev_gq (show zcode 21 88 = some (56, 91, 3, 3, []) by decide +kernel) h1.o h1.p3) ?_
  refine Eq.trans (ev_ldi (show zcode 21 91 = some (4, 93, 4, 0, []) by decide +kernel) rfl) ?_
  refine Eq.trans (ev_dup2 (show zcode 21 93 = some (38, 94, 0, 0, []) by decide +kernel) (by decide)) ?_
  refine Eq.trans (ev_ia (show zcode 21 94 = some (60, 95, 0, 0, []) by decide +kernel) h1.a4 h2) ?_
  refine Eq.trans (ev_ldi (show zcode 21 95 = some (4, 96, 3, 0, []) by decide +kernel) rfl) ?_
  refine Eq.trans (ev_or (show zcode 21 96 = some (15, 97, 0, 0, []) by decide +kernel)) ?_
  refine Eq.trans (ev_is (show zcode 21 97 = some (64, 98, 0, 0, []) by decide +kernel) h1.a4 h2) ?_
  refine Eq.trans (ev_lda (show zcode 21 98 = some (6, 99, 1, 0, []) by decide +kernel) rfl (by decide)) ?_
  refine Eq.trans (ev_gq (show zcode 21 99 = some (56, 102, 4, 2, []) by decide +kernel) (so59_q hS) (sp59_2_q hS)) ?_
  refine Eq.trans (ev_ldi (show zcode 21 102 = some (4, 103, 2, 0, []) by decide +kernel) rfl) ?_
  refine Eq.trans (ev_ia (show zcode 21 103 = some (60, 104, 0, 0, []) by decide +kernel) (sa62_q hS) h4) ?_
  refine Eq.trans (ev_lda (show zcode 21 104 = some (6, 105, 0, 0, []) by decide +kernel) rfl (by decide)) ?_
  refine Eq.trans (ev_gq (show zcode 21 105 = some (56, 108, 3, 2, []) by decide +kernel) h1.o h1.p2) ?_
  refine Eq.trans (ev_ldi (show zcode 21 108 = some (4, 110, 4, 0, []) by decide +kernel) rfl) ?_
  refine Eq.trans (ev_ia (show zcode 21 110 = some (60, 111, 0, 0, []) by decide +kernel) h1.a3 h2) ?_
  exact ev_cge (show zcode 21 111 = some (49, 114, 135, 0, []) by decide +kernel)
theorem b21_114_q {T : zT} {V : zM} {q0 : Int} {x2 : Int} {x3 : Int} {x4 : Int} (hS : zStq T) (h1 : zPairT T q0) (h2 : (0 : Int) ≤ x2 ∧ x2 < 128) (h3 : (0 : Int) ≤ x4 ∧ x4 < 729) : ev 21 114 [(2, q0), (2, 59), (0, x2), (0, x3), (0, x4)] [] T V = ev 21 135 [(2, q0), (2, 59), (0, x2), (0, x3), (0, x4)] [] T (zwr (zwr V (q0 + 3) x4 (V 62 x2)) (q0 + 2) x4 x2) := by
  refine Eq.trans (ev_lda (show zcode 21 114 = some (6, 115, 0, 0, []) by decide +kernel) rfl (by decide)) ?_
  refine Eq.trans (ev_gq (show zcode 21 115 = some (56, 118, 3, 2, []) by decide +kernel) h1.o h1.p2) ?_
  refine Eq.trans (ev_ldi (show zcode 21 118 = some (4, 120, 4, 0, []) by decide +kernel) rfl) ?_
  refine Eq.trans (ev_lda (show zcode 21 120 = some (6, 121, 1, 0, []) by decide +kernel) rfl (by decide)) ?_
  refine Eq.trans (ev_gq (show zcode 21 121 = some (56, 124, 4, 2, []) by decide +kernel) (so59_q hS) (sp59_2_q hS)) ?_
  refine Eq.trans (ev_ldi (show zcode 21 124 = some (4, 125, 2, 0, []) by decide +kernel) rfl) ?_
  refine Eq.trans (ev_ia (show zcode 21 125 = some (60, 126, 0, 0, []) by decide +kernel) (sa62_q hS) h2) ?_
  refine Eq.trans (ev_is (show zcode 21 126 = some (64, 127, 0, 0, []) by decide +kernel) h1.a3 h3) ?_
  refine Eq.trans (ev_lda (show zcode 21 127 = some (6, 128, 0, 0, []) by decide +kernel) rfl (by decide)) ?_
  refine Eq.trans (ev_gq (show zcode 21 128 = some (56, 131, 3, 1, []) by decide +kernel) h1.o h1.p1) ?_
  refine Eq.trans (ev_ldi (show zcode 21 131 = some (4, 133, 4, 0, []) by decide +kernel) rfl) ?_
  refine Eq.trans (ev_ldi (show zcode 21 133 = some (4, 134, 2, 0, []) by decide +kernel) rfl) ?_
  exact ev_is (show zcode 21 134 = some (64, 135, 0, 0, []) by decide +kernel) h1.a2 h3
section READQ
variable {T : zT} {V : zM}
theorem c16_q {K : Int → Int} (hS : zStq T) (hR : zSR V 1 K) (hK : zKok K) (h0 : V 62 0 = 0 ∧ V 63 0 = 0 ∧ V 64 0 = 0) : zwp (zcall 16 [(2, 59), (2, 1)] T V) fun r T' V' => r = (9, 0) ∧ T' = T ∧ (∀ r, r < 60 ∨ 64 < r → V' r = V r) ∧ zRd V' K := by
  have hc := hK.cok
  have body : ∀ (W : zM) (v3 v4 : zV), ((∀ r, r < 62 ∨ 64 < r → W r = V r) ∧ ∀ s, 0 ≤ s → s < 2 ^ (0 : Int).toNat → W 62 s = zcst K s ∧ W 63 s = s ∧ W 64 s = zseen K s 7) → zwp (ev 16 2 [(2, 59), (2, 1), (0, 0), v3, v4] [] T W) fun r T' V' => r = (9, 0) ∧ T' = T ∧ (∀ r, r < 60 ∨ 64 < r → V' r = V r) ∧ zRd V' K := by
    intro W v3 v4 hW
    refine zup (α := zM × zV × zV) (fun i a => (∀ r, r < 62 ∨ 64 < r → a.1 r = V r) ∧ ∀ s, 0 ≤ s → s < 2 ^ i.toNat → a.1 62 s = zcst K s ∧ a.1 63 s = s ∧ a.1 64 s = zseen K s 7) (fun i a => zwp (ev 16 2 [(2, 59), (2, 1), (0, i), a.2.1, a.2.2] [] T a.1) fun r T' V' => r = (9, 0) ∧ T' = T ∧ (∀ r, r < 60 ∨ 64 < r → V' r = V r) ∧ zRd V' K) (lo := 0) (hi := 7) (by decide) ?_ ?_ (W, v3, v4) hW
    · intro a ha
      show zwp (ev 16 2 _ _ _ _) _
      have e7 : (2 : Int) ^ (7 : Int).toNat = 128 := by decide
      rw [e7] at ha
      rw [b16_2, if_pos (by decide), b16_96_q hS (st1_q hS)]
      have s1 := hR.east
      have s2 := hR.west
      have t1 : zTg a.1 (1 + 5) K 0 := zTg_congr (fun d g1 g2 => ha.1 _ (by omega)) s1
      refine zwp_seq (c17 (st6_q hS) (sa63_q hS) (sa60_q hS) (by decide) t1 hK (by decide) (fun s g1 g2 => (ha.2 s g1 g2).2.1)) ?_
      rintro r T1 V1 ⟨rfl, rfl, k1, k2⟩
      simp only [zpush9]
      rw [b16_111_q hS (st1_q hS)]
      have t2 : zTg V1 (1 + 13) K 1 := zTg_congr (fun d g1 g2 => by rw [k1 _ (by omega), ha.1 _ (by omega)]) s2
      refine zwp_seq (c17 (st14_q hS) (sa64_q hS) (sa61_q hS) (by decide) t2 hK (by decide) (fun s g1 g2 => by rw [k1 64 (by decide)]; exact (ha.2 s g1 g2).2.2)) ?_
      rintro r T2 V2 ⟨rfl, rfl, l1, l2⟩
      simp only [zpush9]
      rw [b16_126]
      refine zwp_ret ⟨rfl, rfl, fun r hr => by rw [l1 r (by omega), k1 r (by omega), ha.1 r (by omega)], fun s g1 g2 => ⟨?_, l2 s g1 g2, ?_⟩, ?_, ?_⟩
      · rw [l1 60 (by decide)]; exact k2 s g1 g2
      · rw [l1 62 (by decide), k1 62 (by decide)]; exact (ha.2 s g1 g2).1
      · rw [l1 63 (by decide), k1 63 (by decide)]; exact (ha.2 0 (by decide) (by decide)).2.1
      · rw [l1 64 (by decide), k1 64 (by decide), (ha.2 0 (by decide) (by decide)).2.2, zseen_0]
    · intro i a i1 i2 ha next
      show zwp (ev 16 2 _ _ _ _) _
      rw [b16_2, if_neg (by omega), b16_8 (by omega)]
      have hp : (2 : Int) ^ i.toNat ≤ 64 ∧ 1 ≤ (2 : Int) ^ i.toNat := by
        have : i = 0 ∨ i = 1 ∨ i = 2 ∨ i = 3 ∨ i = 4 ∨ i = 5 ∨ i = 6 := by omega
        rcases this with e | e | e | e | e | e | e <;> subst e <;> decide
      have ei : ((i.toNat : Nat) : Int) = i := Int.toNat_of_nonneg i1
      have hm := hR.mir i1 i2
      have hk := hK.mir i1 i2
      have inner := zup (α := zM) (fun j W => (∀ r, r < 62 ∨ 64 < r → W r = V r) ∧ ∀ s, 0 ≤ s → s < 2 ^ i.toNat + j → W 62 s = zcst K s ∧ W 63 s = s ∧ W 64 s = zseen K s 7) (fun j W => zwp (ev 16 15 [(2, 59), (2, 1), (0, i), (0, 2 ^ i.toNat), (0, j)] [] T W) fun r T' V' => r = (9, 0) ∧ T' = T ∧ (∀ r, r < 60 ∨ 64 < r → V' r = V r) ∧ zRd V' K) (lo := 0) (hi := 2 ^ i.toNat) (by omega) (by
        intro W hW
        show zwp (ev 16 15 _ _ _ _) _
        rw [b16_15, if_pos (by omega), b16_90 (by omega)]
        exact next (W, (0, 2 ^ i.toNat), (0, 2 ^ i.toNat)) ⟨hW.1, fun s s1 s2 => hW.2 s s1 (by
          rw [show (i + 1).toNat = i.toNat + 1 by omega, Int.pow_succ] at s2
          omega)⟩) (by
        intro j W j1 j2 hW next2
        show zwp (ev 16 15 _ _ _ _) _
        obtain ⟨w1, w2, w3⟩ := hW.2 j j1 (by omega)
        have c1 := zcst_r hc j
        have e5 : W (1 + 4) i = K (293 + i) := by rw [hW.1 _ (by omega)]; exact hm.2
        have e4 : ∀ x y, zwr (zwr W 62 (2 ^ i.toNat + j) x) 63 (2 ^ i.toNat + j) y (1 + 3) i = K (286 + i) + 1 := fun x y => by
          rw [zwr_ne (by decide), zwr_ne (by decide), hW.1 _ (by omega)]; exact hm.1
        have e64 : ∀ x y, zwr (zwr W 62 (2 ^ i.toNat + j) x) 63 (2 ^ i.toNat + j) y 64 j = zseen K j 7 := fun x y => by
          rw [zwr_ne (by decide), zwr_ne (by decide)]; exact w3
        rw [b16_15, if_neg (by omega), b16_21_q hS (by omega) (by omega) (st1_q hS) (by omega) (by rw [w1, e5]; omega) (by omega) (by rw [e4]; omega) (by rw [e4]; omega) (by omega), e4, e64, w1, e5, show K (286 + i) + 1 - 1 = K (286 + i) by omega]
        have q1 := zcst_bit (K := K) (s := j) (i := i.toNat) (by omega) j1 j2
        have q2 := zseen_bit (K := K) (s := j) (i := i.toNat) (by omega) j1 j2
        rw [ei] at q1 q2
        rw [← q1, ← q2]
        refine next2 _ ⟨fun r hr => by rw [zwr_ne (by omega), zwr_ne (by omega), zwr_ne (by omega)]; exact hW.1 r hr, fun s s1 s2 => ?_⟩
        by_cases e : s = 2 ^ i.toNat + j
        · rw [zwr_ne (r := 62) (by decide), zwr_ne (r := 62) (by decide), zwr_same, if_pos e, zwr_ne (r := 63) (by decide), zwr_same, if_pos e, zwr_same, if_pos e]
          exact ⟨by rw [e], e.symm, by rw [e]⟩
        · rw [zwr_ne (r := 62) (by decide), zwr_ne (r := 62) (by decide), zwr_same, if_neg e, zwr_ne (r := 63) (by decide), zwr_same, if_neg e, zwr_same, if_neg e, zwr_ne (by decide), zwr_ne (by decide), zwr_ne (by decide)]
          exact hW.2 s s1 (by omega))
      exact inner a.1 ⟨ha.1, fun s s1 s2 => ha.2 s s1 (by omega)⟩
  rw [e16, b16_0]
  refine body V _ _ ⟨fun r _ => rfl, fun s s1 s2 => ?_⟩
  have e : s = 0 := by
    have : (2 : Int) ^ (0 : Int).toNat = 1 := by decide
    omega
  subst e
  exact ⟨by rw [h0.1, zcst_0], h0.2.1, by rw [h0.2.2, zseen_0]⟩
end READQ
section PAIRQ
variable {T : zT} {V V' : zM} {b : Int} {K : Int → Int} {A : Int → Prop} {mk : Int → Int}
theorem c21_q {s0 : Int} (hS : zStq T) (h : zPairT T b) (hb : b = 65 ∨ b = 71) (hR : zRd V K) (hc : zcok K) (hP : zPT V b K A mk) (hs : 0 ≤ s0 ∧ s0 < 128) (hA : ∀ s, A s → s < s0) (hm : 0 ≤ mk s0 ∧ mk s0 < 16384) : zwp (zcall 21 [(2, b), (2, 59), (0, s0), (0, mk s0)] T V) fun r T' V' => r = (9, 0) ∧ T' = T ∧ (∀ r, r < b ∨ b + 5 < r → V' r = V r) ∧ zPT V' b K (fun s => A s ∨ s = s0) mk := by
  obtain ⟨r1, r2, r3⟩ := hR.1 s0 hs.1 hs.2
  have k0 := zsgn_r K 0 s0
  have k1 := zsgn_r K 1 s0
  have hcs := zcst_r hc s0
  have hp : zpr K s0 = zsgn K 0 s0 * 27 + zsgn K 1 s0 := rfl
  have hp0 : 0 ≤ zpr K s0 ∧ zpr K s0 < 729 := by omega
  have hP' := hP
  obtain ⟨⟨l1, l2, l3⟩, g1, g2, g3, g4, g5, g6⟩ := hP
  have hns : ¬ A s0 := fun q => by have := hA s0 q; omega
  have hcc : zcnt (fun s => A s ∨ s = s0) 128 = zcnt A 128 + 1 := zcnt_add (p := A) (by omega) hns (fun s => Iff.rfl)
  have hcr := zcnt_r (fun s => A s ∨ s = s0) 128
  have hw4 := g4 (zpr K s0) hp0.1 hp0.2
  have hwr := zcnt_r (fun s => A s ∧ zpr K s = zpr K s0) 128
  rw [e21, b21_0_q hS hs, r1, r2, c22 (by omega) (by omega)]
  simp only [Option.bind_some, zpush0]
  rw [← hp]
  generalize hP0 : zpr K s0 = p0 at *
  rw [b21_15 h hp0]
  by_cases z : V (b + 1) p0 = 0
  · rw [if_pos z, b21_27 h, if_pos (by omega)]
    have n5 : zwr V (b + 5) (V b 5) p0 b 5 = V b 5 := by rw [zwr_ne (by omega)]
    rw [b21_38 h (by omega) (by rw [n5]; omega) hp0, n5]
    generalize hW : zwr (zwr (zwr (zwr V (b + 5) (V b 5) p0) b 5 (V b 5 + 1)) (b + 3) p0 1000000) (b + 4) p0 0 = W
    have W1 : W (b + 1) = V (b + 1) := by rw [← hW, zwr_ne (by omega), zwr_ne (by omega), zwr_ne (by omega), zwr_ne (by omega)]
    have W2 : W (b + 2) = V (b + 2) := by rw [← hW, zwr_ne (by omega), zwr_ne (by omega), zwr_ne (by omega), zwr_ne (by omega)]
    have W3 : ∀ p, W (b + 3) p = if p = p0 then 1000000 else V (b + 3) p := fun p => by rw [← hW, zwr_ne (by omega), zwr_same, zwr_ne (by omega), zwr_ne (by omega)]
    have W4 : ∀ p, W (b + 4) p = if p = p0 then 0 else V (b + 4) p := fun p => by rw [← hW, zwr_same, zwr_ne (by omega), zwr_ne (by omega), zwr_ne (by omega)]
    have W5 : ∀ i, W (b + 5) i = if i = V b 5 then p0 else V (b + 5) i := fun p => by rw [← hW, zwr_ne (by omega), zwr_ne (by omega), zwr_ne (by omega), zwr_same]
    have W0 : W b 5 = V b 5 + 1 := by rw [← hW, zwr_ne (by omega), zwr_ne (by omega), zwr_same, if_pos rfl]
    have Wr : ∀ r, r < b ∨ b + 5 < r → W r = V r := fun r hr => by rw [← hW, zwr_ne (by omega), zwr_ne (by omega), zwr_ne (by omega), zwr_ne (by omega)]
    have q4 : ∀ x, zwr W (b + 1) p0 x (b + 4) p0 = 0 := fun x => by rw [zwr_ne (by omega), W4, if_pos rfl]
    rw [b21_76_q hS h hp0 (by rw [W1]; omega) hs, q4, W1, z]
    have q3 : ∀ x y, zwr (zwr W (b + 1) p0 x) (b + 4) p0 y (b + 3) p0 = 1000000 := fun x y => by rw [zwr_ne (by omega), zwr_ne (by omega), W3, if_pos rfl]
    have q62 : ∀ x y, zwr (zwr W (b + 1) p0 x) (b + 4) p0 y 62 s0 = zcst K s0 := fun x y => by rw [zwr_ne (by omega), zwr_ne (by omega), Wr 62 (by omega), r3]
    rw [q3, q62, if_neg (by omega), b21_114_q hS h hs hp0, q62, b21_135]
    refine zwp_ret ⟨rfl, rfl, fun r hr => by rw [zwr_ne (by omega), zwr_ne (by omega), zwr_ne (by omega), zwr_ne (by omega), Wr r hr], ?_⟩
    refine zPT_new hP' hs hA hP0 hp0 hm z ?_ ?_ ?_ ?_ ?_ ?_
    · rw [zwr_ne (by omega), zwr_ne (by omega), zwr_ne (by omega), zwr_ne (by omega), W0]
    · intro i; rw [zwr_ne (by omega), zwr_ne (by omega), zwr_ne (by omega), zwr_ne (by omega), W5]
    · intro p; rw [zwr_ne (by omega), zwr_ne (by omega), zwr_ne (by omega), zwr_same, W1]; rfl
    · intro p; rw [zwr_ne (by omega), zwr_ne (by omega), zwr_same, zwr_ne (by omega), W4]
      split <;> rfl
    · intro p; rw [zwr_same, zwr_ne (by omega), zwr_ne (by omega), zwr_ne (by omega), W2]
    · intro p; rw [zwr_ne (by omega), zwr_same, zwr_ne (by omega), zwr_ne (by omega), W3]
      split <;> rfl
  · rw [if_neg z]
    have q4 : ∀ x, zwr V (b + 1) p0 x (b + 4) p0 = V (b + 4) p0 := fun x => by rw [zwr_ne (by omega)]
    rw [b21_76_q hS h hp0 (by omega) hs, q4]
    have q3 : ∀ x y, zwr (zwr V (b + 1) p0 x) (b + 4) p0 y (b + 3) p0 = V (b + 3) p0 := fun x y => by rw [zwr_ne (by omega), zwr_ne (by omega)]
    have q62 : ∀ x y, zwr (zwr V (b + 1) p0 x) (b + 4) p0 y 62 s0 = zcst K s0 := fun x y => by rw [zwr_ne (by omega), zwr_ne (by omega), r3]
    rw [q3, q62]
    by_cases c : V (b + 3) p0 ≤ zcst K s0
    · rw [if_pos c, b21_135]
      refine zwp_ret ⟨rfl, rfl, fun r hr => by rw [zwr_ne (by omega), zwr_ne (by omega)], ?_⟩
      refine zPT_old hP' hs hA hP0 hp0 hm (by omega) ?_ ?_ ?_ ?_ ?_ ?_
      · rw [zwr_ne (by omega), zwr_ne (by omega)]
      · intro i; rw [zwr_ne (by omega), zwr_ne (by omega)]
      · intro p; rw [zwr_ne (by omega), zwr_same]
      · intro p; rw [zwr_same, zwr_ne (by omega)]
      · intro p; rw [zwr_ne (by omega), zwr_ne (by omega), if_neg (by omega)]
      · intro p; rw [zwr_ne (by omega), zwr_ne (by omega), if_neg (by omega)]
    · rw [if_neg c, b21_114_q hS h hs hp0, q62, b21_135]
      refine zwp_ret ⟨rfl, rfl, fun r hr => by rw [zwr_ne (by omega), zwr_ne (by omega), zwr_ne (by omega), zwr_ne (by omega)], ?_⟩
      refine zPT_old hP' hs hA hP0 hp0 hm (by omega) ?_ ?_ ?_ ?_ ?_ ?_
      · rw [zwr_ne (by omega), zwr_ne (by omega), zwr_ne (by omega), zwr_ne (by omega)]
      · intro i; rw [zwr_ne (by omega), zwr_ne (by omega), zwr_ne (by omega), zwr_ne (by omega)]
      · intro p; rw [zwr_ne (by omega), zwr_ne (by omega), zwr_ne (by omega), zwr_same]
      · intro p; rw [zwr_ne (by omega), zwr_ne (by omega), zwr_same, zwr_ne (by omega)]
      · intro p; rw [zwr_same, zwr_ne (by omega), zwr_ne (by omega), zwr_ne (by omega)]
        by_cases e : p = p0
        · rw [if_pos e, if_pos ⟨e, by omega⟩]
        · rw [if_neg e, if_neg (fun q => e q.1)]
      · intro p; rw [zwr_ne (by omega), zwr_same, zwr_ne (by omega), zwr_ne (by omega)]
        by_cases e : p = p0
        · rw [if_pos e, if_pos ⟨e, by omega⟩]
        · rw [if_neg e, if_neg (fun q => e q.1)]
theorem c15_q (hS : zStq T) (hR : zSR V 1 K) (hK : zKok K) (h0 : V 62 0 = 0 ∧ V 63 0 = 0 ∧ V 64 0 = 0) (hl : zPL V 65) : zwp (zcall 15 [(2, 0)] T V) fun r T' V' => r = (9, 0) ∧ T' = T ∧ (∀ r, r < 60 ∨ 70 < r → r ≠ 0 → V' r = V r) ∧ (∀ j, j ≠ 14 → V' 0 j = V 0 j) ∧ V' 0 14 = 0 ∧ zRd V' K ∧ zPT V' 65 K (fun _ => True) (fun _ => 0) := by
  have hc := hK.cok
  rw [e15, b15_0_q hS]
  refine zwp_seq (c16_q hS hR hK h0) ?_
  rintro r T1 V1 ⟨rfl, rfl, a1, a2⟩
  simp only [zpush9]
  rw [b15_11_q hS]
  have hl1 : zPL V1 65 := zPL_congr (fun d g1 g2 => a1 _ (by omega)) hl
  refine zwp_seq (c20 (st65_q hS) hl1) ?_
  rintro r T2 V2 ⟨rfl, rfl, c1, c2, c3, c4⟩
  simp only [zpush9]
  rw [b15_18]
  have rd2 : zRd V2 K := zRd_congr (fun r g1 g2 => c1 r (by omega) (by omega)) a2
  refine zup (α := zM) (fun i W => (∀ r, r < 65 ∨ 70 < r → W r = V1 r) ∧ zPT W 65 K (fun s => s < i ∧ 0 ≤ s) (fun _ => 0)) (fun i W => zwp (ev 15 20 [(2, 0), (0, i)] [] T2 W) fun r T' V' => r = (9, 0) ∧ T' = T2 ∧ (∀ r, r < 60 ∨ 70 < r → r ≠ 0 → V' r = V r) ∧ (∀ j, j ≠ 14 → V' 0 j = V 0 j) ∧ V' 0 14 = 0 ∧ zRd V' K ∧ zPT V' 65 K (fun _ => True) (fun _ => 0)) (lo := 0) (hi := 128) (by decide) ?_ ?_ V2 ⟨fun r hr => c1 r (by omega) (by omega), zPT_cl c3 c4 (fun s q => by omega)⟩
  · intro W hW
    show zwp (ev 15 20 _ _ _ _) _
    rw [b15_20, if_pos (by decide), b15_46_q hS]
    refine zwp_ret ⟨rfl, rfl, fun r g1 g2 => by rw [zwr_ne g2, hW.1 r (by omega), a1 r (by omega)], fun j g => by rw [zwr_same, if_neg g, hW.1 0 (by decide), a1 0 (by decide)], by rw [zwr_same, if_pos rfl], zRd_congr (fun r g1 g2 => by rw [zwr_ne (by omega), hW.1 r (by omega)]) a2, ?_⟩
    exact zPT_congr (fun d g1 g2 => zwr_ne (by omega)) (zPT_A hW.2 (fun s s1 s2 => ⟨fun _ => trivial, fun _ => ⟨s2, s1⟩⟩))
  · intro i W i1 i2 hW next
    show zwp (ev 15 20 _ _ _ _) _
    rw [b15_20, if_neg (by omega), b15_27_q hS]
    refine zwp_seq (c21_q (mk := fun _ => 0) hS (st65_q hS) (Or.inl rfl) (zRd_congr (fun r g1 g2 => hW.1 r (by omega)) a2) hc hW.2 ⟨i1, i2⟩ (fun s q => q.1) (by decide)) ?_
    rintro r T3 V3 ⟨rfl, rfl, d1, d2⟩
    simp only [zpush9]
    rw [b15_40 (by omega)]
    exact next V3 ⟨fun r hr => by rw [d1 r (by omega), hW.1 r hr], zPT_A d2 (fun s s1 s2 => ⟨fun q => ⟨by omega, s1⟩, fun q => by omega⟩)⟩
end PAIRQ
