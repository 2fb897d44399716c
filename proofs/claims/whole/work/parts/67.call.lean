/-! word, yard, count -/
section CALL
variable {n : Int} {T : zT} {V : zM}
theorem k_word_0_0 {x2 : Int} (h : zJ n T V) (hn : n < 1000) (g : 0 ≤ x2 ∧ x2 < V 132 284) (zx2 : z32 x2) : zSame 0 75 186 [(0, 0), (0, x2), (0, 0)] n T V := by
  have hS := h.str
  have hN := h.ok.n
  have hE := h.sr.n
  have m0 := zJ_m0 h
  have m1 := zJ_m1 h
  have m2 := zJ_m2 h
  have m3 := zJ_m3 h
  have t6 := st6 hS
  have t14 := st14 hS
  have f0 : V 6 5 = V 132 284 := (h.sr.east).words
  have f9 := (h.ok.many (t := 0) (by decide) (by decide)).1
  simp only [Int.reduceMul, Int.reduceAdd, Int.zero_add, Int.add_zero] at f9
  have f1 := (h.sr.east).mean g.1 (by omega)
  have f2 := (h.sr.east).len g.1 (by omega)
  have f4 := h.ok.wrd (t := 0) (by decide) (by decide) g.1 g.2
  simp only [Int.reduceMul, Int.reduceAdd, Int.zero_add, Int.add_zero] at f1 f2 f4
  unfold zSame
  repeat' (first
    | refine zwp_ret ?_
    | refine zwp_pos (by assumption) ?_
    | refine zwp_neg (by assumption) ?_
    | (refine zwp_ite ?_ ?_ <;> intro _)
    | simp (disch := first | decide | assumption | exact zbr _ _ | omega | (simp (disch := first | decide | omega) only [zwr_ne, zsr_ne, zwr_same, zsr_same, if_neg, if_pos, Int.reduceAdd]; omega)) only [e75, b75_0, b75_4, b75_7, (b75_11 hS), b75_20, b75_26, (b75_28 hS), b75_36, b75_42, b75_50, b75_55, b75_63, b75_68, b75_81, b75_83, b75_92, e186, b186_0, b186_4, (b186_7 hS), b186_24, b186_27, b186_34, b186_37, b186_39, (b186_44 hS), b186_54, (b186_57 hS), b186_64, b186_67, b186_68, (c24_0 hS), (c24_1 hS), (c24_2 hS), (c24_3 hS), (c151_0 hS), (c151_1 hS), (c151_2 hS), (c151_3 hS), (c26 hS), (c152 hS), c72_0, c72_1, c183_0, c183_1, c73, c86, c87, c150, c184, c196, c198, c29, (c28 (st1 hS)), (c157 hS), (c74_0 hS), (c74_1 hS), (c185 hS), (c187 hS), (c76 (st6 hS)), Option.bind_some, zpush0, zpush1, zpush2, zpush9, zb0, ite_not, z10, z01, if_true, if_false, zwr_ne, zwr_same, Int.reduceAdd, Int.reduceMul, Int.add_zero, Int.zero_add, f0])
  all_goals first | (exfalso; omega) | (refine ⟨⟨_, rfl, ?_⟩, zJ_ok h hn⟩; congr 1; omega)

theorem k_word_0_1 {x2 : Int} (h : zJ n T V) (hn : n < 1000) (g : 0 ≤ x2 ∧ x2 < V 132 284) (zx2 : z32 x2) : zSame 0 75 186 [(0, 0), (0, x2), (0, 1)] n T V := by
  have hS := h.str
  have hN := h.ok.n
  have hE := h.sr.n
  have m0 := zJ_m0 h
  have m1 := zJ_m1 h
  have m2 := zJ_m2 h
  have m3 := zJ_m3 h
  have t6 := st6 hS
  have t14 := st14 hS
  have f0 : V 6 5 = V 132 284 := (h.sr.east).words
  have f9 := (h.ok.many (t := 0) (by decide) (by decide)).1
  simp only [Int.reduceMul, Int.reduceAdd, Int.zero_add, Int.add_zero] at f9
  have f1 := (h.sr.east).mean g.1 (by omega)
  have f2 := (h.sr.east).len g.1 (by omega)
  have f4 := h.ok.wrd (t := 0) (by decide) (by decide) g.1 g.2
  simp only [Int.reduceMul, Int.reduceAdd, Int.zero_add, Int.add_zero] at f1 f2 f4
  unfold zSame
  repeat' (first
    | refine zwp_ret ?_
    | refine zwp_pos (by assumption) ?_
    | refine zwp_neg (by assumption) ?_
    | (refine zwp_ite ?_ ?_ <;> intro _)
    | simp (disch := first | decide | assumption | exact zbr _ _ | omega | (simp (disch := first | decide | omega) only [zwr_ne, zsr_ne, zwr_same, zsr_same, if_neg, if_pos, Int.reduceAdd]; omega)) only [e75, b75_0, b75_4, b75_7, (b75_11 hS), b75_20, b75_26, (b75_28 hS), b75_36, b75_42, b75_50, b75_55, b75_63, b75_68, b75_81, b75_83, b75_92, e186, b186_0, b186_4, (b186_7 hS), b186_24, b186_27, b186_34, b186_37, b186_39, (b186_44 hS), b186_54, (b186_57 hS), b186_64, b186_67, b186_68, (c24_0 hS), (c24_1 hS), (c24_2 hS), (c24_3 hS), (c151_0 hS), (c151_1 hS), (c151_2 hS), (c151_3 hS), (c26 hS), (c152 hS), c72_0, c72_1, c183_0, c183_1, c73, c86, c87, c150, c184, c196, c198, c29, (c28 (st1 hS)), (c157 hS), (c74_0 hS), (c74_1 hS), (c185 hS), (c187 hS), (c76 (st6 hS)), Option.bind_some, zpush0, zpush1, zpush2, zpush9, zb0, ite_not, z10, z01, if_true, if_false, zwr_ne, zwr_same, Int.reduceAdd, Int.reduceMul, Int.add_zero, Int.zero_add, f0])
  all_goals first | (exfalso; omega) | (refine ⟨⟨_, rfl, ?_⟩, zJ_ok h hn⟩; congr 1; omega)

theorem k_word_0 {x2 x3 : Int} (h : zJ n T V) (hn : n < 1000) (g : 0 ≤ x2 ∧ x2 < V 132 284) (hq : ¬ (x3 = 0 ∨ x3 = 1)) (zx2 : z32 x2) (zx3 : z32 x3) : zSame 0 75 186 [(0, 0), (0, x2), (0, x3)] n T V := by
  have hS := h.str
  have hN := h.ok.n
  have hE := h.sr.n
  have m0 := zJ_m0 h
  have m1 := zJ_m1 h
  have m2 := zJ_m2 h
  have m3 := zJ_m3 h
  have t6 := st6 hS
  have t14 := st14 hS
  have f0 : V 6 5 = V 132 284 := (h.sr.east).words
  have f9 := (h.ok.many (t := 0) (by decide) (by decide)).1
  simp only [Int.reduceMul, Int.reduceAdd, Int.zero_add, Int.add_zero] at f9
  have f1 := (h.sr.east).mean g.1 (by omega)
  have f2 := (h.sr.east).len g.1 (by omega)
  have f4 := h.ok.wrd (t := 0) (by decide) (by decide) g.1 g.2
  simp only [Int.reduceMul, Int.reduceAdd, Int.zero_add, Int.add_zero] at f1 f2 f4
  unfold zSame
  repeat' (first
    | refine zwp_ret ?_
    | refine zwp_pos (by assumption) ?_
    | refine zwp_neg (by assumption) ?_
    | (refine zwp_ite ?_ ?_ <;> intro _)
    | simp (disch := first | decide | assumption | exact zbr _ _ | omega | (simp (disch := first | decide | omega) only [zwr_ne, zsr_ne, zwr_same, zsr_same, if_neg, if_pos, Int.reduceAdd]; omega)) only [e75, b75_0, b75_4, b75_7, (b75_11 hS), b75_20, b75_26, (b75_28 hS), b75_36, b75_42, b75_50, b75_55, b75_63, b75_68, b75_81, b75_83, b75_92, e186, b186_0, b186_4, (b186_7 hS), b186_24, b186_27, b186_34, b186_37, b186_39, (b186_44 hS), b186_54, (b186_57 hS), b186_64, b186_67, b186_68, (c24_0 hS), (c24_1 hS), (c24_2 hS), (c24_3 hS), (c151_0 hS), (c151_1 hS), (c151_2 hS), (c151_3 hS), (c26 hS), (c152 hS), c72_0, c72_1, c183_0, c183_1, c73, c86, c87, c150, c184, c196, c198, c29, (c28 (st1 hS)), (c157 hS), (c74_0 hS), (c74_1 hS), (c185 hS), (c187 hS), (c76 (st6 hS)), Option.bind_some, zpush0, zpush1, zpush2, zpush9, zb0, ite_not, z10, z01, if_true, if_false, zwr_ne, zwr_same, Int.reduceAdd, Int.reduceMul, Int.add_zero, Int.zero_add, f0])
  all_goals first | (exfalso; omega) | exact ⟨⟨_, rfl, rfl⟩, zJ_ok h hn⟩ | skip
  refine ⟨⟨_, rfl, ?_⟩, zJ_ok h hn⟩
  have f5 := (h.sr.east).ltr (w := x2) (i := x3 - 2) g.1 (by omega) (by omega) (by omega)
  simp only [Int.reduceMul, Int.reduceAdd, Int.zero_add, Int.add_zero] at f5
  rw [f5]
  congr 2
  omega

theorem k_word_0_n {x2 x3 : Int} (h : zJ n T V) (hn : n < 1000) (g : ¬ (0 ≤ x2 ∧ x2 < V 132 284)) (zx2 : z32 x2) (zx3 : z32 x3) : zSame 0 75 186 [(0, 0), (0, x2), (0, x3)] n T V := by
  have hS := h.str
  have hN := h.ok.n
  have hE := h.sr.n
  have m0 := zJ_m0 h
  have m1 := zJ_m1 h
  have m2 := zJ_m2 h
  have m3 := zJ_m3 h
  have t6 := st6 hS
  have t14 := st14 hS
  have f0 : V 6 5 = V 132 284 := (h.sr.east).words
  have f9 := (h.ok.many (t := 0) (by decide) (by decide)).1
  simp only [Int.reduceMul, Int.reduceAdd, Int.zero_add, Int.add_zero] at f9
  unfold zSame
  repeat' (first
    | refine zwp_ret ?_
    | refine zwp_pos (by assumption) ?_
    | refine zwp_neg (by assumption) ?_
    | (refine zwp_ite ?_ ?_ <;> intro _)
    | simp (disch := first | decide | assumption | exact zbr _ _ | omega | (simp (disch := first | decide | omega) only [zwr_ne, zsr_ne, zwr_same, zsr_same, if_neg, if_pos, Int.reduceAdd]; omega)) only [e75, b75_0, b75_4, b75_7, (b75_11 hS), b75_20, b75_26, (b75_28 hS), b75_36, b75_42, b75_50, b75_55, b75_63, b75_68, b75_81, b75_83, b75_92, e186, b186_0, b186_4, (b186_7 hS), b186_24, b186_27, b186_34, b186_37, b186_39, (b186_44 hS), b186_54, (b186_57 hS), b186_64, b186_67, b186_68, (c24_0 hS), (c24_1 hS), (c24_2 hS), (c24_3 hS), (c151_0 hS), (c151_1 hS), (c151_2 hS), (c151_3 hS), (c26 hS), (c152 hS), c72_0, c72_1, c183_0, c183_1, c73, c86, c87, c150, c184, c196, c198, c29, (c28 (st1 hS)), (c157 hS), (c74_0 hS), (c74_1 hS), (c185 hS), (c187 hS), Option.bind_some, zpush0, zpush1, zpush2, zpush9, zb0, ite_not, z10, z01, if_true, if_false, zwr_ne, zwr_same, Int.reduceAdd, Int.reduceMul, Int.add_zero, Int.zero_add, f0])
  all_goals first | (exfalso; omega) | exact ⟨⟨_, rfl, rfl⟩, zJ_ok h hn⟩

theorem k_word_1_0 {x2 : Int} (h : zJ n T V) (hn : n < 1000) (g : 0 ≤ x2 ∧ x2 < V 132 285) (zx2 : z32 x2) : zSame 0 75 186 [(0, 1), (0, x2), (0, 0)] n T V := by
  have hS := h.str
  have hN := h.ok.n
  have hE := h.sr.n
  have m0 := zJ_m0 h
  have m1 := zJ_m1 h
  have m2 := zJ_m2 h
  have m3 := zJ_m3 h
  have t6 := st6 hS
  have t14 := st14 hS
  have f0 : V 14 5 = V 132 285 := (h.sr.west).words
  have f9 := (h.ok.many (t := 1) (by decide) (by decide)).1
  simp only [Int.reduceMul, Int.reduceAdd, Int.zero_add, Int.add_zero] at f9
  have f1 := (h.sr.west).mean g.1 (by omega)
  have f2 := (h.sr.west).len g.1 (by omega)
  have f4 := h.ok.wrd (t := 1) (by decide) (by decide) g.1 g.2
  simp only [Int.reduceMul, Int.reduceAdd, Int.zero_add, Int.add_zero] at f1 f2 f4
  unfold zSame
  repeat' (first
    | refine zwp_ret ?_
    | refine zwp_pos (by assumption) ?_
    | refine zwp_neg (by assumption) ?_
    | (refine zwp_ite ?_ ?_ <;> intro _)
    | simp (disch := first | decide | assumption | exact zbr _ _ | omega | (simp (disch := first | decide | omega) only [zwr_ne, zsr_ne, zwr_same, zsr_same, if_neg, if_pos, Int.reduceAdd]; omega)) only [e75, b75_0, b75_4, b75_7, (b75_11 hS), b75_20, b75_26, (b75_28 hS), b75_36, b75_42, b75_50, b75_55, b75_63, b75_68, b75_81, b75_83, b75_92, e186, b186_0, b186_4, (b186_7 hS), b186_24, b186_27, b186_34, b186_37, b186_39, (b186_44 hS), b186_54, (b186_57 hS), b186_64, b186_67, b186_68, (c24_0 hS), (c24_1 hS), (c24_2 hS), (c24_3 hS), (c151_0 hS), (c151_1 hS), (c151_2 hS), (c151_3 hS), (c26 hS), (c152 hS), c72_0, c72_1, c183_0, c183_1, c73, c86, c87, c150, c184, c196, c198, c29, (c28 (st1 hS)), (c157 hS), (c74_0 hS), (c74_1 hS), (c185 hS), (c187 hS), (c76 (st14 hS)), Option.bind_some, zpush0, zpush1, zpush2, zpush9, zb0, ite_not, z10, z01, if_true, if_false, zwr_ne, zwr_same, Int.reduceAdd, Int.reduceMul, Int.add_zero, Int.zero_add, f0])
  all_goals first | (exfalso; omega) | (refine ⟨⟨_, rfl, ?_⟩, zJ_ok h hn⟩; congr 1; omega)

theorem k_word_1_1 {x2 : Int} (h : zJ n T V) (hn : n < 1000) (g : 0 ≤ x2 ∧ x2 < V 132 285) (zx2 : z32 x2) : zSame 0 75 186 [(0, 1), (0, x2), (0, 1)] n T V := by
  have hS := h.str
  have hN := h.ok.n
  have hE := h.sr.n
  have m0 := zJ_m0 h
  have m1 := zJ_m1 h
  have m2 := zJ_m2 h
  have m3 := zJ_m3 h
  have t6 := st6 hS
  have t14 := st14 hS
  have f0 : V 14 5 = V 132 285 := (h.sr.west).words
  have f9 := (h.ok.many (t := 1) (by decide) (by decide)).1
  simp only [Int.reduceMul, Int.reduceAdd, Int.zero_add, Int.add_zero] at f9
  have f1 := (h.sr.west).mean g.1 (by omega)
  have f2 := (h.sr.west).len g.1 (by omega)
  have f4 := h.ok.wrd (t := 1) (by decide) (by decide) g.1 g.2
  simp only [Int.reduceMul, Int.reduceAdd, Int.zero_add, Int.add_zero] at f1 f2 f4
  unfold zSame
  repeat' (first
    | refine zwp_ret ?_
    | refine zwp_pos (by assumption) ?_
    | refine zwp_neg (by assumption) ?_
    | (refine zwp_ite ?_ ?_ <;> intro _)
    | simp (disch := first | decide | assumption | exact zbr _ _ | omega | (simp (disch := first | decide | omega) only [zwr_ne, zsr_ne, zwr_same, zsr_same, if_neg, if_pos, Int.reduceAdd]; omega)) only [e75, b75_0, b75_4, b75_7, (b75_11 hS), b75_20, b75_26, (b75_28 hS), b75_36, b75_42, b75_50, b75_55, b75_63, b75_68, b75_81, b75_83, b75_92, e186, b186_0, b186_4, (b186_7 hS), b186_24, b186_27, b186_34, b186_37, b186_39, (b186_44 hS), b186_54, (b186_57 hS), b186_64, b186_67, b186_68, (c24_0 hS), (c24_1 hS), (c24_2 hS), (c24_3 hS), (c151_0 hS), (c151_1 hS), (c151_2 hS), (c151_3 hS), (c26 hS), (c152 hS), c72_0, c72_1, c183_0, c183_1, c73, c86, c87, c150, c184, c196, c198, c29, (c28 (st1 hS)), (c157 hS), (c74_0 hS), (c74_1 hS), (c185 hS), (c187 hS), (c76 (st14 hS)), Option.bind_some, zpush0, zpush1, zpush2, zpush9, zb0, ite_not, z10, z01, if_true, if_false, zwr_ne, zwr_same, Int.reduceAdd, Int.reduceMul, Int.add_zero, Int.zero_add, f0])
  all_goals first | (exfalso; omega) | (refine ⟨⟨_, rfl, ?_⟩, zJ_ok h hn⟩; congr 1; omega)

theorem k_word_1 {x2 x3 : Int} (h : zJ n T V) (hn : n < 1000) (g : 0 ≤ x2 ∧ x2 < V 132 285) (hq : ¬ (x3 = 0 ∨ x3 = 1)) (zx2 : z32 x2) (zx3 : z32 x3) : zSame 0 75 186 [(0, 1), (0, x2), (0, x3)] n T V := by
  have hS := h.str
  have hN := h.ok.n
  have hE := h.sr.n
  have m0 := zJ_m0 h
  have m1 := zJ_m1 h
  have m2 := zJ_m2 h
  have m3 := zJ_m3 h
  have t6 := st6 hS
  have t14 := st14 hS
  have f0 : V 14 5 = V 132 285 := (h.sr.west).words
  have f9 := (h.ok.many (t := 1) (by decide) (by decide)).1
  simp only [Int.reduceMul, Int.reduceAdd, Int.zero_add, Int.add_zero] at f9
  have f1 := (h.sr.west).mean g.1 (by omega)
  have f2 := (h.sr.west).len g.1 (by omega)
  have f4 := h.ok.wrd (t := 1) (by decide) (by decide) g.1 g.2
  simp only [Int.reduceMul, Int.reduceAdd, Int.zero_add, Int.add_zero] at f1 f2 f4
  unfold zSame
  repeat' (first
    | refine zwp_ret ?_
    | refine zwp_pos (by assumption) ?_
    | refine zwp_neg (by assumption) ?_
    | (refine zwp_ite ?_ ?_ <;> intro _)
    | simp (disch := first | decide | assumption | exact zbr _ _ | omega | (simp (disch := first | decide | omega) only [zwr_ne, zsr_ne, zwr_same, zsr_same, if_neg, if_pos, Int.reduceAdd]; omega)) only [e75, b75_0, b75_4, b75_7, (b75_11 hS), b75_20, b75_26, (b75_28 hS), b75_36, b75_42, b75_50, b75_55, b75_63, b75_68, b75_81, b75_83, b75_92, e186, b186_0, b186_4, (b186_7 hS), b186_24, b186_27, b186_34, b186_37, b186_39, (b186_44 hS), b186_54, (b186_57 hS), b186_64, b186_67, b186_68, (c24_0 hS), (c24_1 hS), (c24_2 hS), (c24_3 hS), (c151_0 hS), (c151_1 hS), (c151_2 hS), (c151_3 hS), (c26 hS), (c152 hS), c72_0, c72_1, c183_0, c183_1, c73, c86, c87, c150, c184, c196, c198, c29, (c28 (st1 hS)), (c157 hS), (c74_0 hS), (c74_1 hS), (c185 hS), (c187 hS), (c76 (st14 hS)), Option.bind_some, zpush0, zpush1, zpush2, zpush9, zb0, ite_not, z10, z01, if_true, if_false, zwr_ne, zwr_same, Int.reduceAdd, Int.reduceMul, Int.add_zero, Int.zero_add, f0])
  all_goals first | (exfalso; omega) | exact ⟨⟨_, rfl, rfl⟩, zJ_ok h hn⟩ | skip
  refine ⟨⟨_, rfl, ?_⟩, zJ_ok h hn⟩
  have f5 := (h.sr.west).ltr (w := x2) (i := x3 - 2) g.1 (by omega) (by omega) (by omega)
  simp only [Int.reduceMul, Int.reduceAdd, Int.zero_add, Int.add_zero] at f5
  rw [f5]
  congr 2
  omega

theorem k_word_1_n {x2 x3 : Int} (h : zJ n T V) (hn : n < 1000) (g : ¬ (0 ≤ x2 ∧ x2 < V 132 285)) (zx2 : z32 x2) (zx3 : z32 x3) : zSame 0 75 186 [(0, 1), (0, x2), (0, x3)] n T V := by
  have hS := h.str
  have hN := h.ok.n
  have hE := h.sr.n
  have m0 := zJ_m0 h
  have m1 := zJ_m1 h
  have m2 := zJ_m2 h
  have m3 := zJ_m3 h
  have t6 := st6 hS
  have t14 := st14 hS
  have f0 : V 14 5 = V 132 285 := (h.sr.west).words
  have f9 := (h.ok.many (t := 1) (by decide) (by decide)).1
  simp only [Int.reduceMul, Int.reduceAdd, Int.zero_add, Int.add_zero] at f9
  unfold zSame
  repeat' (first
    | refine zwp_ret ?_
    | refine zwp_pos (by assumption) ?_
    | refine zwp_neg (by assumption) ?_
    | (refine zwp_ite ?_ ?_ <;> intro _)
    | simp (disch := first | decide | assumption | exact zbr _ _ | omega | (simp (disch := first | decide | omega) only [zwr_ne, zsr_ne, zwr_same, zsr_same, if_neg, if_pos, Int.reduceAdd]; omega)) only [e75, b75_0, b75_4, b75_7, (b75_11 hS), b75_20, b75_26, (b75_28 hS), b75_36, b75_42, b75_50, b75_55, b75_63, b75_68, b75_81, b75_83, b75_92, e186, b186_0, b186_4, (b186_7 hS), b186_24, b186_27, b186_34, b186_37, b186_39, (b186_44 hS), b186_54, (b186_57 hS), b186_64, b186_67, b186_68, (c24_0 hS), (c24_1 hS), (c24_2 hS), (c24_3 hS), (c151_0 hS), (c151_1 hS), (c151_2 hS), (c151_3 hS), (c26 hS), (c152 hS), c72_0, c72_1, c183_0, c183_1, c73, c86, c87, c150, c184, c196, c198, c29, (c28 (st1 hS)), (c157 hS), (c74_0 hS), (c74_1 hS), (c185 hS), (c187 hS), Option.bind_some, zpush0, zpush1, zpush2, zpush9, zb0, ite_not, z10, z01, if_true, if_false, zwr_ne, zwr_same, Int.reduceAdd, Int.reduceMul, Int.add_zero, Int.zero_add, f0])
  all_goals first | (exfalso; omega) | exact ⟨⟨_, rfl, rfl⟩, zJ_ok h hn⟩

theorem k_word_r {x1 x2 x3 : Int} (h : zJ n T V) (hn : n < 1000) (hq : ¬ (x1 = 0 ∨ x1 = 1)) (zx1 : z32 x1) (zx2 : z32 x2) (zx3 : z32 x3) : zSame 0 75 186 [(0, x1), (0, x2), (0, x3)] n T V := by
  have hS := h.str
  have hN := h.ok.n
  have hE := h.sr.n
  have m0 := zJ_m0 h
  have m1 := zJ_m1 h
  have m2 := zJ_m2 h
  have m3 := zJ_m3 h
  have t6 := st6 hS
  have t14 := st14 hS
  unfold zSame
  repeat' (first
    | refine zwp_ret ?_
    | refine zwp_pos (by assumption) ?_
    | refine zwp_neg (by assumption) ?_
    | (refine zwp_ite ?_ ?_ <;> intro _)
    | simp (disch := first | decide | assumption | exact zbr _ _ | omega | (simp (disch := first | decide | omega) only [zwr_ne, zsr_ne, zwr_same, zsr_same, if_neg, if_pos, Int.reduceAdd]; omega)) only [e75, b75_0, b75_4, b75_7, (b75_11 hS), b75_20, b75_26, (b75_28 hS), b75_36, b75_42, b75_50, b75_55, b75_63, b75_68, b75_81, b75_83, b75_92, e186, b186_0, b186_4, (b186_7 hS), b186_24, b186_27, b186_34, b186_37, b186_39, (b186_44 hS), b186_54, (b186_57 hS), b186_64, b186_67, b186_68, (c24_0 hS), (c24_1 hS), (c24_2 hS), (c24_3 hS), (c151_0 hS), (c151_1 hS), (c151_2 hS), (c151_3 hS), (c26 hS), (c152 hS), c72_0, c72_1, c183_0, c183_1, c72, c73, c86, c87, c150, c183, c184, c196, c198, c29, (c28 (st1 hS)), (c157 hS), (c74_0 hS), (c74_1 hS), (c185 hS), (c187 hS), Option.bind_some, zpush0, zpush1, zpush2, zpush9, zb0, ite_not, z10, z01, if_true, if_false, zwr_ne, zwr_same, Int.reduceAdd, Int.reduceMul, Int.add_zero])
  all_goals first | (exfalso; omega) | exact ⟨⟨_, rfl, rfl⟩, zJ_ok h hn⟩

theorem k_word {x1 x2 x3 : Int} (h : zJ n T V) (hn : n < 1000) (zx1 : z32 x1) (zx2 : z32 x2) (zx3 : z32 x3) : zSame 0 75 186 [(0, x1), (0, x2), (0, x3)] n T V := by
  by_cases h0 : x1 = 0
  · subst h0
    by_cases g : 0 ≤ x2 ∧ x2 < V 132 284
    · by_cases g0 : x3 = 0
      · subst g0; exact k_word_0_0 h hn g zx2
      by_cases g1 : x3 = 1
      · subst g1; exact k_word_0_1 h hn g zx2
      exact k_word_0 h hn g (by omega) zx2 zx3
    · exact k_word_0_n h hn g zx2 zx3
  by_cases h1 : x1 = 1
  · subst h1
    by_cases g : 0 ≤ x2 ∧ x2 < V 132 285
    · by_cases g0 : x3 = 0
      · subst g0; exact k_word_1_0 h hn g zx2
      by_cases g1 : x3 = 1
      · subst g1; exact k_word_1_1 h hn g zx2
      exact k_word_1 h hn g (by omega) zx2 zx3
    · exact k_word_1_n h hn g zx2 zx3
  exact k_word_r h hn (by omega) zx1 zx2 zx3

theorem c146 {b : Int} (h : zTongue T b) : zcall 146 [(2, b)] T V = some ((0, zsum (fun l => if V (b + 1) l = 0 then 0 else 1) 26), T, V) := by
  have hr : ∀ i : Nat, 0 ≤ zsum (fun l => if V (b + 1) l = 0 then 0 else 1) i ∧ zsum (fun l => if V (b + 1) l = 0 then 0 else 1) i ≤ i := fun i => by
    induction i with
    | zero => simp [zsum]
    | succ i ih => rw [zsum]; split <;> omega
  have key := zfor (fun i => ev 146 4 [(2, b), (0, zsum (fun l => if V (b + 1) l = 0 then 0 else 1) i.toNat), (0, i)] [] T V) (lo := 0) (hi := 26) (by decide) (fun i h1 h2 => by
    show ev 146 4 _ _ _ _ = ev 146 4 _ _ _ _
    have e : (i + 1).toNat = i.toNat + 1 := by omega
    have ei : ((i.toNat : Nat) : Int) = i := Int.toNat_of_nonneg h1
    have hri := hr i.toNat
    rw [b146_4, if_neg (by omega), b146_10 h, c19 h ⟨h1, h2⟩, e, zsum, ei]
    simp only [Option.bind_some, zpush0]
    rw [b146_15]
    by_cases g : V (b + 1) i = 0
    · rw [show (if V (b + 1) i ≠ 0 then (1 : Int) else 0) = 0 from if_neg (fun q => q g), if_pos rfl, if_pos g, b146_21 (by omega), Int.add_zero]
    · rw [show (if V (b + 1) i ≠ 0 then (1 : Int) else 0) = 1 from if_pos g, if_neg (by decide), if_neg g, b146_18 (by omega), b146_21 (by omega)])
  rw [e146, b146_0]
  refine key.trans ?_
  rw [b146_4, if_pos (by decide), b146_27]
  rfl
theorem c243l {x1 : Int} (hS : zStr T) (hk : ∀ t l, 0 ≤ t → t ≤ 1 → 0 ≤ l → l < 26 → V 132 (3 * (26 * t + l)) = 0 ∨ V 132 (3 * (26 * t + l)) = 1) : ev 243 52 [(2, 130), (0, x1), (9, 0), (9, 0), (9, 0)] [] T V = ev 243 94 [(2, 130), (0, x1), (0, zsum (fun l => V 132 (3 * (26 * 0 + l))) 26), (0, zsum (fun l => V 132 (3 * (26 * 1 + l))) 26), (0, 26)] [] T V := by
  have hr : ∀ t : Int, 0 ≤ t → t ≤ 1 → ∀ i : Nat, i ≤ 26 → 0 ≤ zsum (fun l => V 132 (3 * (26 * t + l))) i ∧ zsum (fun l => V 132 (3 * (26 * t + l))) i ≤ i := fun t t1 t2 i hi => by
    induction i with
    | zero => simp [zsum]
    | succ i ih => rw [zsum]; have := hk t i t1 t2 (by omega) (by omega); have := ih (by omega); omega
  have key := zfor (fun i => ev 243 59 [(2, 130), (0, x1), (0, zsum (fun l => V 132 (3 * (26 * 0 + l))) i.toNat), (0, zsum (fun l => V 132 (3 * (26 * 1 + l))) i.toNat), (0, i)] [] T V) (lo := 0) (hi := 26) (by decide) (fun i h1 h2 => by
    show ev 243 59 _ _ _ _ = ev 243 59 _ _ _ _
    have e : (i + 1).toNat = i.toNat + 1 := by omega
    have ei : ((i.toNat : Nat) : Int) = i := Int.toNat_of_nonneg h1
    have r0 := hr 0 (by decide) (by decide) i.toNat (by omega)
    have r1 := hr 1 (by decide) (by decide) i.toNat (by omega)
    have k0 := hk 0 i (by decide) (by decide) h1 h2
    have k1 := hk 1 i (by decide) (by decide) h1 h2
    rw [b243_59, if_neg (by omega), b243_66 hS, c185 hS (by decide) ⟨h1, h2⟩ (by decide)]
    simp only [Option.bind_some, zpush0, Int.add_zero]
    rw [b243_75 hS (by omega), c185 hS (by decide) ⟨h1, h2⟩ (by decide)]
    simp only [Option.bind_some, zpush0, Int.add_zero]
    rw [b243_86 (by omega) (by omega), e, zsum, zsum, ei])
  rw [b243_52]
  refine key.trans ?_
  rw [b243_59, if_pos (by decide)]
  rfl
theorem sw145 {x1 : Int} {p : Nat} (h : (if 0 ≤ x1 ∧ x1 < 0 + ((12 : Nat) : Int) - 1 then ([247, 132, 140, 151, 162, 173, 184, 195, 206, 217, 228, 239] : List Nat).getD ((x1 - 0).toNat + 1) 0 else 247) = p) : ev 145 72 [(2, 0), (0, x1)] [] T V = ev 145 p [(2, 0), (0, x1)] [] T V := by rw [b145_72, h]
theorem sw243 {x1 x2 x3 x4 : Int} {p : Nat} (h : (if 0 ≤ x1 ∧ x1 < 0 + ((16 : Nat) : Int) - 1 then ([255, 168, 177, 179, 181, 181, 194, 194, 207, 207, 221, 230, 235, 235, 245, 245] : List Nat).getD ((x1 - 0).toNat + 1) 0 else 255) = p) : ev 243 94 [(2, 130), (0, x1), (0, x2), (0, x3), (0, x4)] [] T V = ev 243 p [(2, 130), (0, x1), (0, x2), (0, x3), (0, x4)] [] T V := by rw [b243_94, h]
theorem zlsum {V : zM} {b t : Int} {K : Int → Int} (h : zTg V b K t) (hk : zKok K) (h1 : 0 ≤ t) (h2 : t ≤ 1) : zsum (fun l => if V (b + 1) l = 0 then 0 else 1) 26 = zsum (fun l => K (3 * (26 * t + l))) 26 := zsum_congr fun l g1 g2 => by
  have f1 := h.must g1 (by omega)
  have f3 := hk.let h1 h2 g1 (by omega)
  rcases f3.1 with e | e
  · rw [f1, e]; simp
  · have := f3.2 e
    rw [f1, e, if_pos rfl, if_neg (by omega)]

theorem k_count_0 (h : zJ n T V) (hn : n < 1000)   : zSame 0 145 243 [(0, 0)] n T V := by
  have hS := h.str
  have hN := h.ok.n
  have hE := h.sr.n
  have m0 := zJ_m0 h
  have m1 := zJ_m1 h
  have m2 := zJ_m2 h
  have m3 := zJ_m3 h
  have t6 := st6 hS
  have t14 := st14 hS
  have hK := fun (t l : Int) g1 g2 g3 g4 => (h.ok.let (t := t) (l := l) g1 g2 g3 g4).1
  have a1 : V 6 5 = V 132 284 := h.sr.east.words
  have a2 : V 14 5 = V 132 285 := h.sr.west.words
  have a3 : V 6 7 = V 132 364 := h.sr.east.tlen
  have a4 : V 14 7 = V 132 365 := h.sr.west.tlen
  have a5 : V 6 9 = V 132 374 := h.sr.east.slen
  have a6 : V 14 9 = V 132 375 := h.sr.west.slen
  have a7 : V 22 5 = V 132 426 := h.sr.yards.1
  have a8 : V 56 1 = V 130 12 := h.tape.1
  obtain ⟨q0, ⟨q1, q2, q3, q4⟩, q5⟩ := h.sc
  have z1 := zlsum h.sr.east h.ok (by decide) (by decide)
  have z2 := zlsum h.sr.west h.ok (by decide) (by decide)
  simp only [Int.reduceAdd] at z1 z2
  obtain ⟨S1, y1⟩ : ∃ s, zsum (fun l => V 132 (3 * (26 * 0 + l))) 26 = s := ⟨_, rfl⟩
  obtain ⟨S2, y2⟩ : ∃ s, zsum (fun l => V 132 (3 * (26 * 1 + l))) 26 = s := ⟨_, rfl⟩
  rw [y1] at z1
  rw [y2] at z2
  unfold zSame
  repeat' (first
    | refine zwp_ret ?_
    | refine zwp_pos (by assumption) ?_
    | refine zwp_neg (by assumption) ?_
    | (refine zwp_ite ?_ ?_ <;> intro _)
    | simp (disch := first | decide | assumption | exact zbr _ _ | omega | (simp (disch := first | decide | omega) only [zwr_ne, zsr_ne, zwr_same, zsr_same, if_neg, if_pos, Int.reduceAdd]; omega)) only [e145, b145_0, b145_6, (b145_12 hS), b145_22, b145_28, (b145_34 hS), b145_47, b145_53, (b145_59 hS), (b145_132 hS), (b145_140 hS), b145_150, (b145_151 hS), b145_161, (b145_162 hS), (b145_173 hS), (b145_184 hS), (b145_195 hS), (b145_206 hS), (b145_217 hS), (b145_228 hS), (b145_239 hS), b145_247, e243, b243_0, b243_8, (b243_11 hS), b243_27, b243_35, (b243_38 hS), (b243_168 hS), b243_177, b243_179, (b243_181 hS), (b243_194 hS), (b243_207 hS), (b243_221 hS), (b243_230 hS), (b243_235 hS), (b243_245 hS), b243_255, (c24_0 hS), (c24_1 hS), (c24_2 hS), (c24_3 hS), (c151_0 hS), (c151_1 hS), (c151_2 hS), (c151_3 hS), (c26 hS), (c152 hS), c72_0, c72_1, c183_0, c183_1, c73, c86, c87, c150, c184, c196, c198, c29, (c28 (st1 hS)), (c157 hS), (c74_0 hS), (c74_1 hS), (c185 hS), (c187 hS), (sw243 (x1 := 0) (p := 168) (by decide)), (c243l hS hK), (c146 (st6 hS)), (c146 (st14 hS)), (sw145 (x1 := 0) (p := 132) (by decide)), Option.bind_some, zpush0, zpush1, zpush2, zpush9, zb0, ite_not, z10, z01, if_true, if_false, Int.reduceAdd, Int.reduceSub, z1, z2, y1, y2])
  all_goals first | (exfalso; omega) | (refine ⟨⟨_, rfl, ?_⟩, zJ_ok h hn⟩; first | (congr 1; omega) | rfl)

theorem k_count_1 (h : zJ n T V) (hn : n < 1000)   : zSame 0 145 243 [(0, 1)] n T V := by
  have hS := h.str
  have hN := h.ok.n
  have hE := h.sr.n
  have m0 := zJ_m0 h
  have m1 := zJ_m1 h
  have m2 := zJ_m2 h
  have m3 := zJ_m3 h
  have t6 := st6 hS
  have t14 := st14 hS
  have hK := fun (t l : Int) g1 g2 g3 g4 => (h.ok.let (t := t) (l := l) g1 g2 g3 g4).1
  have a1 : V 6 5 = V 132 284 := h.sr.east.words
  have a2 : V 14 5 = V 132 285 := h.sr.west.words
  have a3 : V 6 7 = V 132 364 := h.sr.east.tlen
  have a4 : V 14 7 = V 132 365 := h.sr.west.tlen
  have a5 : V 6 9 = V 132 374 := h.sr.east.slen
  have a6 : V 14 9 = V 132 375 := h.sr.west.slen
  have a7 : V 22 5 = V 132 426 := h.sr.yards.1
  have a8 : V 56 1 = V 130 12 := h.tape.1
  obtain ⟨q0, ⟨q1, q2, q3, q4⟩, q5⟩ := h.sc
  have z1 := zlsum h.sr.east h.ok (by decide) (by decide)
  have z2 := zlsum h.sr.west h.ok (by decide) (by decide)
  simp only [Int.reduceAdd] at z1 z2
  obtain ⟨S1, y1⟩ : ∃ s, zsum (fun l => V 132 (3 * (26 * 0 + l))) 26 = s := ⟨_, rfl⟩
  obtain ⟨S2, y2⟩ : ∃ s, zsum (fun l => V 132 (3 * (26 * 1 + l))) 26 = s := ⟨_, rfl⟩
  rw [y1] at z1
  rw [y2] at z2
  unfold zSame
  repeat' (first
    | refine zwp_ret ?_
    | refine zwp_pos (by assumption) ?_
    | refine zwp_neg (by assumption) ?_
    | (refine zwp_ite ?_ ?_ <;> intro _)
    | simp (disch := first | decide | assumption | exact zbr _ _ | omega | (simp (disch := first | decide | omega) only [zwr_ne, zsr_ne, zwr_same, zsr_same, if_neg, if_pos, Int.reduceAdd]; omega)) only [e145, b145_0, b145_6, (b145_12 hS), b145_22, b145_28, (b145_34 hS), b145_47, b145_53, (b145_59 hS), (b145_132 hS), (b145_140 hS), b145_150, (b145_151 hS), b145_161, (b145_162 hS), (b145_173 hS), (b145_184 hS), (b145_195 hS), (b145_206 hS), (b145_217 hS), (b145_228 hS), (b145_239 hS), b145_247, e243, b243_0, b243_8, (b243_11 hS), b243_27, b243_35, (b243_38 hS), (b243_168 hS), b243_177, b243_179, (b243_181 hS), (b243_194 hS), (b243_207 hS), (b243_221 hS), (b243_230 hS), (b243_235 hS), (b243_245 hS), b243_255, (c24_0 hS), (c24_1 hS), (c24_2 hS), (c24_3 hS), (c151_0 hS), (c151_1 hS), (c151_2 hS), (c151_3 hS), (c26 hS), (c152 hS), c72_0, c72_1, c183_0, c183_1, c73, c86, c87, c150, c184, c196, c198, c29, (c28 (st1 hS)), (c157 hS), (c74_0 hS), (c74_1 hS), (c185 hS), (c187 hS), (sw243 (x1 := 1) (p := 177) (by decide)), (c243l hS hK), (c146 (st6 hS)), (c146 (st14 hS)), (sw145 (x1 := 1) (p := 140) (by decide)), Option.bind_some, zpush0, zpush1, zpush2, zpush9, zb0, ite_not, z10, z01, if_true, if_false, Int.reduceAdd, Int.reduceSub, z1, z2, y1, y2])
  all_goals first | (exfalso; omega) | (refine ⟨⟨_, rfl, ?_⟩, zJ_ok h hn⟩; first | (congr 1; omega) | rfl)

theorem k_count_2 (h : zJ n T V) (hn : n < 1000)   : zSame 0 145 243 [(0, 2)] n T V := by
  have hS := h.str
  have hN := h.ok.n
  have hE := h.sr.n
  have m0 := zJ_m0 h
  have m1 := zJ_m1 h
  have m2 := zJ_m2 h
  have m3 := zJ_m3 h
  have t6 := st6 hS
  have t14 := st14 hS
  have hK := fun (t l : Int) g1 g2 g3 g4 => (h.ok.let (t := t) (l := l) g1 g2 g3 g4).1
  have a1 : V 6 5 = V 132 284 := h.sr.east.words
  have a2 : V 14 5 = V 132 285 := h.sr.west.words
  have a3 : V 6 7 = V 132 364 := h.sr.east.tlen
  have a4 : V 14 7 = V 132 365 := h.sr.west.tlen
  have a5 : V 6 9 = V 132 374 := h.sr.east.slen
  have a6 : V 14 9 = V 132 375 := h.sr.west.slen
  have a7 : V 22 5 = V 132 426 := h.sr.yards.1
  have a8 : V 56 1 = V 130 12 := h.tape.1
  obtain ⟨q0, ⟨q1, q2, q3, q4⟩, q5⟩ := h.sc
  have z1 := zlsum h.sr.east h.ok (by decide) (by decide)
  have z2 := zlsum h.sr.west h.ok (by decide) (by decide)
  simp only [Int.reduceAdd] at z1 z2
  obtain ⟨S1, y1⟩ : ∃ s, zsum (fun l => V 132 (3 * (26 * 0 + l))) 26 = s := ⟨_, rfl⟩
  obtain ⟨S2, y2⟩ : ∃ s, zsum (fun l => V 132 (3 * (26 * 1 + l))) 26 = s := ⟨_, rfl⟩
  rw [y1] at z1
  rw [y2] at z2
  unfold zSame
  repeat' (first
    | refine zwp_ret ?_
    | refine zwp_pos (by assumption) ?_
    | refine zwp_neg (by assumption) ?_
    | (refine zwp_ite ?_ ?_ <;> intro _)
    | simp (disch := first | decide | assumption | exact zbr _ _ | omega | (simp (disch := first | decide | omega) only [zwr_ne, zsr_ne, zwr_same, zsr_same, if_neg, if_pos, Int.reduceAdd]; omega)) only [e145, b145_0, b145_6, (b145_12 hS), b145_22, b145_28, (b145_34 hS), b145_47, b145_53, (b145_59 hS), (b145_132 hS), (b145_140 hS), b145_150, (b145_151 hS), b145_161, (b145_162 hS), (b145_173 hS), (b145_184 hS), (b145_195 hS), (b145_206 hS), (b145_217 hS), (b145_228 hS), (b145_239 hS), b145_247, e243, b243_0, b243_8, (b243_11 hS), b243_27, b243_35, (b243_38 hS), (b243_168 hS), b243_177, b243_179, (b243_181 hS), (b243_194 hS), (b243_207 hS), (b243_221 hS), (b243_230 hS), (b243_235 hS), (b243_245 hS), b243_255, (c24_0 hS), (c24_1 hS), (c24_2 hS), (c24_3 hS), (c151_0 hS), (c151_1 hS), (c151_2 hS), (c151_3 hS), (c26 hS), (c152 hS), c72_0, c72_1, c183_0, c183_1, c73, c86, c87, c150, c184, c196, c198, c29, (c28 (st1 hS)), (c157 hS), (c74_0 hS), (c74_1 hS), (c185 hS), (c187 hS), (sw243 (x1 := 2) (p := 179) (by decide)), (c243l hS hK), (c146 (st6 hS)), (c146 (st14 hS)), (sw145 (x1 := 2) (p := 151) (by decide)), Option.bind_some, zpush0, zpush1, zpush2, zpush9, zb0, ite_not, z10, z01, if_true, if_false, Int.reduceAdd, Int.reduceSub, z1, z2, y1, y2])
  all_goals first | (exfalso; omega) | (refine ⟨⟨_, rfl, ?_⟩, zJ_ok h hn⟩; first | (congr 1; omega) | rfl)

theorem k_count_3 (h : zJ n T V) (hn : n < 1000)   : zSame 0 145 243 [(0, 3)] n T V := by
  have hS := h.str
  have hN := h.ok.n
  have hE := h.sr.n
  have m0 := zJ_m0 h
  have m1 := zJ_m1 h
  have m2 := zJ_m2 h
  have m3 := zJ_m3 h
  have t6 := st6 hS
  have t14 := st14 hS
  have hK := fun (t l : Int) g1 g2 g3 g4 => (h.ok.let (t := t) (l := l) g1 g2 g3 g4).1
  have a1 : V 6 5 = V 132 284 := h.sr.east.words
  have a2 : V 14 5 = V 132 285 := h.sr.west.words
  have a3 : V 6 7 = V 132 364 := h.sr.east.tlen
  have a4 : V 14 7 = V 132 365 := h.sr.west.tlen
  have a5 : V 6 9 = V 132 374 := h.sr.east.slen
  have a6 : V 14 9 = V 132 375 := h.sr.west.slen
  have a7 : V 22 5 = V 132 426 := h.sr.yards.1
  have a8 : V 56 1 = V 130 12 := h.tape.1
  obtain ⟨q0, ⟨q1, q2, q3, q4⟩, q5⟩ := h.sc
  have z1 := zlsum h.sr.east h.ok (by decide) (by decide)
  have z2 := zlsum h.sr.west h.ok (by decide) (by decide)
  simp only [Int.reduceAdd] at z1 z2
  obtain ⟨S1, y1⟩ : ∃ s, zsum (fun l => V 132 (3 * (26 * 0 + l))) 26 = s := ⟨_, rfl⟩
  obtain ⟨S2, y2⟩ : ∃ s, zsum (fun l => V 132 (3 * (26 * 1 + l))) 26 = s := ⟨_, rfl⟩
  rw [y1] at z1
  rw [y2] at z2
  unfold zSame
  repeat' (first
    | refine zwp_ret ?_
    | refine zwp_pos (by assumption) ?_
    | refine zwp_neg (by assumption) ?_
    | (refine zwp_ite ?_ ?_ <;> intro _)
    | simp (disch := first | decide | assumption | exact zbr _ _ | omega | (simp (disch := first | decide | omega) only [zwr_ne, zsr_ne, zwr_same, zsr_same, if_neg, if_pos, Int.reduceAdd]; omega)) only [e145, b145_0, b145_6, (b145_12 hS), b145_22, b145_28, (b145_34 hS), b145_47, b145_53, (b145_59 hS), (b145_132 hS), (b145_140 hS), b145_150, (b145_151 hS), b145_161, (b145_162 hS), (b145_173 hS), (b145_184 hS), (b145_195 hS), (b145_206 hS), (b145_217 hS), (b145_228 hS), (b145_239 hS), b145_247, e243, b243_0, b243_8, (b243_11 hS), b243_27, b243_35, (b243_38 hS), (b243_168 hS), b243_177, b243_179, (b243_181 hS), (b243_194 hS), (b243_207 hS), (b243_221 hS), (b243_230 hS), (b243_235 hS), (b243_245 hS), b243_255, (c24_0 hS), (c24_1 hS), (c24_2 hS), (c24_3 hS), (c151_0 hS), (c151_1 hS), (c151_2 hS), (c151_3 hS), (c26 hS), (c152 hS), c72_0, c72_1, c183_0, c183_1, c73, c86, c87, c150, c184, c196, c198, c29, (c28 (st1 hS)), (c157 hS), (c74_0 hS), (c74_1 hS), (c185 hS), (c187 hS), (sw243 (x1 := 3) (p := 181) (by decide)), (c243l hS hK), (c146 (st6 hS)), (c146 (st14 hS)), (sw145 (x1 := 3) (p := 162) (by decide)), Option.bind_some, zpush0, zpush1, zpush2, zpush9, zb0, ite_not, z10, z01, if_true, if_false, Int.reduceAdd, Int.reduceSub, z1, z2, y1, y2])
  all_goals first | (exfalso; omega) | (refine ⟨⟨_, rfl, ?_⟩, zJ_ok h hn⟩; first | (congr 1; omega) | rfl)

theorem k_count_4 (h : zJ n T V) (hn : n < 1000)   : zSame 0 145 243 [(0, 4)] n T V := by
  have hS := h.str
  have hN := h.ok.n
  have hE := h.sr.n
  have m0 := zJ_m0 h
  have m1 := zJ_m1 h
  have m2 := zJ_m2 h
  have m3 := zJ_m3 h
  have t6 := st6 hS
  have t14 := st14 hS
  have hK := fun (t l : Int) g1 g2 g3 g4 => (h.ok.let (t := t) (l := l) g1 g2 g3 g4).1
  have a1 : V 6 5 = V 132 284 := h.sr.east.words
  have a2 : V 14 5 = V 132 285 := h.sr.west.words
  have a3 : V 6 7 = V 132 364 := h.sr.east.tlen
  have a4 : V 14 7 = V 132 365 := h.sr.west.tlen
  have a5 : V 6 9 = V 132 374 := h.sr.east.slen
  have a6 : V 14 9 = V 132 375 := h.sr.west.slen
  have a7 : V 22 5 = V 132 426 := h.sr.yards.1
  have a8 : V 56 1 = V 130 12 := h.tape.1
  obtain ⟨q0, ⟨q1, q2, q3, q4⟩, q5⟩ := h.sc
  have z1 := zlsum h.sr.east h.ok (by decide) (by decide)
  have z2 := zlsum h.sr.west h.ok (by decide) (by decide)
  simp only [Int.reduceAdd] at z1 z2
  obtain ⟨S1, y1⟩ : ∃ s, zsum (fun l => V 132 (3 * (26 * 0 + l))) 26 = s := ⟨_, rfl⟩
  obtain ⟨S2, y2⟩ : ∃ s, zsum (fun l => V 132 (3 * (26 * 1 + l))) 26 = s := ⟨_, rfl⟩
  rw [y1] at z1
  rw [y2] at z2
  unfold zSame
  repeat' (first
    | refine zwp_ret ?_
    | refine zwp_pos (by assumption) ?_
    | refine zwp_neg (by assumption) ?_
    | (refine zwp_ite ?_ ?_ <;> intro _)
    | simp (disch := first | decide | assumption | exact zbr _ _ | omega | (simp (disch := first | decide | omega) only [zwr_ne, zsr_ne, zwr_same, zsr_same, if_neg, if_pos, Int.reduceAdd]; omega)) only [e145, b145_0, b145_6, (b145_12 hS), b145_22, b145_28, (b145_34 hS), b145_47, b145_53, (b145_59 hS), (b145_132 hS), (b145_140 hS), b145_150, (b145_151 hS), b145_161, (b145_162 hS), (b145_173 hS), (b145_184 hS), (b145_195 hS), (b145_206 hS), (b145_217 hS), (b145_228 hS), (b145_239 hS), b145_247, e243, b243_0, b243_8, (b243_11 hS), b243_27, b243_35, (b243_38 hS), (b243_168 hS), b243_177, b243_179, (b243_181 hS), (b243_194 hS), (b243_207 hS), (b243_221 hS), (b243_230 hS), (b243_235 hS), (b243_245 hS), b243_255, (c24_0 hS), (c24_1 hS), (c24_2 hS), (c24_3 hS), (c151_0 hS), (c151_1 hS), (c151_2 hS), (c151_3 hS), (c26 hS), (c152 hS), c72_0, c72_1, c183_0, c183_1, c73, c86, c87, c150, c184, c196, c198, c29, (c28 (st1 hS)), (c157 hS), (c74_0 hS), (c74_1 hS), (c185 hS), (c187 hS), (sw243 (x1 := 4) (p := 181) (by decide)), (c243l hS hK), (c146 (st6 hS)), (c146 (st14 hS)), (sw145 (x1 := 4) (p := 173) (by decide)), Option.bind_some, zpush0, zpush1, zpush2, zpush9, zb0, ite_not, z10, z01, if_true, if_false, Int.reduceAdd, Int.reduceSub, z1, z2, y1, y2])
  all_goals first | (exfalso; omega) | (refine ⟨⟨_, rfl, ?_⟩, zJ_ok h hn⟩; first | (congr 1; omega) | rfl)

theorem k_count_5 (h : zJ n T V) (hn : n < 1000)   : zSame 0 145 243 [(0, 5)] n T V := by
  have hS := h.str
  have hN := h.ok.n
  have hE := h.sr.n
  have m0 := zJ_m0 h
  have m1 := zJ_m1 h
  have m2 := zJ_m2 h
  have m3 := zJ_m3 h
  have t6 := st6 hS
  have t14 := st14 hS
  have hK := fun (t l : Int) g1 g2 g3 g4 => (h.ok.let (t := t) (l := l) g1 g2 g3 g4).1
  have a1 : V 6 5 = V 132 284 := h.sr.east.words
  have a2 : V 14 5 = V 132 285 := h.sr.west.words
  have a3 : V 6 7 = V 132 364 := h.sr.east.tlen
  have a4 : V 14 7 = V 132 365 := h.sr.west.tlen
  have a5 : V 6 9 = V 132 374 := h.sr.east.slen
  have a6 : V 14 9 = V 132 375 := h.sr.west.slen
  have a7 : V 22 5 = V 132 426 := h.sr.yards.1
  have a8 : V 56 1 = V 130 12 := h.tape.1
  obtain ⟨q0, ⟨q1, q2, q3, q4⟩, q5⟩ := h.sc
  have z1 := zlsum h.sr.east h.ok (by decide) (by decide)
  have z2 := zlsum h.sr.west h.ok (by decide) (by decide)
  simp only [Int.reduceAdd] at z1 z2
  obtain ⟨S1, y1⟩ : ∃ s, zsum (fun l => V 132 (3 * (26 * 0 + l))) 26 = s := ⟨_, rfl⟩
  obtain ⟨S2, y2⟩ : ∃ s, zsum (fun l => V 132 (3 * (26 * 1 + l))) 26 = s := ⟨_, rfl⟩
  rw [y1] at z1
  rw [y2] at z2
  unfold zSame
  repeat' (first
    | refine zwp_ret ?_
    | refine zwp_pos (by assumption) ?_
    | refine zwp_neg (by assumption) ?_
    | (refine zwp_ite ?_ ?_ <;> intro _)
    | simp (disch := first | decide | assumption | exact zbr _ _ | omega | (simp (disch := first | decide | omega) only [zwr_ne, zsr_ne, zwr_same, zsr_same, if_neg, if_pos, Int.reduceAdd]; omega)) only [e145, b145_0, b145_6, (b145_12 hS), b145_22, b145_28, (b145_34 hS), b145_47, b145_53, (b145_59 hS), (b145_132 hS), (b145_140 hS), b145_150, (b145_151 hS), b145_161, (b145_162 hS), (b145_173 hS), (b145_184 hS), (b145_195 hS), (b145_206 hS), (b145_217 hS), (b145_228 hS), (b145_239 hS), b145_247, e243, b243_0, b243_8, (b243_11 hS), b243_27, b243_35, (b243_38 hS), (b243_168 hS), b243_177, b243_179, (b243_181 hS), (b243_194 hS), (b243_207 hS), (b243_221 hS), (b243_230 hS), (b243_235 hS), (b243_245 hS), b243_255, (c24_0 hS), (c24_1 hS), (c24_2 hS), (c24_3 hS), (c151_0 hS), (c151_1 hS), (c151_2 hS), (c151_3 hS), (c26 hS), (c152 hS), c72_0, c72_1, c183_0, c183_1, c73, c86, c87, c150, c184, c196, c198, c29, (c28 (st1 hS)), (c157 hS), (c74_0 hS), (c74_1 hS), (c185 hS), (c187 hS), (sw243 (x1 := 5) (p := 194) (by decide)), (c243l hS hK), (c146 (st6 hS)), (c146 (st14 hS)), (sw145 (x1 := 5) (p := 184) (by decide)), Option.bind_some, zpush0, zpush1, zpush2, zpush9, zb0, ite_not, z10, z01, if_true, if_false, Int.reduceAdd, Int.reduceSub, z1, z2, y1, y2])
  all_goals first | (exfalso; omega) | (refine ⟨⟨_, rfl, ?_⟩, zJ_ok h hn⟩; first | (congr 1; omega) | rfl)

theorem k_count_6 (h : zJ n T V) (hn : n < 1000)   : zSame 0 145 243 [(0, 6)] n T V := by
  have hS := h.str
  have hN := h.ok.n
  have hE := h.sr.n
  have m0 := zJ_m0 h
  have m1 := zJ_m1 h
  have m2 := zJ_m2 h
  have m3 := zJ_m3 h
  have t6 := st6 hS
  have t14 := st14 hS
  have hK := fun (t l : Int) g1 g2 g3 g4 => (h.ok.let (t := t) (l := l) g1 g2 g3 g4).1
  have a1 : V 6 5 = V 132 284 := h.sr.east.words
  have a2 : V 14 5 = V 132 285 := h.sr.west.words
  have a3 : V 6 7 = V 132 364 := h.sr.east.tlen
  have a4 : V 14 7 = V 132 365 := h.sr.west.tlen
  have a5 : V 6 9 = V 132 374 := h.sr.east.slen
  have a6 : V 14 9 = V 132 375 := h.sr.west.slen
  have a7 : V 22 5 = V 132 426 := h.sr.yards.1
  have a8 : V 56 1 = V 130 12 := h.tape.1
  obtain ⟨q0, ⟨q1, q2, q3, q4⟩, q5⟩ := h.sc
  have z1 := zlsum h.sr.east h.ok (by decide) (by decide)
  have z2 := zlsum h.sr.west h.ok (by decide) (by decide)
  simp only [Int.reduceAdd] at z1 z2
  obtain ⟨S1, y1⟩ : ∃ s, zsum (fun l => V 132 (3 * (26 * 0 + l))) 26 = s := ⟨_, rfl⟩
  obtain ⟨S2, y2⟩ : ∃ s, zsum (fun l => V 132 (3 * (26 * 1 + l))) 26 = s := ⟨_, rfl⟩
  rw [y1] at z1
  rw [y2] at z2
  unfold zSame
  repeat' (first
    | refine zwp_ret ?_
    | refine zwp_pos (by assumption) ?_
    | refine zwp_neg (by assumption) ?_
    | (refine zwp_ite ?_ ?_ <;> intro _)
    | simp (disch := first | decide | assumption | exact zbr _ _ | omega | (simp (disch := first | decide | omega) only [zwr_ne, zsr_ne, zwr_same, zsr_same, if_neg, if_pos, Int.reduceAdd]; omega)) only [e145, b145_0, b145_6, (b145_12 hS), b145_22, b145_28, (b145_34 hS), b145_47, b145_53, (b145_59 hS), (b145_132 hS), (b145_140 hS), b145_150, (b145_151 hS), b145_161, (b145_162 hS), (b145_173 hS), (b145_184 hS), (b145_195 hS), (b145_206 hS), (b145_217 hS), (b145_228 hS), (b145_239 hS), b145_247, e243, b243_0, b243_8, (b243_11 hS), b243_27, b243_35, (b243_38 hS), (b243_168 hS), b243_177, b243_179, (b243_181 hS), (b243_194 hS), (b243_207 hS), (b243_221 hS), (b243_230 hS), (b243_235 hS), (b243_245 hS), b243_255, (c24_0 hS), (c24_1 hS), (c24_2 hS), (c24_3 hS), (c151_0 hS), (c151_1 hS), (c151_2 hS), (c151_3 hS), (c26 hS), (c152 hS), c72_0, c72_1, c183_0, c183_1, c73, c86, c87, c150, c184, c196, c198, c29, (c28 (st1 hS)), (c157 hS), (c74_0 hS), (c74_1 hS), (c185 hS), (c187 hS), (sw243 (x1 := 6) (p := 194) (by decide)), (c243l hS hK), (c146 (st6 hS)), (c146 (st14 hS)), (sw145 (x1 := 6) (p := 195) (by decide)), Option.bind_some, zpush0, zpush1, zpush2, zpush9, zb0, ite_not, z10, z01, if_true, if_false, Int.reduceAdd, Int.reduceSub, z1, z2, y1, y2])
  all_goals first | (exfalso; omega) | (refine ⟨⟨_, rfl, ?_⟩, zJ_ok h hn⟩; first | (congr 1; omega) | rfl)

theorem k_count_7 (h : zJ n T V) (hn : n < 1000)   : zSame 0 145 243 [(0, 7)] n T V := by
  have hS := h.str
  have hN := h.ok.n
  have hE := h.sr.n
  have m0 := zJ_m0 h
  have m1 := zJ_m1 h
  have m2 := zJ_m2 h
  have m3 := zJ_m3 h
  have t6 := st6 hS
  have t14 := st14 hS
  have hK := fun (t l : Int) g1 g2 g3 g4 => (h.ok.let (t := t) (l := l) g1 g2 g3 g4).1
  have a1 : V 6 5 = V 132 284 := h.sr.east.words
  have a2 : V 14 5 = V 132 285 := h.sr.west.words
  have a3 : V 6 7 = V 132 364 := h.sr.east.tlen
  have a4 : V 14 7 = V 132 365 := h.sr.west.tlen
  have a5 : V 6 9 = V 132 374 := h.sr.east.slen
  have a6 : V 14 9 = V 132 375 := h.sr.west.slen
  have a7 : V 22 5 = V 132 426 := h.sr.yards.1
  have a8 : V 56 1 = V 130 12 := h.tape.1
  obtain ⟨q0, ⟨q1, q2, q3, q4⟩, q5⟩ := h.sc
  have z1 := zlsum h.sr.east h.ok (by decide) (by decide)
  have z2 := zlsum h.sr.west h.ok (by decide) (by decide)
  simp only [Int.reduceAdd] at z1 z2
  obtain ⟨S1, y1⟩ : ∃ s, zsum (fun l => V 132 (3 * (26 * 0 + l))) 26 = s := ⟨_, rfl⟩
  obtain ⟨S2, y2⟩ : ∃ s, zsum (fun l => V 132 (3 * (26 * 1 + l))) 26 = s := ⟨_, rfl⟩
  rw [y1] at z1
  rw [y2] at z2
  unfold zSame
  repeat' (first
    | refine zwp_ret ?_
    | refine zwp_pos (by assumption) ?_
    | refine zwp_neg (by assumption) ?_
    | (refine zwp_ite ?_ ?_ <;> intro _)
    | simp (disch := first | decide | assumption | exact zbr _ _ | omega | (simp (disch := first | decide | omega) only [zwr_ne, zsr_ne, zwr_same, zsr_same, if_neg, if_pos, Int.reduceAdd]; omega)) only [e145, b145_0, b145_6, (b145_12 hS), b145_22, b145_28, (b145_34 hS), b145_47, b145_53, (b145_59 hS), (b145_132 hS), (b145_140 hS), b145_150, (b145_151 hS), b145_161, (b145_162 hS), (b145_173 hS), (b145_184 hS), (b145_195 hS), (b145_206 hS), (b145_217 hS), (b145_228 hS), (b145_239 hS), b145_247, e243, b243_0, b243_8, (b243_11 hS), b243_27, b243_35, (b243_38 hS), (b243_168 hS), b243_177, b243_179, (b243_181 hS), (b243_194 hS), (b243_207 hS), (b243_221 hS), (b243_230 hS), (b243_235 hS), (b243_245 hS), b243_255, (c24_0 hS), (c24_1 hS), (c24_2 hS), (c24_3 hS), (c151_0 hS), (c151_1 hS), (c151_2 hS), (c151_3 hS), (c26 hS), (c152 hS), c72_0, c72_1, c183_0, c183_1, c73, c86, c87, c150, c184, c196, c198, c29, (c28 (st1 hS)), (c157 hS), (c74_0 hS), (c74_1 hS), (c185 hS), (c187 hS), (sw243 (x1 := 7) (p := 207) (by decide)), (c243l hS hK), (c146 (st6 hS)), (c146 (st14 hS)), (sw145 (x1 := 7) (p := 206) (by decide)), Option.bind_some, zpush0, zpush1, zpush2, zpush9, zb0, ite_not, z10, z01, if_true, if_false, Int.reduceAdd, Int.reduceSub, z1, z2, y1, y2])
  all_goals first | (exfalso; omega) | (refine ⟨⟨_, rfl, ?_⟩, zJ_ok h hn⟩; first | (congr 1; omega) | rfl)

theorem k_count_8 (h : zJ n T V) (hn : n < 1000)   : zSame 0 145 243 [(0, 8)] n T V := by
  have hS := h.str
  have hN := h.ok.n
  have hE := h.sr.n
  have m0 := zJ_m0 h
  have m1 := zJ_m1 h
  have m2 := zJ_m2 h
  have m3 := zJ_m3 h
  have t6 := st6 hS
  have t14 := st14 hS
  have hK := fun (t l : Int) g1 g2 g3 g4 => (h.ok.let (t := t) (l := l) g1 g2 g3 g4).1
  have a1 : V 6 5 = V 132 284 := h.sr.east.words
  have a2 : V 14 5 = V 132 285 := h.sr.west.words
  have a3 : V 6 7 = V 132 364 := h.sr.east.tlen
  have a4 : V 14 7 = V 132 365 := h.sr.west.tlen
  have a5 : V 6 9 = V 132 374 := h.sr.east.slen
  have a6 : V 14 9 = V 132 375 := h.sr.west.slen
  have a7 : V 22 5 = V 132 426 := h.sr.yards.1
  have a8 : V 56 1 = V 130 12 := h.tape.1
  obtain ⟨q0, ⟨q1, q2, q3, q4⟩, q5⟩ := h.sc
  have z1 := zlsum h.sr.east h.ok (by decide) (by decide)
  have z2 := zlsum h.sr.west h.ok (by decide) (by decide)
  simp only [Int.reduceAdd] at z1 z2
  obtain ⟨S1, y1⟩ : ∃ s, zsum (fun l => V 132 (3 * (26 * 0 + l))) 26 = s := ⟨_, rfl⟩
  obtain ⟨S2, y2⟩ : ∃ s, zsum (fun l => V 132 (3 * (26 * 1 + l))) 26 = s := ⟨_, rfl⟩
  rw [y1] at z1
  rw [y2] at z2
  unfold zSame
  repeat' (first
    | refine zwp_ret ?_
    | refine zwp_pos (by assumption) ?_
    | refine zwp_neg (by assumption) ?_
    | (refine zwp_ite ?_ ?_ <;> intro _)
    | simp (disch := first | decide | assumption | exact zbr _ _ | omega | (simp (disch := first | decide | omega) only [zwr_ne, zsr_ne, zwr_same, zsr_same, if_neg, if_pos, Int.reduceAdd]; omega)) only [e145, b145_0, b145_6, (b145_12 hS), b145_22, b145_28, (b145_34 hS), b145_47, b145_53, (b145_59 hS), (b145_132 hS), (b145_140 hS), b145_150, (b145_151 hS), b145_161, (b145_162 hS), (b145_173 hS), (b145_184 hS), (b145_195 hS), (b145_206 hS), (b145_217 hS), (b145_228 hS), (b145_239 hS), b145_247, e243, b243_0, b243_8, (b243_11 hS), b243_27, b243_35, (b243_38 hS), (b243_168 hS), b243_177, b243_179, (b243_181 hS), (b243_194 hS), (b243_207 hS), (b243_221 hS), (b243_230 hS), (b243_235 hS), (b243_245 hS), b243_255, (c24_0 hS), (c24_1 hS), (c24_2 hS), (c24_3 hS), (c151_0 hS), (c151_1 hS), (c151_2 hS), (c151_3 hS), (c26 hS), (c152 hS), c72_0, c72_1, c183_0, c183_1, c73, c86, c87, c150, c184, c196, c198, c29, (c28 (st1 hS)), (c157 hS), (c74_0 hS), (c74_1 hS), (c185 hS), (c187 hS), (sw243 (x1 := 8) (p := 207) (by decide)), (c243l hS hK), (c146 (st6 hS)), (c146 (st14 hS)), (sw145 (x1 := 8) (p := 217) (by decide)), Option.bind_some, zpush0, zpush1, zpush2, zpush9, zb0, ite_not, z10, z01, if_true, if_false, Int.reduceAdd, Int.reduceSub, z1, z2, y1, y2])
  all_goals first | (exfalso; omega) | (refine ⟨⟨_, rfl, ?_⟩, zJ_ok h hn⟩; first | (congr 1; omega) | rfl)

theorem k_count_9 (h : zJ n T V) (hn : n < 1000)   : zSame 0 145 243 [(0, 9)] n T V := by
  have hS := h.str
  have hN := h.ok.n
  have hE := h.sr.n
  have m0 := zJ_m0 h
  have m1 := zJ_m1 h
  have m2 := zJ_m2 h
  have m3 := zJ_m3 h
  have t6 := st6 hS
  have t14 := st14 hS
  have hK := fun (t l : Int) g1 g2 g3 g4 => (h.ok.let (t := t) (l := l) g1 g2 g3 g4).1
  have a1 : V 6 5 = V 132 284 := h.sr.east.words
  have a2 : V 14 5 = V 132 285 := h.sr.west.words
  have a3 : V 6 7 = V 132 364 := h.sr.east.tlen
  have a4 : V 14 7 = V 132 365 := h.sr.west.tlen
  have a5 : V 6 9 = V 132 374 := h.sr.east.slen
  have a6 : V 14 9 = V 132 375 := h.sr.west.slen
  have a7 : V 22 5 = V 132 426 := h.sr.yards.1
  have a8 : V 56 1 = V 130 12 := h.tape.1
  obtain ⟨q0, ⟨q1, q2, q3, q4⟩, q5⟩ := h.sc
  have z1 := zlsum h.sr.east h.ok (by decide) (by decide)
  have z2 := zlsum h.sr.west h.ok (by decide) (by decide)
  simp only [Int.reduceAdd] at z1 z2
  obtain ⟨S1, y1⟩ : ∃ s, zsum (fun l => V 132 (3 * (26 * 0 + l))) 26 = s := ⟨_, rfl⟩
  obtain ⟨S2, y2⟩ : ∃ s, zsum (fun l => V 132 (3 * (26 * 1 + l))) 26 = s := ⟨_, rfl⟩
  rw [y1] at z1
  rw [y2] at z2
  unfold zSame
  repeat' (first
    | refine zwp_ret ?_
    | refine zwp_pos (by assumption) ?_
    | refine zwp_neg (by assumption) ?_
    | (refine zwp_ite ?_ ?_ <;> intro _)
    | simp (disch := first | decide | assumption | exact zbr _ _ | omega | (simp (disch := first | decide | omega) only [zwr_ne, zsr_ne, zwr_same, zsr_same, if_neg, if_pos, Int.reduceAdd]; omega)) only [e145, b145_0, b145_6, (b145_12 hS), b145_22, b145_28, (b145_34 hS), b145_47, b145_53, (b145_59 hS), (b145_132 hS), (b145_140 hS), b145_150, (b145_151 hS), b145_161, (b145_162 hS), (b145_173 hS), (b145_184 hS), (b145_195 hS), (b145_206 hS), (b145_217 hS), (b145_228 hS), (b145_239 hS), b145_247, e243, b243_0, b243_8, (b243_11 hS), b243_27, b243_35, (b243_38 hS), (b243_168 hS), b243_177, b243_179, (b243_181 hS), (b243_194 hS), (b243_207 hS), (b243_221 hS), (b243_230 hS), (b243_235 hS), (b243_245 hS), b243_255, (c24_0 hS), (c24_1 hS), (c24_2 hS), (c24_3 hS), (c151_0 hS), (c151_1 hS), (c151_2 hS), (c151_3 hS), (c26 hS), (c152 hS), c72_0, c72_1, c183_0, c183_1, c73, c86, c87, c150, c184, c196, c198, c29, (c28 (st1 hS)), (c157 hS), (c74_0 hS), (c74_1 hS), (c185 hS), (c187 hS), (sw243 (x1 := 9) (p := 221) (by decide)), (c243l hS hK), (c146 (st6 hS)), (c146 (st14 hS)), (sw145 (x1 := 9) (p := 228) (by decide)), Option.bind_some, zpush0, zpush1, zpush2, zpush9, zb0, ite_not, z10, z01, if_true, if_false, Int.reduceAdd, Int.reduceSub, z1, z2, y1, y2])
  all_goals first | (exfalso; omega) | (refine ⟨⟨_, rfl, ?_⟩, zJ_ok h hn⟩; first | (congr 1; omega) | rfl)

theorem k_count_10 (h : zJ n T V) (hn : n < 1000)   : zSame 0 145 243 [(0, 10)] n T V := by
  have hS := h.str
  have hN := h.ok.n
  have hE := h.sr.n
  have m0 := zJ_m0 h
  have m1 := zJ_m1 h
  have m2 := zJ_m2 h
  have m3 := zJ_m3 h
  have t6 := st6 hS
  have t14 := st14 hS
  have hK := fun (t l : Int) g1 g2 g3 g4 => (h.ok.let (t := t) (l := l) g1 g2 g3 g4).1
  have a1 : V 6 5 = V 132 284 := h.sr.east.words
  have a2 : V 14 5 = V 132 285 := h.sr.west.words
  have a3 : V 6 7 = V 132 364 := h.sr.east.tlen
  have a4 : V 14 7 = V 132 365 := h.sr.west.tlen
  have a5 : V 6 9 = V 132 374 := h.sr.east.slen
  have a6 : V 14 9 = V 132 375 := h.sr.west.slen
  have a7 : V 22 5 = V 132 426 := h.sr.yards.1
  have a8 : V 56 1 = V 130 12 := h.tape.1
  obtain ⟨q0, ⟨q1, q2, q3, q4⟩, q5⟩ := h.sc
  have z1 := zlsum h.sr.east h.ok (by decide) (by decide)
  have z2 := zlsum h.sr.west h.ok (by decide) (by decide)
  simp only [Int.reduceAdd] at z1 z2
  obtain ⟨S1, y1⟩ : ∃ s, zsum (fun l => V 132 (3 * (26 * 0 + l))) 26 = s := ⟨_, rfl⟩
  obtain ⟨S2, y2⟩ : ∃ s, zsum (fun l => V 132 (3 * (26 * 1 + l))) 26 = s := ⟨_, rfl⟩
  rw [y1] at z1
  rw [y2] at z2
  unfold zSame
  repeat' (first
    | refine zwp_ret ?_
    | refine zwp_pos (by assumption) ?_
    | refine zwp_neg (by assumption) ?_
    | (refine zwp_ite ?_ ?_ <;> intro _)
    | simp (disch := first | decide | assumption | exact zbr _ _ | omega | (simp (disch := first | decide | omega) only [zwr_ne, zsr_ne, zwr_same, zsr_same, if_neg, if_pos, Int.reduceAdd]; omega)) only [e145, b145_0, b145_6, (b145_12 hS), b145_22, b145_28, (b145_34 hS), b145_47, b145_53, (b145_59 hS), (b145_132 hS), (b145_140 hS), b145_150, (b145_151 hS), b145_161, (b145_162 hS), (b145_173 hS), (b145_184 hS), (b145_195 hS), (b145_206 hS), (b145_217 hS), (b145_228 hS), (b145_239 hS), b145_247, e243, b243_0, b243_8, (b243_11 hS), b243_27, b243_35, (b243_38 hS), (b243_168 hS), b243_177, b243_179, (b243_181 hS), (b243_194 hS), (b243_207 hS), (b243_221 hS), (b243_230 hS), (b243_235 hS), (b243_245 hS), b243_255, (c24_0 hS), (c24_1 hS), (c24_2 hS), (c24_3 hS), (c151_0 hS), (c151_1 hS), (c151_2 hS), (c151_3 hS), (c26 hS), (c152 hS), c72_0, c72_1, c183_0, c183_1, c73, c86, c87, c150, c184, c196, c198, c29, (c28 (st1 hS)), (c157 hS), (c74_0 hS), (c74_1 hS), (c185 hS), (c187 hS), (sw243 (x1 := 10) (p := 230) (by decide)), (c243l hS hK), (c146 (st6 hS)), (c146 (st14 hS)), (sw145 (x1 := 10) (p := 239) (by decide)), Option.bind_some, zpush0, zpush1, zpush2, zpush9, zb0, ite_not, z10, z01, if_true, if_false, Int.reduceAdd, Int.reduceSub, z1, z2, y1, y2])
  all_goals first | (exfalso; omega) | (refine ⟨⟨_, rfl, ?_⟩, zJ_ok h hn⟩; first | (congr 1; omega) | rfl)

theorem k_count_11 (h : zJ n T V) (hn : n < 1000)   : zSame 0 145 243 [(0, 11)] n T V := by
  have hS := h.str
  have hN := h.ok.n
  have hE := h.sr.n
  have m0 := zJ_m0 h
  have m1 := zJ_m1 h
  have m2 := zJ_m2 h
  have m3 := zJ_m3 h
  have t6 := st6 hS
  have t14 := st14 hS
  have hK := fun (t l : Int) g1 g2 g3 g4 => (h.ok.let (t := t) (l := l) g1 g2 g3 g4).1
  have a1 : V 6 5 = V 132 284 := h.sr.east.words
  have a2 : V 14 5 = V 132 285 := h.sr.west.words
  have a3 : V 6 7 = V 132 364 := h.sr.east.tlen
  have a4 : V 14 7 = V 132 365 := h.sr.west.tlen
  have a5 : V 6 9 = V 132 374 := h.sr.east.slen
  have a6 : V 14 9 = V 132 375 := h.sr.west.slen
  have a7 : V 22 5 = V 132 426 := h.sr.yards.1
  have a8 : V 56 1 = V 130 12 := h.tape.1
  obtain ⟨q0, ⟨q1, q2, q3, q4⟩, q5⟩ := h.sc
  have z1 := zlsum h.sr.east h.ok (by decide) (by decide)
  have z2 := zlsum h.sr.west h.ok (by decide) (by decide)
  simp only [Int.reduceAdd] at z1 z2
  obtain ⟨S1, y1⟩ : ∃ s, zsum (fun l => V 132 (3 * (26 * 0 + l))) 26 = s := ⟨_, rfl⟩
  obtain ⟨S2, y2⟩ : ∃ s, zsum (fun l => V 132 (3 * (26 * 1 + l))) 26 = s := ⟨_, rfl⟩
  rw [y1] at z1
  rw [y2] at z2
  unfold zSame
  repeat' (first
    | refine zwp_ret ?_
    | refine zwp_pos (by assumption) ?_
    | refine zwp_neg (by assumption) ?_
    | (refine zwp_ite ?_ ?_ <;> intro _)
    | simp (disch := first | decide | assumption | exact zbr _ _ | omega | (simp (disch := first | decide | omega) only [zwr_ne, zsr_ne, zwr_same, zsr_same, if_neg, if_pos, Int.reduceAdd]; omega)) only [e145, b145_0, b145_6, (b145_12 hS), b145_22, b145_28, (b145_34 hS), b145_47, b145_53, (b145_59 hS), (b145_132 hS), (b145_140 hS), b145_150, (b145_151 hS), b145_161, (b145_162 hS), (b145_173 hS), (b145_184 hS), (b145_195 hS), (b145_206 hS), (b145_217 hS), (b145_228 hS), (b145_239 hS), b145_247, e243, b243_0, b243_8, (b243_11 hS), b243_27, b243_35, (b243_38 hS), (b243_168 hS), b243_177, b243_179, (b243_181 hS), (b243_194 hS), (b243_207 hS), (b243_221 hS), (b243_230 hS), (b243_235 hS), (b243_245 hS), b243_255, (c24_0 hS), (c24_1 hS), (c24_2 hS), (c24_3 hS), (c151_0 hS), (c151_1 hS), (c151_2 hS), (c151_3 hS), (c26 hS), (c152 hS), c72_0, c72_1, c183_0, c183_1, c73, c86, c87, c150, c184, c196, c198, c29, (c28 (st1 hS)), (c157 hS), (c74_0 hS), (c74_1 hS), (c185 hS), (c187 hS), (sw243 (x1 := 11) (p := 235) (by decide)), (c243l hS hK), (c146 (st6 hS)), (c146 (st14 hS)), Option.bind_some, zpush0, zpush1, zpush2, zpush9, zb0, ite_not, z10, z01, if_true, if_false, Int.reduceAdd, Int.reduceSub, z1, z2, y1, y2])
  all_goals first | (exfalso; omega) | (refine ⟨⟨_, rfl, ?_⟩, zJ_ok h hn⟩; first | (congr 1; omega) | rfl)

theorem k_count_12 (h : zJ n T V) (hn : n < 1000)   : zSame 0 145 243 [(0, 12)] n T V := by
  have hS := h.str
  have hN := h.ok.n
  have hE := h.sr.n
  have m0 := zJ_m0 h
  have m1 := zJ_m1 h
  have m2 := zJ_m2 h
  have m3 := zJ_m3 h
  have t6 := st6 hS
  have t14 := st14 hS
  have hK := fun (t l : Int) g1 g2 g3 g4 => (h.ok.let (t := t) (l := l) g1 g2 g3 g4).1
  have a1 : V 6 5 = V 132 284 := h.sr.east.words
  have a2 : V 14 5 = V 132 285 := h.sr.west.words
  have a3 : V 6 7 = V 132 364 := h.sr.east.tlen
  have a4 : V 14 7 = V 132 365 := h.sr.west.tlen
  have a5 : V 6 9 = V 132 374 := h.sr.east.slen
  have a6 : V 14 9 = V 132 375 := h.sr.west.slen
  have a7 : V 22 5 = V 132 426 := h.sr.yards.1
  have a8 : V 56 1 = V 130 12 := h.tape.1
  obtain ⟨q0, ⟨q1, q2, q3, q4⟩, q5⟩ := h.sc
  have z1 := zlsum h.sr.east h.ok (by decide) (by decide)
  have z2 := zlsum h.sr.west h.ok (by decide) (by decide)
  simp only [Int.reduceAdd] at z1 z2
  obtain ⟨S1, y1⟩ : ∃ s, zsum (fun l => V 132 (3 * (26 * 0 + l))) 26 = s := ⟨_, rfl⟩
  obtain ⟨S2, y2⟩ : ∃ s, zsum (fun l => V 132 (3 * (26 * 1 + l))) 26 = s := ⟨_, rfl⟩
  rw [y1] at z1
  rw [y2] at z2
  unfold zSame
  repeat' (first
    | refine zwp_ret ?_
    | refine zwp_pos (by assumption) ?_
    | refine zwp_neg (by assumption) ?_
    | (refine zwp_ite ?_ ?_ <;> intro _)
    | simp (disch := first | decide | assumption | exact zbr _ _ | omega | (simp (disch := first | decide | omega) only [zwr_ne, zsr_ne, zwr_same, zsr_same, if_neg, if_pos, Int.reduceAdd]; omega)) only [e145, b145_0, b145_6, (b145_12 hS), b145_22, b145_28, (b145_34 hS), b145_47, b145_53, (b145_59 hS), (b145_132 hS), (b145_140 hS), b145_150, (b145_151 hS), b145_161, (b145_162 hS), (b145_173 hS), (b145_184 hS), (b145_195 hS), (b145_206 hS), (b145_217 hS), (b145_228 hS), (b145_239 hS), b145_247, e243, b243_0, b243_8, (b243_11 hS), b243_27, b243_35, (b243_38 hS), (b243_168 hS), b243_177, b243_179, (b243_181 hS), (b243_194 hS), (b243_207 hS), (b243_221 hS), (b243_230 hS), (b243_235 hS), (b243_245 hS), b243_255, (c24_0 hS), (c24_1 hS), (c24_2 hS), (c24_3 hS), (c151_0 hS), (c151_1 hS), (c151_2 hS), (c151_3 hS), (c26 hS), (c152 hS), c72_0, c72_1, c183_0, c183_1, c73, c86, c87, c150, c184, c196, c198, c29, (c28 (st1 hS)), (c157 hS), (c74_0 hS), (c74_1 hS), (c185 hS), (c187 hS), (sw243 (x1 := 12) (p := 235) (by decide)), (c243l hS hK), (c146 (st6 hS)), (c146 (st14 hS)), Option.bind_some, zpush0, zpush1, zpush2, zpush9, zb0, ite_not, z10, z01, if_true, if_false, Int.reduceAdd, Int.reduceSub, z1, z2, y1, y2])
  all_goals first | (exfalso; omega) | (refine ⟨⟨_, rfl, ?_⟩, zJ_ok h hn⟩; first | (congr 1; omega) | rfl)

theorem k_count_13 (h : zJ n T V) (hn : n < 1000)   : zSame 0 145 243 [(0, 13)] n T V := by
  have hS := h.str
  have hN := h.ok.n
  have hE := h.sr.n
  have m0 := zJ_m0 h
  have m1 := zJ_m1 h
  have m2 := zJ_m2 h
  have m3 := zJ_m3 h
  have t6 := st6 hS
  have t14 := st14 hS
  have hK := fun (t l : Int) g1 g2 g3 g4 => (h.ok.let (t := t) (l := l) g1 g2 g3 g4).1
  have a1 : V 6 5 = V 132 284 := h.sr.east.words
  have a2 : V 14 5 = V 132 285 := h.sr.west.words
  have a3 : V 6 7 = V 132 364 := h.sr.east.tlen
  have a4 : V 14 7 = V 132 365 := h.sr.west.tlen
  have a5 : V 6 9 = V 132 374 := h.sr.east.slen
  have a6 : V 14 9 = V 132 375 := h.sr.west.slen
  have a7 : V 22 5 = V 132 426 := h.sr.yards.1
  have a8 : V 56 1 = V 130 12 := h.tape.1
  obtain ⟨q0, ⟨q1, q2, q3, q4⟩, q5⟩ := h.sc
  have z1 := zlsum h.sr.east h.ok (by decide) (by decide)
  have z2 := zlsum h.sr.west h.ok (by decide) (by decide)
  simp only [Int.reduceAdd] at z1 z2
  obtain ⟨S1, y1⟩ : ∃ s, zsum (fun l => V 132 (3 * (26 * 0 + l))) 26 = s := ⟨_, rfl⟩
  obtain ⟨S2, y2⟩ : ∃ s, zsum (fun l => V 132 (3 * (26 * 1 + l))) 26 = s := ⟨_, rfl⟩
  rw [y1] at z1
  rw [y2] at z2
  unfold zSame
  repeat' (first
    | refine zwp_ret ?_
    | refine zwp_pos (by assumption) ?_
    | refine zwp_neg (by assumption) ?_
    | (refine zwp_ite ?_ ?_ <;> intro _)
    | simp (disch := first | decide | assumption | exact zbr _ _ | omega | (simp (disch := first | decide | omega) only [zwr_ne, zsr_ne, zwr_same, zsr_same, if_neg, if_pos, Int.reduceAdd]; omega)) only [e145, b145_0, b145_6, (b145_12 hS), b145_22, b145_28, (b145_34 hS), b145_47, b145_53, (b145_59 hS), (b145_132 hS), (b145_140 hS), b145_150, (b145_151 hS), b145_161, (b145_162 hS), (b145_173 hS), (b145_184 hS), (b145_195 hS), (b145_206 hS), (b145_217 hS), (b145_228 hS), (b145_239 hS), b145_247, e243, b243_0, b243_8, (b243_11 hS), b243_27, b243_35, (b243_38 hS), (b243_168 hS), b243_177, b243_179, (b243_181 hS), (b243_194 hS), (b243_207 hS), (b243_221 hS), (b243_230 hS), (b243_235 hS), (b243_245 hS), b243_255, (c24_0 hS), (c24_1 hS), (c24_2 hS), (c24_3 hS), (c151_0 hS), (c151_1 hS), (c151_2 hS), (c151_3 hS), (c26 hS), (c152 hS), c72_0, c72_1, c183_0, c183_1, c73, c86, c87, c150, c184, c196, c198, c29, (c28 (st1 hS)), (c157 hS), (c74_0 hS), (c74_1 hS), (c185 hS), (c187 hS), (sw243 (x1 := 13) (p := 245) (by decide)), (c243l hS hK), (c146 (st6 hS)), (c146 (st14 hS)), Option.bind_some, zpush0, zpush1, zpush2, zpush9, zb0, ite_not, z10, z01, if_true, if_false, Int.reduceAdd, Int.reduceSub, z1, z2, y1, y2])
  all_goals first | (exfalso; omega) | (refine ⟨⟨_, rfl, ?_⟩, zJ_ok h hn⟩; first | (congr 1; omega) | rfl)

theorem k_count_14 (h : zJ n T V) (hn : n < 1000)   : zSame 0 145 243 [(0, 14)] n T V := by
  have hS := h.str
  have hN := h.ok.n
  have hE := h.sr.n
  have m0 := zJ_m0 h
  have m1 := zJ_m1 h
  have m2 := zJ_m2 h
  have m3 := zJ_m3 h
  have t6 := st6 hS
  have t14 := st14 hS
  have hK := fun (t l : Int) g1 g2 g3 g4 => (h.ok.let (t := t) (l := l) g1 g2 g3 g4).1
  have a1 : V 6 5 = V 132 284 := h.sr.east.words
  have a2 : V 14 5 = V 132 285 := h.sr.west.words
  have a3 : V 6 7 = V 132 364 := h.sr.east.tlen
  have a4 : V 14 7 = V 132 365 := h.sr.west.tlen
  have a5 : V 6 9 = V 132 374 := h.sr.east.slen
  have a6 : V 14 9 = V 132 375 := h.sr.west.slen
  have a7 : V 22 5 = V 132 426 := h.sr.yards.1
  have a8 : V 56 1 = V 130 12 := h.tape.1
  obtain ⟨q0, ⟨q1, q2, q3, q4⟩, q5⟩ := h.sc
  have z1 := zlsum h.sr.east h.ok (by decide) (by decide)
  have z2 := zlsum h.sr.west h.ok (by decide) (by decide)
  simp only [Int.reduceAdd] at z1 z2
  obtain ⟨S1, y1⟩ : ∃ s, zsum (fun l => V 132 (3 * (26 * 0 + l))) 26 = s := ⟨_, rfl⟩
  obtain ⟨S2, y2⟩ : ∃ s, zsum (fun l => V 132 (3 * (26 * 1 + l))) 26 = s := ⟨_, rfl⟩
  rw [y1] at z1
  rw [y2] at z2
  unfold zSame
  repeat' (first
    | refine zwp_ret ?_
    | refine zwp_pos (by assumption) ?_
    | refine zwp_neg (by assumption) ?_
    | (refine zwp_ite ?_ ?_ <;> intro _)
    | simp (disch := first | decide | assumption | exact zbr _ _ | omega | (simp (disch := first | decide | omega) only [zwr_ne, zsr_ne, zwr_same, zsr_same, if_neg, if_pos, Int.reduceAdd]; omega)) only [e145, b145_0, b145_6, (b145_12 hS), b145_22, b145_28, (b145_34 hS), b145_47, b145_53, (b145_59 hS), (b145_132 hS), (b145_140 hS), b145_150, (b145_151 hS), b145_161, (b145_162 hS), (b145_173 hS), (b145_184 hS), (b145_195 hS), (b145_206 hS), (b145_217 hS), (b145_228 hS), (b145_239 hS), b145_247, e243, b243_0, b243_8, (b243_11 hS), b243_27, b243_35, (b243_38 hS), (b243_168 hS), b243_177, b243_179, (b243_181 hS), (b243_194 hS), (b243_207 hS), (b243_221 hS), (b243_230 hS), (b243_235 hS), (b243_245 hS), b243_255, (c24_0 hS), (c24_1 hS), (c24_2 hS), (c24_3 hS), (c151_0 hS), (c151_1 hS), (c151_2 hS), (c151_3 hS), (c26 hS), (c152 hS), c72_0, c72_1, c183_0, c183_1, c73, c86, c87, c150, c184, c196, c198, c29, (c28 (st1 hS)), (c157 hS), (c74_0 hS), (c74_1 hS), (c185 hS), (c187 hS), (sw243 (x1 := 14) (p := 245) (by decide)), (c243l hS hK), (c146 (st6 hS)), (c146 (st14 hS)), Option.bind_some, zpush0, zpush1, zpush2, zpush9, zb0, ite_not, z10, z01, if_true, if_false, Int.reduceAdd, Int.reduceSub, z1, z2, y1, y2])
  all_goals first | (exfalso; omega) | (refine ⟨⟨_, rfl, ?_⟩, zJ_ok h hn⟩; first | (congr 1; omega) | rfl)

theorem k_count_m {x1 : Int} (h : zJ n T V) (hn : n < 1000) (g : 15 ≤ x1 ∧ x1 ≤ 28) (zx1 : z32 x1) : zSame 0 145 243 [(0, x1)] n T V := by
  have hS := h.str
  have hN := h.ok.n
  have hE := h.sr.n
  have m0 := zJ_m0 h
  have m1 := zJ_m1 h
  have m2 := zJ_m2 h
  have m3 := zJ_m3 h
  have t6 := st6 hS
  have t14 := st14 hS
  have hK := fun (t l : Int) g1 g2 g3 g4 => (h.ok.let (t := t) (l := l) g1 g2 g3 g4).1
  have a1 : V 6 5 = V 132 284 := h.sr.east.words
  have a2 : V 14 5 = V 132 285 := h.sr.west.words
  have a3 : V 6 7 = V 132 364 := h.sr.east.tlen
  have a4 : V 14 7 = V 132 365 := h.sr.west.tlen
  have a5 : V 6 9 = V 132 374 := h.sr.east.slen
  have a6 : V 14 9 = V 132 375 := h.sr.west.slen
  have a7 : V 22 5 = V 132 426 := h.sr.yards.1
  have a8 : V 56 1 = V 130 12 := h.tape.1
  obtain ⟨q0, ⟨q1, q2, q3, q4⟩, q5⟩ := h.sc
  have z1 := zlsum h.sr.east h.ok (by decide) (by decide)
  have z2 := zlsum h.sr.west h.ok (by decide) (by decide)
  simp only [Int.reduceAdd] at z1 z2
  obtain ⟨S1, y1⟩ : ∃ s, zsum (fun l => V 132 (3 * (26 * 0 + l))) 26 = s := ⟨_, rfl⟩
  obtain ⟨S2, y2⟩ : ∃ s, zsum (fun l => V 132 (3 * (26 * 1 + l))) 26 = s := ⟨_, rfl⟩
  rw [y1] at z1
  rw [y2] at z2
  have qm : 21 < x1 ∨ (0 ≤ V 132 (286 + x1 - 15) ∧ V 132 (286 + x1 - 15) ≤ 6) := by
    by_cases c : 21 < x1
    · exact Or.inl c
    · have := (h.ok.mir (i := x1 - 15) (by omega) (by omega)).1
      rw [show 286 + (x1 - 15) = 286 + x1 - 15 by omega] at this
      exact Or.inr this
  unfold zSame
  repeat' (first
    | refine zwp_ret ?_
    | refine zwp_pos (by assumption) ?_
    | refine zwp_neg (by assumption) ?_
    | (refine zwp_ite ?_ ?_ <;> intro _)
    | simp (disch := first | decide | assumption | exact zbr _ _ | omega | (simp (disch := first | decide | omega) only [zwr_ne, zsr_ne, zwr_same, zsr_same, if_neg, if_pos, Int.reduceAdd]; omega)) only [e145, b145_0, b145_6, (b145_12 hS), b145_22, b145_28, (b145_34 hS), b145_47, b145_53, (b145_59 hS), (b145_132 hS), (b145_140 hS), b145_150, (b145_151 hS), b145_161, (b145_162 hS), (b145_173 hS), (b145_184 hS), (b145_195 hS), (b145_206 hS), (b145_217 hS), (b145_228 hS), (b145_239 hS), b145_247, e243, b243_0, b243_8, (b243_11 hS), b243_27, b243_35, (b243_38 hS), (b243_168 hS), b243_177, b243_179, (b243_181 hS), (b243_194 hS), (b243_207 hS), (b243_221 hS), (b243_230 hS), (b243_235 hS), (b243_245 hS), b243_255, (c24_0 hS), (c24_1 hS), (c24_2 hS), (c24_3 hS), (c151_0 hS), (c151_1 hS), (c151_2 hS), (c151_3 hS), (c26 hS), (c152 hS), c72_0, c72_1, c183_0, c183_1, c72, c73, c86, c87, c150, c183, c184, c196, c198, c29, (c28 (st1 hS)), (c157 hS), (c74_0 hS), (c74_1 hS), (c185 hS), (c187 hS), Option.bind_some, zpush0, zpush1, zpush2, zpush9, zb0, ite_not, z10, z01, if_true, if_false, zwr_ne, zwr_same, Int.reduceAdd, Int.reduceMul, Int.add_zero])
  all_goals first | (exfalso; omega) | skip
  all_goals refine ⟨⟨_, rfl, ?_⟩, zJ_ok h hn⟩
  all_goals first
    | (have q : V 4 (x1 - 15) = V 132 (286 + (x1 - 15)) + 1 := (h.sr.mir (by omega) (by omega)).1
       rw [q, show 286 + x1 - 15 = 286 + (x1 - 15) by omega])
    | (have q : V 5 (x1 - 22) = V 132 (293 + (x1 - 22)) := (h.sr.mir (by omega) (by omega)).2
       rw [q, show 293 + x1 - 22 = 293 + (x1 - 22) by omega])

theorem k_count_r {x1 : Int} (h : zJ n T V) (hn : n < 1000) (g : x1 < 0 ∨ 28 < x1) (zx1 : z32 x1) : zSame 0 145 243 [(0, x1)] n T V := by
  have hS := h.str
  have hN := h.ok.n
  have hE := h.sr.n
  have m0 := zJ_m0 h
  have m1 := zJ_m1 h
  have m2 := zJ_m2 h
  have m3 := zJ_m3 h
  have t6 := st6 hS
  have t14 := st14 hS
  have hK := fun (t l : Int) g1 g2 g3 g4 => (h.ok.let (t := t) (l := l) g1 g2 g3 g4).1
  have a1 : V 6 5 = V 132 284 := h.sr.east.words
  have a2 : V 14 5 = V 132 285 := h.sr.west.words
  have a3 : V 6 7 = V 132 364 := h.sr.east.tlen
  have a4 : V 14 7 = V 132 365 := h.sr.west.tlen
  have a5 : V 6 9 = V 132 374 := h.sr.east.slen
  have a6 : V 14 9 = V 132 375 := h.sr.west.slen
  have a7 : V 22 5 = V 132 426 := h.sr.yards.1
  have a8 : V 56 1 = V 130 12 := h.tape.1
  obtain ⟨q0, ⟨q1, q2, q3, q4⟩, q5⟩ := h.sc
  have z1 := zlsum h.sr.east h.ok (by decide) (by decide)
  have z2 := zlsum h.sr.west h.ok (by decide) (by decide)
  simp only [Int.reduceAdd] at z1 z2
  obtain ⟨S1, y1⟩ : ∃ s, zsum (fun l => V 132 (3 * (26 * 0 + l))) 26 = s := ⟨_, rfl⟩
  obtain ⟨S2, y2⟩ : ∃ s, zsum (fun l => V 132 (3 * (26 * 1 + l))) 26 = s := ⟨_, rfl⟩
  rw [y1] at z1
  rw [y2] at z2
  unfold zSame
  repeat' (first
    | refine zwp_ret ?_
    | refine zwp_pos (by assumption) ?_
    | refine zwp_neg (by assumption) ?_
    | (refine zwp_ite ?_ ?_ <;> intro _)
    | simp (disch := first | decide | assumption | exact zbr _ _ | omega | (simp (disch := first | decide | omega) only [zwr_ne, zsr_ne, zwr_same, zsr_same, if_neg, if_pos, Int.reduceAdd]; omega)) only [e145, b145_0, b145_6, (b145_12 hS), b145_22, b145_28, (b145_34 hS), b145_47, b145_53, (b145_59 hS), (b145_132 hS), (b145_140 hS), b145_150, (b145_151 hS), b145_161, (b145_162 hS), (b145_173 hS), (b145_184 hS), (b145_195 hS), (b145_206 hS), (b145_217 hS), (b145_228 hS), (b145_239 hS), b145_247, e243, b243_0, b243_8, (b243_11 hS), b243_27, b243_35, (b243_38 hS), (b243_168 hS), b243_177, b243_179, (b243_181 hS), (b243_194 hS), (b243_207 hS), (b243_221 hS), (b243_230 hS), (b243_235 hS), (b243_245 hS), b243_255, (c24_0 hS), (c24_1 hS), (c24_2 hS), (c24_3 hS), (c151_0 hS), (c151_1 hS), (c151_2 hS), (c151_3 hS), (c26 hS), (c152 hS), c72_0, c72_1, c183_0, c183_1, c72, c73, c86, c87, c150, c183, c184, c196, c198, c29, (c28 (st1 hS)), (c157 hS), (c74_0 hS), (c74_1 hS), (c185 hS), (c187 hS), (sw145 (x1 := x1) (p := 247) (if_neg (by omega))), (sw243 (x1 := x1) (p := 255) (if_neg (by omega))), (c243l hS hK), Option.bind_some, zpush0, zpush1, zpush2, zpush9, zb0, ite_not, z10, z01, if_true, if_false, zwr_ne, zwr_same, Int.reduceAdd, Int.reduceMul, Int.add_zero])
  all_goals first | (exfalso; omega) | exact ⟨⟨_, rfl, rfl⟩, zJ_ok h hn⟩

theorem k_count {x1 : Int} (h : zJ n T V) (hn : n < 1000) (zx1 : z32 x1) : zSame 0 145 243 [(0, x1)] n T V := by
  by_cases h0 : x1 = 0
  · subst h0; exact k_count_0 h hn
  by_cases h1 : x1 = 1
  · subst h1; exact k_count_1 h hn
  by_cases h2 : x1 = 2
  · subst h2; exact k_count_2 h hn
  by_cases h3 : x1 = 3
  · subst h3; exact k_count_3 h hn
  by_cases h4 : x1 = 4
  · subst h4; exact k_count_4 h hn
  by_cases h5 : x1 = 5
  · subst h5; exact k_count_5 h hn
  by_cases h6 : x1 = 6
  · subst h6; exact k_count_6 h hn
  by_cases h7 : x1 = 7
  · subst h7; exact k_count_7 h hn
  by_cases h8 : x1 = 8
  · subst h8; exact k_count_8 h hn
  by_cases h9 : x1 = 9
  · subst h9; exact k_count_9 h hn
  by_cases h10 : x1 = 10
  · subst h10; exact k_count_10 h hn
  by_cases h11 : x1 = 11
  · subst h11; exact k_count_11 h hn
  by_cases h12 : x1 = 12
  · subst h12; exact k_count_12 h hn
  by_cases h13 : x1 = 13
  · subst h13; exact k_count_13 h hn
  by_cases h14 : x1 = 14
  · subst h14; exact k_count_14 h hn
  by_cases g : 15 ≤ x1 ∧ x1 ≤ 28
  · exact k_count_m h hn g zx1
  · exact k_count_r h hn (by omega) zx1

end CALL
