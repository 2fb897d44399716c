/-! more plain calls -/
section CALL
variable {n : Int} {T : zT} {V : zM}
theorem k_size {x1 : Int} (h : zJ n T V) (hn : n < 1000)  (zx1 : z32 x1) : zSame 0 23 154 [(0, x1)] n T V := by
  have hS := h.str
  have hN := h.ok.n
  have hE := h.sr.n
  have m0 := zJ_m0 h
  have m1 := zJ_m1 h
  have m2 := zJ_m2 h
  have m3 := zJ_m3 h
  have t6 := st6 hS
  have t14 := st14 hS
  obtain ⟨⟨s1, s2, s3⟩, ⟨s4, s5, s6, s7⟩, s8, s9, s10, s11, s12⟩ := h.sc
  unfold zSame
  repeat' (first
    | refine zwp_ret ?_
    | refine zwp_pos (by assumption) ?_
    | refine zwp_neg (by assumption) ?_
    | (refine zwp_ite ?_ ?_ <;> intro _)
    | simp (disch := first | decide | assumption | exact zbr _ _ | omega | (simp (disch := first | decide | omega) only [zwr_ne, zsr_ne, zwr_same, zsr_same, if_neg, if_pos, Int.reduceAdd]; omega)) only [e23, b23_0, b23_5, (b23_11 hS), b23_16, (b23_17 hS), (b23_33 hS), b23_38, e154, b154_0, b154_7, (b154_10 hS), b154_15, (b154_16 hS), (b154_30 hS), b154_35, (c24_0 hS), (c24_1 hS), (c24_2 hS), (c24_3 hS), (c151_0 hS), (c151_1 hS), (c151_2 hS), (c151_3 hS), (c26 hS), (c152 hS), c72_0, c72_1, c183_0, c183_1, c72, c73, c86, c87, c150, c183, c184, c196, c198, c29, (c28 (st1 hS)), (c157 hS), (c74_0 hS), (c74_1 hS), (c185 hS), (c187 hS), (c25 (st1 hS)), (c155 hS), Option.bind_some, zpush0, zpush1, zpush2, zpush9, zb0, ite_not, z10, z01, if_true, if_false, zwr_ne, zwr_same, Int.reduceAdd, Int.reduceMul, Int.add_zero, hE, zsr_ne, zsr_same])
  all_goals first | (exfalso; omega) | exact ⟨⟨_, rfl, rfl⟩, zJ_r0 h hn⟩ | exact ⟨⟨_, rfl, rfl⟩, zJ_r1 h hn⟩ | exact ⟨⟨_, rfl, rfl⟩, zJ_r2 h hn⟩ | exact ⟨⟨_, rfl, rfl⟩, zJ_r3 h hn⟩ | skip
  refine ⟨⟨_, rfl, rfl⟩, zJ_size h hn (x := x1) (by omega) ?_ ?_ ?_ ?_ ?_ ?_ ?_ ?_ ?_ ?_⟩
  · intro r hr
    simp (disch := omega) only [zwr_ne, zsr_ne]
  · simp (disch := decide) only [zwr_ne, zsr_ne, zwr_same, if_true]
  · intro i g1 g2
    simp (disch := first | decide | omega) only [zwr_ne, zsr_ne, zwr_same, zsr_same, if_neg]
  · simp (disch := first | decide | omega) only [zwr_ne, zsr_ne, zwr_same, zsr_same, if_true]
  · intro c g1 g2
    have q1 : V 2 c = V 132 (300 + c) := (h.sr.wall g1 g2).1
    have q2 : V 3 c = V 132 (316 + c) := (h.sr.wall g1 g2).2
    simp (disch := first | decide | omega) only [zwr_ne, zsr_ne, zwr_same, zsr_same, zbare, if_neg]
    constructor
    · by_cases g : x1 ≤ c
      · rw [if_pos (by omega), if_pos (by omega)]
      · rw [if_neg (by omega), if_neg (by omega)]; exact q1
    · by_cases g : x1 ≤ c
      · rw [if_pos (by omega), if_pos (by omega)]
      · rw [if_neg (by omega), if_neg (by omega)]; exact q2
  · intro c g1 g2
    have q := h.ok.wall g1 g2
    simp (disch := first | decide | omega) only [zwr_ne, zsr_ne, zwr_same, zsr_same, if_neg]
    refine ⟨?_, ?_⟩ <;> (split <;> omega)
  · have ht := h.tape
    unfold zTape at ht ⊢
    simp (disch := decide) only [zwr_ne, zsr_ne, zwr_same, if_neg]
    exact ht
  · unfold zSc
    simp (disch := decide) only [zwr_ne, zsr_ne, zwr_same, zsr_same]
    simp
    omega
  · simp (disch := decide) only [zwr_ne, zsr_ne, zwr_same, if_neg]
  · simp (disch := decide) only [zwr_ne, zsr_ne, zwr_same, zsr_same, if_neg, if_true]
    simp

theorem k_end {x1 : Int} (h : zJ n T V) (hn : n < 1000)  (zx1 : z32 x1) : zSame 0 33 163 [(0, x1)] n T V := by
  have hS := h.str
  have hN := h.ok.n
  have hE := h.sr.n
  have m0 := zJ_m0 h
  have m1 := zJ_m1 h
  have m2 := zJ_m2 h
  have m3 := zJ_m3 h
  have t6 := st6 hS
  have t14 := st14 hS
  have ht := h.tape
  unfold zTape at ht
  obtain ⟨u1, u2, u3⟩ := ht
  obtain ⟨⟨s1, s2, s3⟩, ⟨s4, s5, s6, s7⟩, s8, s9, s10, s11, s12⟩ := h.sc
  unfold zSame
  repeat' (first
    | refine zwp_ret ?_
    | refine zwp_pos (by assumption) ?_
    | refine zwp_neg (by assumption) ?_
    | (refine zwp_ite ?_ ?_ <;> intro _)
    | simp (disch := first | decide | assumption | exact zbr _ _ | omega | (simp (disch := first | decide | omega) only [zwr_ne, zsr_ne, zwr_same, zsr_same, if_neg, if_pos, Int.reduceAdd]; omega)) only [e33, b33_0, (b33_4 hS), b33_15, (b33_17 hS), e163, (b163_0 hS), b163_9, b163_12, (b163_14 hS), (c24_0 hS), (c24_1 hS), (c24_2 hS), (c24_3 hS), (c151_0 hS), (c151_1 hS), (c151_2 hS), (c151_3 hS), (c26 hS), (c152 hS), c72_0, c72_1, c183_0, c183_1, c72, c73, c86, c87, c150, c183, c184, c196, c198, c29, (c28 (st1 hS)), (c157 hS), (c74_0 hS), (c74_1 hS), (c185 hS), (c187 hS), Option.bind_some, zpush0, zpush1, zpush2, zpush9, zb0, ite_not, z10, z01, if_true, if_false, zwr_ne, zwr_same, Int.reduceAdd, Int.reduceMul, Int.add_zero, u1])
  all_goals first | (exfalso; omega) | exact ⟨⟨_, rfl, rfl⟩, zJ_ok h hn⟩ | skip
  refine ⟨⟨_, rfl, rfl⟩, zJ_same h (fun r hr => ?_) ?_ ?_ ?_ ?_⟩
  · unfold zkeep at hr
    simp (disch := omega) only [zwr_ne]
  · unfold zTape
    simp (disch := decide) only [zwr_ne, zwr_same, if_true]
    exact ⟨trivial, by omega, fun j g1 g2 => u3 j g1 (by omega)⟩
  · unfold zSc
    simp (disch := decide) only [zwr_ne, zwr_same, if_neg]
    exact ⟨⟨s1, s2, s3⟩, ⟨s4, s5, s6, s7⟩, by omega, s9, by omega, s11, by omega⟩
  · simp (disch := decide) only [zwr_ne, zwr_same, if_neg]
    exact id
  · simp (disch := decide) only [zwr_ne, zwr_same, if_neg]
    exact id

theorem k_letter_0_0 {x2 : Int} (h : zJ n T V) (hn : n < 1000)  (zx2 : z32 x2) : zSame 0 71 182 [(0, 0), (0, x2), (0, 0)] n T V := by
  have hS := h.str
  have hN := h.ok.n
  have hE := h.sr.n
  have m0 := zJ_m0 h
  have m1 := zJ_m1 h
  have m2 := zJ_m2 h
  have m3 := zJ_m3 h
  have t6 := st6 hS
  have t14 := st14 hS
  unfold zSame
  repeat' (first
    | refine zwp_ret ?_
    | refine zwp_pos (by assumption) ?_
    | refine zwp_neg (by assumption) ?_
    | (refine zwp_ite ?_ ?_ <;> intro _)
    | simp (disch := first | decide | assumption | exact zbr _ _ | omega | (simp (disch := first | decide | omega) only [zwr_ne, zsr_ne, zwr_same, zsr_same, if_neg, if_pos, Int.reduceAdd]; omega)) only [e71, b71_0, b71_4, b71_7, b71_11, (b71_14 hS), b71_22, b71_26, b71_29, b71_31, (b71_35 hS), b71_43, b71_49, (b71_54 hS), b71_62, b71_70, b71_71, e182, b182_0, b182_4, b182_7, b182_11, b182_14, b182_20, (b182_23 hS), b182_30, b182_33, (b182_35 hS), b182_44, (c24_0 hS), (c24_1 hS), (c24_2 hS), (c24_3 hS), (c151_0 hS), (c151_1 hS), (c151_2 hS), (c151_3 hS), (c26 hS), (c152 hS), c72_0, c72_1, c183_0, c183_1, c73, c86, c87, c150, c184, c196, c198, c29, (c28 (st1 hS)), (c157 hS), (c74_0 hS), (c74_1 hS), (c185 hS), (c187 hS), (c19 (st6 hS)), Option.bind_some, zpush0, zpush1, zpush2, zpush9, zb0, ite_not, z10, z01, if_true, if_false, zwr_ne, zwr_same, Int.reduceAdd, Int.reduceMul, Int.add_zero, Int.zero_add])
  all_goals (by_cases g : 0 ≤ x2 ∧ x2 < 26)
  all_goals (try (first | (exfalso; omega) | exact ⟨⟨_, rfl, rfl⟩, zJ_ok h hn⟩))
  all_goals
    have f1 := (h.sr.east).must g.1 g.2
    have f2 := (h.sr.east).mnot g.1 g.2
    have f3 := h.ok.let (t := 0) (by decide) (by decide) g.1 g.2
    simp only [Int.reduceMul, Int.reduceAdd, Int.zero_add, Int.add_zero] at f1 f2 f3
    first | (exfalso; (split at f1 <;> omega)) | (exfalso; omega) | (refine ⟨⟨_, rfl, ?_⟩, zJ_ok h hn⟩; congr 1; (split at f1 <;> first | omega | (have f4 := f2 (by omega); omega)))

theorem k_letter_0_1 {x2 : Int} (h : zJ n T V) (hn : n < 1000)  (zx2 : z32 x2) : zSame 0 71 182 [(0, 0), (0, x2), (0, 1)] n T V := by
  have hS := h.str
  have hN := h.ok.n
  have hE := h.sr.n
  have m0 := zJ_m0 h
  have m1 := zJ_m1 h
  have m2 := zJ_m2 h
  have m3 := zJ_m3 h
  have t6 := st6 hS
  have t14 := st14 hS
  unfold zSame
  repeat' (first
    | refine zwp_ret ?_
    | refine zwp_pos (by assumption) ?_
    | refine zwp_neg (by assumption) ?_
    | (refine zwp_ite ?_ ?_ <;> intro _)
    | simp (disch := first | decide | assumption | exact zbr _ _ | omega | (simp (disch := first | decide | omega) only [zwr_ne, zsr_ne, zwr_same, zsr_same, if_neg, if_pos, Int.reduceAdd]; omega)) only [e71, b71_0, b71_4, b71_7, b71_11, (b71_14 hS), b71_22, b71_26, b71_29, b71_31, (b71_35 hS), b71_43, b71_49, (b71_54 hS), b71_62, b71_70, b71_71, e182, b182_0, b182_4, b182_7, b182_11, b182_14, b182_20, (b182_23 hS), b182_30, b182_33, (b182_35 hS), b182_44, (c24_0 hS), (c24_1 hS), (c24_2 hS), (c24_3 hS), (c151_0 hS), (c151_1 hS), (c151_2 hS), (c151_3 hS), (c26 hS), (c152 hS), c72_0, c72_1, c183_0, c183_1, c73, c86, c87, c150, c184, c196, c198, c29, (c28 (st1 hS)), (c157 hS), (c74_0 hS), (c74_1 hS), (c185 hS), (c187 hS), (c19 (st6 hS)), Option.bind_some, zpush0, zpush1, zpush2, zpush9, zb0, ite_not, z10, z01, if_true, if_false, zwr_ne, zwr_same, Int.reduceAdd, Int.reduceMul, Int.add_zero, Int.zero_add])
  all_goals (by_cases g : 0 ≤ x2 ∧ x2 < 26)
  all_goals (try (first | (exfalso; omega) | exact ⟨⟨_, rfl, rfl⟩, zJ_ok h hn⟩))
  all_goals
    have f1 := (h.sr.east).must g.1 g.2
    have f2 := (h.sr.east).mnot g.1 g.2
    have f3 := h.ok.let (t := 0) (by decide) (by decide) g.1 g.2
    simp only [Int.reduceMul, Int.reduceAdd, Int.zero_add, Int.add_zero] at f1 f2 f3
    first | (exfalso; (split at f1 <;> omega)) | (exfalso; omega) | (refine ⟨⟨_, rfl, ?_⟩, zJ_ok h hn⟩; congr 1; (split at f1 <;> first | omega | (have f4 := f2 (by omega); omega)))

theorem k_letter_0 {x2 x3 : Int} (h : zJ n T V) (hn : n < 1000) (hq : ¬ (x3 = 0 ∨ x3 = 1)) (zx2 : z32 x2) (zx3 : z32 x3) : zSame 0 71 182 [(0, 0), (0, x2), (0, x3)] n T V := by
  have hS := h.str
  have hN := h.ok.n
  have hE := h.sr.n
  have m0 := zJ_m0 h
  have m1 := zJ_m1 h
  have m2 := zJ_m2 h
  have m3 := zJ_m3 h
  have t6 := st6 hS
  have t14 := st14 hS
  unfold zSame
  repeat' (first
    | refine zwp_ret ?_
    | refine zwp_pos (by assumption) ?_
    | refine zwp_neg (by assumption) ?_
    | (refine zwp_ite ?_ ?_ <;> intro _)
    | simp (disch := first | decide | assumption | exact zbr _ _ | omega | (simp (disch := first | decide | omega) only [zwr_ne, zsr_ne, zwr_same, zsr_same, if_neg, if_pos, Int.reduceAdd]; omega)) only [e71, b71_0, b71_4, b71_7, b71_11, (b71_14 hS), b71_22, b71_26, b71_29, b71_31, (b71_35 hS), b71_43, b71_49, (b71_54 hS), b71_62, b71_70, b71_71, e182, b182_0, b182_4, b182_7, b182_11, b182_14, b182_20, (b182_23 hS), b182_30, b182_33, (b182_35 hS), b182_44, (c24_0 hS), (c24_1 hS), (c24_2 hS), (c24_3 hS), (c151_0 hS), (c151_1 hS), (c151_2 hS), (c151_3 hS), (c26 hS), (c152 hS), c72_0, c72_1, c183_0, c183_1, c73, c86, c87, c150, c184, c196, c198, c29, (c28 (st1 hS)), (c157 hS), (c74_0 hS), (c74_1 hS), (c185 hS), (c187 hS), (c19 (st6 hS)), Option.bind_some, zpush0, zpush1, zpush2, zpush9, zb0, ite_not, z10, z01, if_true, if_false, zwr_ne, zwr_same, Int.reduceAdd, Int.reduceMul, Int.add_zero, Int.zero_add])
  all_goals first | (exfalso; omega) | exact ⟨⟨_, rfl, rfl⟩, zJ_ok h hn⟩

theorem k_letter_1_0 {x2 : Int} (h : zJ n T V) (hn : n < 1000)  (zx2 : z32 x2) : zSame 0 71 182 [(0, 1), (0, x2), (0, 0)] n T V := by
  have hS := h.str
  have hN := h.ok.n
  have hE := h.sr.n
  have m0 := zJ_m0 h
  have m1 := zJ_m1 h
  have m2 := zJ_m2 h
  have m3 := zJ_m3 h
  have t6 := st6 hS
  have t14 := st14 hS
  unfold zSame
  repeat' (first
    | refine zwp_ret ?_
    | refine zwp_pos (by assumption) ?_
    | refine zwp_neg (by assumption) ?_
    | (refine zwp_ite ?_ ?_ <;> intro _)
    | simp (disch := first | decide | assumption | exact zbr _ _ | omega | (simp (disch := first | decide | omega) only [zwr_ne, zsr_ne, zwr_same, zsr_same, if_neg, if_pos, Int.reduceAdd]; omega)) only [e71, b71_0, b71_4, b71_7, b71_11, (b71_14 hS), b71_22, b71_26, b71_29, b71_31, (b71_35 hS), b71_43, b71_49, (b71_54 hS), b71_62, b71_70, b71_71, e182, b182_0, b182_4, b182_7, b182_11, b182_14, b182_20, (b182_23 hS), b182_30, b182_33, (b182_35 hS), b182_44, (c24_0 hS), (c24_1 hS), (c24_2 hS), (c24_3 hS), (c151_0 hS), (c151_1 hS), (c151_2 hS), (c151_3 hS), (c26 hS), (c152 hS), c72_0, c72_1, c183_0, c183_1, c73, c86, c87, c150, c184, c196, c198, c29, (c28 (st1 hS)), (c157 hS), (c74_0 hS), (c74_1 hS), (c185 hS), (c187 hS), (c19 (st14 hS)), Option.bind_some, zpush0, zpush1, zpush2, zpush9, zb0, ite_not, z10, z01, if_true, if_false, zwr_ne, zwr_same, Int.reduceAdd, Int.reduceMul, Int.add_zero, Int.zero_add])
  all_goals (by_cases g : 0 ≤ x2 ∧ x2 < 26)
  all_goals (try (first | (exfalso; omega) | exact ⟨⟨_, rfl, rfl⟩, zJ_ok h hn⟩))
  all_goals
    have f1 := (h.sr.west).must g.1 g.2
    have f2 := (h.sr.west).mnot g.1 g.2
    have f3 := h.ok.let (t := 1) (by decide) (by decide) g.1 g.2
    simp only [Int.reduceMul, Int.reduceAdd, Int.zero_add, Int.add_zero] at f1 f2 f3
    first | (exfalso; (split at f1 <;> omega)) | (exfalso; omega) | (refine ⟨⟨_, rfl, ?_⟩, zJ_ok h hn⟩; congr 1; (split at f1 <;> first | omega | (have f4 := f2 (by omega); omega)))

theorem k_letter_1_1 {x2 : Int} (h : zJ n T V) (hn : n < 1000)  (zx2 : z32 x2) : zSame 0 71 182 [(0, 1), (0, x2), (0, 1)] n T V := by
  have hS := h.str
  have hN := h.ok.n
  have hE := h.sr.n
  have m0 := zJ_m0 h
  have m1 := zJ_m1 h
  have m2 := zJ_m2 h
  have m3 := zJ_m3 h
  have t6 := st6 hS
  have t14 := st14 hS
  unfold zSame
  repeat' (first
    | refine zwp_ret ?_
    | refine zwp_pos (by assumption) ?_
    | refine zwp_neg (by assumption) ?_
    | (refine zwp_ite ?_ ?_ <;> intro _)
    | simp (disch := first | decide | assumption | exact zbr _ _ | omega | (simp (disch := first | decide | omega) only [zwr_ne, zsr_ne, zwr_same, zsr_same, if_neg, if_pos, Int.reduceAdd]; omega)) only [e71, b71_0, b71_4, b71_7, b71_11, (b71_14 hS), b71_22, b71_26, b71_29, b71_31, (b71_35 hS), b71_43, b71_49, (b71_54 hS), b71_62, b71_70, b71_71, e182, b182_0, b182_4, b182_7, b182_11, b182_14, b182_20, (b182_23 hS), b182_30, b182_33, (b182_35 hS), b182_44, (c24_0 hS), (c24_1 hS), (c24_2 hS), (c24_3 hS), (c151_0 hS), (c151_1 hS), (c151_2 hS), (c151_3 hS), (c26 hS), (c152 hS), c72_0, c72_1, c183_0, c183_1, c73, c86, c87, c150, c184, c196, c198, c29, (c28 (st1 hS)), (c157 hS), (c74_0 hS), (c74_1 hS), (c185 hS), (c187 hS), (c19 (st14 hS)), Option.bind_some, zpush0, zpush1, zpush2, zpush9, zb0, ite_not, z10, z01, if_true, if_false, zwr_ne, zwr_same, Int.reduceAdd, Int.reduceMul, Int.add_zero, Int.zero_add])
  all_goals (by_cases g : 0 ≤ x2 ∧ x2 < 26)
  all_goals (try (first | (exfalso; omega) | exact ⟨⟨_, rfl, rfl⟩, zJ_ok h hn⟩))
  all_goals
    have f1 := (h.sr.west).must g.1 g.2
    have f2 := (h.sr.west).mnot g.1 g.2
    have f3 := h.ok.let (t := 1) (by decide) (by decide) g.1 g.2
    simp only [Int.reduceMul, Int.reduceAdd, Int.zero_add, Int.add_zero] at f1 f2 f3
    first | (exfalso; (split at f1 <;> omega)) | (exfalso; omega) | (refine ⟨⟨_, rfl, ?_⟩, zJ_ok h hn⟩; congr 1; (split at f1 <;> first | omega | (have f4 := f2 (by omega); omega)))

theorem k_letter_1 {x2 x3 : Int} (h : zJ n T V) (hn : n < 1000) (hq : ¬ (x3 = 0 ∨ x3 = 1)) (zx2 : z32 x2) (zx3 : z32 x3) : zSame 0 71 182 [(0, 1), (0, x2), (0, x3)] n T V := by
  have hS := h.str
  have hN := h.ok.n
  have hE := h.sr.n
  have m0 := zJ_m0 h
  have m1 := zJ_m1 h
  have m2 := zJ_m2 h
  have m3 := zJ_m3 h
  have t6 := st6 hS
  have t14 := st14 hS
  unfold zSame
  repeat' (first
    | refine zwp_ret ?_
    | refine zwp_pos (by assumption) ?_
    | refine zwp_neg (by assumption) ?_
    | (refine zwp_ite ?_ ?_ <;> intro _)
    | simp (disch := first | decide | assumption | exact zbr _ _ | omega | (simp (disch := first | decide | omega) only [zwr_ne, zsr_ne, zwr_same, zsr_same, if_neg, if_pos, Int.reduceAdd]; omega)) only [e71, b71_0, b71_4, b71_7, b71_11, (b71_14 hS), b71_22, b71_26, b71_29, b71_31, (b71_35 hS), b71_43, b71_49, (b71_54 hS), b71_62, b71_70, b71_71, e182, b182_0, b182_4, b182_7, b182_11, b182_14, b182_20, (b182_23 hS), b182_30, b182_33, (b182_35 hS), b182_44, (c24_0 hS), (c24_1 hS), (c24_2 hS), (c24_3 hS), (c151_0 hS), (c151_1 hS), (c151_2 hS), (c151_3 hS), (c26 hS), (c152 hS), c72_0, c72_1, c183_0, c183_1, c73, c86, c87, c150, c184, c196, c198, c29, (c28 (st1 hS)), (c157 hS), (c74_0 hS), (c74_1 hS), (c185 hS), (c187 hS), (c19 (st14 hS)), Option.bind_some, zpush0, zpush1, zpush2, zpush9, zb0, ite_not, z10, z01, if_true, if_false, zwr_ne, zwr_same, Int.reduceAdd, Int.reduceMul, Int.add_zero, Int.zero_add])
  all_goals first | (exfalso; omega) | exact ⟨⟨_, rfl, rfl⟩, zJ_ok h hn⟩

theorem k_letter_r {x1 x2 x3 : Int} (h : zJ n T V) (hn : n < 1000) (hq : ¬ (x1 = 0 ∨ x1 = 1)) (zx1 : z32 x1) (zx2 : z32 x2) (zx3 : z32 x3) : zSame 0 71 182 [(0, x1), (0, x2), (0, x3)] n T V := by
  have hS := h.str
  have hN := h.ok.n
  have hE := h.sr.n
  have m0 := zJ_m0 h
  have m1 := zJ_m1 h
  have m2 := zJ_m2 h
  have m3 := zJ_m3 h
  have t6 := st6 hS
  have t14 := st14 hS
  unfold zSame
  repeat' (first
    | refine zwp_ret ?_
    | refine zwp_pos (by assumption) ?_
    | refine zwp_neg (by assumption) ?_
    | (refine zwp_ite ?_ ?_ <;> intro _)
    | simp (disch := first | decide | assumption | exact zbr _ _ | omega | (simp (disch := first | decide | omega) only [zwr_ne, zsr_ne, zwr_same, zsr_same, if_neg, if_pos, Int.reduceAdd]; omega)) only [e71, b71_0, b71_4, b71_7, b71_11, (b71_14 hS), b71_22, b71_26, b71_29, b71_31, (b71_35 hS), b71_43, b71_49, (b71_54 hS), b71_62, b71_70, b71_71, e182, b182_0, b182_4, b182_7, b182_11, b182_14, b182_20, (b182_23 hS), b182_30, b182_33, (b182_35 hS), b182_44, (c24_0 hS), (c24_1 hS), (c24_2 hS), (c24_3 hS), (c151_0 hS), (c151_1 hS), (c151_2 hS), (c151_3 hS), (c26 hS), (c152 hS), c72_0, c72_1, c183_0, c183_1, c72, c73, c86, c87, c150, c183, c184, c196, c198, c29, (c28 (st1 hS)), (c157 hS), (c74_0 hS), (c74_1 hS), (c185 hS), (c187 hS), Option.bind_some, zpush0, zpush1, zpush2, zpush9, zb0, ite_not, z10, z01, if_true, if_false, zwr_ne, zwr_same, Int.reduceAdd, Int.reduceMul, Int.add_zero])
  all_goals first | (exfalso; omega) | exact ⟨⟨_, rfl, rfl⟩, zJ_ok h hn⟩

theorem k_letter {x1 x2 x3 : Int} (h : zJ n T V) (hn : n < 1000) (zx1 : z32 x1) (zx2 : z32 x2) (zx3 : z32 x3) : zSame 0 71 182 [(0, x1), (0, x2), (0, x3)] n T V := by
  by_cases h0 : x1 = 0
  · subst h0
    by_cases g0 : x3 = 0
    · subst g0; exact k_letter_0_0 h hn zx2
    by_cases g1 : x3 = 1
    · subst g1; exact k_letter_0_1 h hn zx2
    exact k_letter_0 h hn (by omega) zx2 zx3
  by_cases h1 : x1 = 1
  · subst h1
    by_cases g0 : x3 = 0
    · subst g0; exact k_letter_1_0 h hn zx2
    by_cases g1 : x3 = 1
    · subst g1; exact k_letter_1_1 h hn zx2
    exact k_letter_1 h hn (by omega) zx2 zx3
  exact k_letter_r h hn (by omega) zx1 zx2 zx3

end CALL
