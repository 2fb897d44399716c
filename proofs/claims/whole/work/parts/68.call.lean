/-! yard -/
theorem zwp_eq {e : Option (zV × zH)} {r : zV} {T : zT} {V : zM} (h : zwp e fun r' T' V' => r' = r ∧ T' = T ∧ V' = V) : e = some (r, T, V) := by
  obtain ⟨r', T', V', he, rfl, rfl, rfl⟩ := h
  exact he
section CALL
variable {n : Int} {T : zT} {V : zM}
theorem c131_b {x1 x2 x3 x4 x5 N : Int} (hS : zStr T) (hE : V 1 0 = N) (m0 : 0 ≤ V 129 0 ∧ V 129 0 ≤ 1000) (g : ¬ (0 ≤ x1 ∧ x1 < N ∧ 0 ≤ x2 ∧ x2 < N ∧ x1 ≤ x2 ∧ 0 ≤ x3 ∧ x3 ≤ x4 ∧ x4 ≤ 51 ∧ 0 ≤ x5 ∧ x5 ≤ 999)) : zcall 131 [(2, 0), (0, x1), (0, x2), (0, x3), (0, x4), (0, x5)] T V = some ((0, (-1)), T, zwr (zwr V 0 17 (-1)) 129 0 (V 129 0 + 1)) := by
  apply zwp_eq
  repeat' (first
    | refine zwp_ret ?_
    | refine zwp_pos (by omega) ?_
    | refine zwp_neg (by omega) ?_
    | (refine zwp_ite ?_ ?_ <;> intro _)
    | rw [e131]
    | rw [(b131_0 hS)]
    | rw [b131_8]
    | rw [(b131_11 hS)]
    | rw [b131_19]
    | rw [b131_22]
    | rw [b131_27]
    | rw [b131_31]
    | rw [b131_32]
    | rw [b131_38]
    | rw [b131_44]
    | rw [b131_51]
    | rw [b131_55]
    | rw [b131_56]
    | rw [b131_63]
    | rw [b131_68]
    | rw [b131_73]
    | rw [(b131_81 hS)]
    | rw [b131_86]
    | rw [(b131_87 hS)]
    | rw [(b131_102 hS)]
    | rw [b131_108]
    | rw [(b131_109 hS)]
    | rw [(b131_127 hS)]
    | rw [b131_130]
    | rw [(c28 (st1 hS))]
    | rw [(c24_0 hS)]
    | simp (disch := first | decide | omega) only [Option.bind_some, zpush0, zpush1, zpush2, zpush9, zb0, ite_not, z10, z01, if_true, if_false, hE]
    | assumption
    | exact zbr _ _
    | omega
    | (simp (disch := first | decide | omega) only [zwr_ne, zsr_ne, zwr_same, zsr_same, if_neg, if_pos, Int.reduceAdd]; omega))
  all_goals first | exact ⟨rfl, rfl, rfl⟩ | exact ⟨trivial, trivial, trivial⟩ | (exfalso; omega)
theorem c234_b {x1 x2 x3 x4 x5 : Int} (hS : zStr T) (hN : 1 ≤ V 132 427 ∧ V 132 427 ≤ 16) (m0 : 0 ≤ V 131 1 ∧ V 131 1 ≤ 1000) (g : ¬ (0 ≤ x1 ∧ x1 < V 132 427 ∧ 0 ≤ x2 ∧ x2 < V 132 427 ∧ x1 ≤ x2 ∧ 0 ≤ x3 ∧ x3 ≤ x4 ∧ x4 ≤ 51 ∧ 0 ≤ x5 ∧ x5 ≤ 999)) : zcall 234 [(2, 130), (0, x1), (0, x2), (0, x3), (0, x4), (0, x5)] T V = some ((0, (-1)), T, zwr (zwr V 130 0 (-1)) 131 1 (V 131 1 + 1)) := by
  apply zwp_eq
  repeat' (first
    | refine zwp_ret ?_
    | refine zwp_pos (by omega) ?_
    | refine zwp_neg (by omega) ?_
    | (refine zwp_ite ?_ ?_ <;> intro _)
    | rw [e234]
    | rw [(b234_0 hS)]
    | rw [b234_5]
    | rw [(b234_8 hS)]
    | rw [b234_13]
    | rw [b234_16]
    | rw [b234_21]
    | rw [b234_28]
    | rw [b234_31]
    | rw [b234_39]
    | rw [b234_42]
    | rw [b234_51]
    | rw [(b234_54 hS)]
    | rw [b234_59]
    | rw [(b234_60 hS)]
    | rw [(b234_77 hS)]
    | rw [b234_83]
    | rw [(b234_84 hS)]
    | rw [b234_182]
    | rw [(c157 hS)]
    | rw [c150]
    | rw [(c151_0 hS)]
    | simp (disch := first | decide | omega) only [Option.bind_some, zpush0, zpush1, zpush2, zpush9, zb0, ite_not, z10, z01, if_true, if_false]
    | assumption
    | exact zbr _ _
    | omega
    | (simp (disch := first | decide | omega) only [zwr_ne, zsr_ne, zwr_same, zsr_same, if_neg, if_pos, Int.reduceAdd]; omega))
  all_goals first | exact ⟨rfl, rfl, rfl⟩ | exact ⟨trivial, trivial, trivial⟩ | (exfalso; omega)

theorem c132 {b y x1 x2 x3 x4 x5 : Int} (h : zYards T b) (e : V b 5 = y) (hy : 0 ≤ y ∧ y < 10) : zcall 132 [(2, b), (0, x1), (0, x2), (0, x3), (0, x4), (0, x5)] T V = some ((0, y), T, zwr (zwr (zwr (zwr (zwr (zwr V (b + 1) y x1) (b + 2) y x2) (b + 3) y x3) (b + 4) y x4) (b + 5) y x5) b 5 (y + 1)) := by
  apply zwp_eq
  repeat' (first
    | refine zwp_ret ?_
    | simp (disch := first | decide | omega) only [Option.bind_some, zpush0, zpush1, zpush2, zpush9, zb0, ite_not, z10, z01, if_true, if_false, zwr_ne, zwr_same, e]
    | refine zwp_pos (by omega) ?_
    | refine zwp_neg (by omega) ?_
    | (refine zwp_ite ?_ ?_ <;> intro _)
    | rw [e132]
    | rw [(b132_0 h)]
    | rw [b132_9]
    | rw [(b132_11 h)]
    | assumption
    | exact zbr _ _
    | omega
    | (simp (disch := first | decide | omega) only [zwr_ne, zsr_ne, zwr_same, zsr_same, if_neg, if_pos, Int.reduceAdd]; omega))
  refine ⟨?_, trivial, trivial⟩
  congr 1
  omega

theorem k_yard_g {x1 x2 x3 x4 x5 : Int} (h : zJ n T V) (hn : n < 1000) (g : (0 ≤ x1 ∧ x1 < V 132 427 ∧ 0 ≤ x2 ∧ x2 < V 132 427 ∧ x1 ≤ x2 ∧ 0 ≤ x3 ∧ x3 ≤ x4 ∧ x4 ≤ 51 ∧ 0 ≤ x5 ∧ x5 ≤ 999)) (zx1 : z32 x1) (zx2 : z32 x2) (zx3 : z32 x3) (zx4 : z32 x4) (zx5 : z32 x5) : zSame 0 131 234 [(0, x1), (0, x2), (0, x3), (0, x4), (0, x5)] n T V := by
  have hS := h.str
  have hN := h.ok.n
  have hE := h.sr.n
  have m0 := zJ_m0 h
  have m1 := zJ_m1 h
  have m2 := zJ_m2 h
  have m3 := zJ_m3 h
  have t6 := st6 hS
  have t14 := st14 hS
  have hy : V 22 5 = V 132 426 := h.sr.yards.1
  have hh := h.ok.held
  unfold zSame
  repeat' (first
    | refine zwp_ret ?_
    | simp (disch := first | decide | omega) only [Option.bind_some, zpush0, zpush1, zpush2, zpush9, zb0, ite_not, z10, z01, if_true, if_false, zwr_ne, zwr_same, Int.reduceAdd, Int.reduceMul, Int.add_zero, hE, hy]
    | refine zwp_pos (by omega) ?_
    | refine zwp_neg (by omega) ?_
    | (refine zwp_ite ?_ ?_ <;> intro _)
    | rw [e131]
    | rw [(b131_0 hS)]
    | rw [b131_8]
    | rw [(b131_11 hS)]
    | rw [b131_19]
    | rw [b131_22]
    | rw [b131_27]
    | rw [b131_31]
    | rw [b131_32]
    | rw [b131_38]
    | rw [b131_44]
    | rw [b131_51]
    | rw [b131_55]
    | rw [b131_56]
    | rw [b131_63]
    | rw [b131_68]
    | rw [b131_73]
    | rw [(b131_81 hS)]
    | rw [b131_86]
    | rw [(b131_87 hS)]
    | rw [(b131_102 hS)]
    | rw [b131_108]
    | rw [(b131_109 hS)]
    | rw [(b131_127 hS)]
    | rw [b131_130]
    | rw [e234]
    | rw [(b234_0 hS)]
    | rw [b234_5]
    | rw [(b234_8 hS)]
    | rw [b234_13]
    | rw [b234_16]
    | rw [b234_21]
    | rw [b234_28]
    | rw [b234_31]
    | rw [b234_39]
    | rw [b234_42]
    | rw [b234_51]
    | rw [(b234_54 hS)]
    | rw [b234_59]
    | rw [(b234_60 hS)]
    | rw [(b234_77 hS)]
    | rw [b234_83]
    | rw [(b234_84 hS)]
    | rw [b234_182]
    | rw [(c24_0 hS)]
    | rw [(c24_1 hS)]
    | rw [(c24_2 hS)]
    | rw [(c24_3 hS)]
    | rw [(c151_0 hS)]
    | rw [(c151_1 hS)]
    | rw [(c151_2 hS)]
    | rw [(c151_3 hS)]
    | rw [(c26 hS)]
    | rw [(c152 hS)]
    | rw [c72_0]
    | rw [c72_1]
    | rw [c183_0]
    | rw [c183_1]
    | rw [c72]
    | rw [c73]
    | rw [c86]
    | rw [c87]
    | rw [c150]
    | rw [c183]
    | rw [c184]
    | rw [c196]
    | rw [c198]
    | rw [c29]
    | rw [(c28 (st1 hS))]
    | rw [(c157 hS)]
    | rw [(c74_0 hS)]
    | rw [(c74_1 hS)]
    | rw [(c185 hS)]
    | rw [(c187 hS)]
    | rw [(c132 (st22 hS) hy)]
    | assumption
    | exact zbr _ _
    | omega
    | (simp (disch := first | decide | omega) only [zwr_ne, zsr_ne, zwr_same, zsr_same, if_neg, if_pos, Int.reduceAdd]; omega))
  all_goals first | (exfalso; omega) | exact ⟨⟨_, rfl, rfl⟩, zJ_r2 h hn⟩ | skip
  all_goals (try simp (disch := omega) only [if_neg])
  all_goals (refine ⟨⟨_, rfl, ?_⟩, zJ_ws h hn [(23, V 132 426, 376 + 5 * V 132 426, x1), (24, V 132 426, 376 + 5 * V 132 426 + 1, x2), (25, V 132 426, 376 + 5 * V 132 426 + 2, x3), (26, V 132 426, 376 + 5 * V 132 426 + 3, x4), (27, V 132 426, 376 + 5 * V 132 426 + 4, x5), (22, 5, 426, V 132 426 + 1)] (zws_c ⟨zc_yard (by omega) (by omega) (by omega), zg_yard (by omega) (by omega), Or.inr (by omega), by omega⟩ (zws_c ⟨zc_yard (by omega) (by omega) (by omega), zg_yard (by omega) (by omega), Or.inr (by omega), by omega⟩ (zws_c ⟨zc_yard (by omega) (by omega) (by omega), zg_yard (by omega) (by omega), Or.inr (by omega), by omega⟩ (zws_c ⟨zc_yard (by omega) (by omega) (by omega), zg_yard (by omega) (by omega), Or.inr (by omega), by omega⟩ (zws_c ⟨zc_yard (by omega) (by omega) (by omega), zg_yard (by omega) (by omega), Or.inr (by omega), by omega⟩ (zws_c ⟨zc_held, zg_held (by omega), Or.inr (by omega), by omega⟩ (List.forall_mem_nil _)))))))⟩)
  all_goals first | rfl | (congr 1; omega)

theorem k_yard {x1 x2 x3 x4 x5 : Int} (h : zJ n T V) (hn : n < 1000) (zx1 : z32 x1) (zx2 : z32 x2) (zx3 : z32 x3) (zx4 : z32 x4) (zx5 : z32 x5) : zSame 0 131 234 [(0, x1), (0, x2), (0, x3), (0, x4), (0, x5)] n T V := by
  by_cases g : (0 ≤ x1 ∧ x1 < V 132 427 ∧ 0 ≤ x2 ∧ x2 < V 132 427 ∧ x1 ≤ x2 ∧ 0 ≤ x3 ∧ x3 ≤ x4 ∧ x4 ≤ 51 ∧ 0 ≤ x5 ∧ x5 ≤ 999)
  · exact k_yard_g h hn g zx1 zx2 zx3 zx4 zx5
  · have hS := h.str
    have hN := h.ok.n
    have m0 := zJ_m0 h
    unfold zSame
    rw [c131_b hS h.sr.n m0.1 g]
    refine zwp_ret ?_
    rw [c234_b hS (by rw [zwr_ne (by decide), zwr_ne (by decide)]; exact hN) (by rw [zwr_ne (by decide), zwr_ne (by decide)]; exact m0.2) (by rw [zwr_ne (by decide), zwr_ne (by decide)]; exact g)]
    refine zwp_ret ⟨⟨_, rfl, rfl⟩, ?_⟩
    have := zJ_r0 h hn
    rw [zwr_ne (r := 131) (by decide), zwr_ne (r := 131) (by decide)]
    exact this

end CALL
