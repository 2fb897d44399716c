/-! calls that change some numbers of the state -/
def zW1 (l : List (Int × Int × Int × Int)) (V : zM) : zM := l.foldl (fun V q => zwr V q.1 q.2.1 q.2.2.2) V
def zW2 (l : List (Int × Int × Int × Int)) (V : zM) : zM := l.foldl (fun V q => zwr V 132 q.2.2.1 q.2.2.2) V
def zWK (l : List (Int × Int × Int × Int)) (K : Int → Int) : Int → Int := l.foldl (fun K q => zku K q.2.2.1 q.2.2.2) K
theorem zW1_o {r : Int} (h : r < 1 ∨ 27 < r) : ∀ (l : List (Int × Int × Int × Int)) (V : zM), (∀ q, q ∈ l → zCor 1 q.1 q.2.1 q.2.2.1) → zW1 l V r = V r
  | [], _, _ => rfl
  | q :: l, V, hl => by
    have := hl q (List.mem_cons_self ..)
    have e := zW1_o h l (zwr V q.1 q.2.1 q.2.2.2) (fun p hp => hl p (List.mem_cons_of_mem _ hp))
    refine e.trans (zwr_ne ?_)
    unfold zCor at this
    omega
theorem zW1_s : ∀ (l : List (Int × Int × Int × Int)) (V : zM) (K : Int → Int), (∀ q, q ∈ l → zCor 1 q.1 q.2.1 q.2.2.1) → zSR V 1 K → zSR (zW1 l V) 1 (zWK l K)
  | [], _, _, _, h => h
  | q :: l, V, K, hl, h => zW1_s l _ _ (fun p hp => hl p (List.mem_cons_of_mem _ hp)) (zSR_w h (hl q (List.mem_cons_self ..)))
theorem zWK_ok : ∀ (l : List (Int × Int × Int × Int)) (K : Int → Int), (∀ q, q ∈ l → zGod q.2.2.1 q.2.2.2) → zKok K → zKok (zWK l K)
  | [], _, _, h => h
  | q :: l, K, hl, h => zWK_ok l _ (fun p hp => hl p (List.mem_cons_of_mem _ hp)) (zKok_w h (hl q (List.mem_cons_self ..)))
theorem zW2_o {r : Int} (h : ¬ r = 132) : ∀ (l : List (Int × Int × Int × Int)) (V : zM), zW2 l V r = V r
  | [], _ => rfl
  | q :: l, V => (zW2_o h l (zwr V 132 q.2.2.1 q.2.2.2)).trans (zwr_ne h)
theorem zW2_s : ∀ (l : List (Int × Int × Int × Int)) (V : zM), zW2 l V 132 = zWK l (V 132)
  | [], _ => rfl
  | q :: l, V => by
    have e : zwr V 132 q.2.2.1 q.2.2.2 132 = zku (V 132) q.2.2.1 q.2.2.2 := by
      funext j
      rw [zwr_same]
      rfl
    have := zW2_s l (zwr V 132 q.2.2.1 q.2.2.2)
    rw [e] at this
    exact this
theorem zWK_kc : ∀ (l : List (Int × Int × Int × Int)) (K : Int → Int), (∀ q, q ∈ l → 300 ≤ q.2.2.1 ∧ (q.2.2.1 < 366 ∨ 376 ≤ q.2.2.1)) → zkc (zWK l K) = zkc K
  | [], _, _ => rfl
  | q :: l, K, hl => (zWK_kc l _ (fun p hp => hl p (List.mem_cons_of_mem _ hp))).trans (zkc_w (hl q (List.mem_cons_self ..)).1 (hl q (List.mem_cons_self ..)).2)
theorem zWK_at {i : Int} : ∀ (l : List (Int × Int × Int × Int)) (K : Int → Int), (∀ q, q ∈ l → q.2.2.1 ≠ i) → zWK l K i = K i
  | [], _, _ => rfl
  | q :: l, K, hl => (zWK_at l _ (fun p hp => hl p (List.mem_cons_of_mem _ hp))).trans (if_neg (fun e => hl q (List.mem_cons_self ..) e.symm))
theorem z10 : ((1 : Int) = 0) = False := by simp
theorem z01 : ((0 : Int) = 0) = True := by simp
theorem zwp_pos {c : Prop} [Decidable c] {a b : Option (zV × zH)} {Q : zV → zT → zM → Prop} (hc : c) (h : zwp a Q) : zwp (if c then a else b) Q := by rw [if_pos hc]; exact h
theorem zwp_neg {c : Prop} [Decidable c] {a b : Option (zV × zH)} {Q : zV → zT → zM → Prop} (hc : ¬ c) (h : zwp b Q) : zwp (if c then a else b) Q := by rw [if_neg hc]; exact h
theorem zc_wall {j : Int} (h : 0 ≤ j ∧ j < 16) : zCor 1 2 j (300 + j) := Or.inr (Or.inl ⟨rfl, h, rfl⟩)
theorem zc_lost {j : Int} (h : 0 ≤ j ∧ j < 16) : zCor 1 3 j (316 + j) := Or.inr (Or.inr (Or.inl ⟨rfl, h, rfl⟩))
theorem zc_txt0 {j : Int} (h : 0 ≤ j ∧ j < 16) : zCor 1 12 j (332 + j) := Or.inr (Or.inr (Or.inr (Or.inl ⟨rfl, h, rfl⟩)))
theorem zc_txt1 {j : Int} (h : 0 ≤ j ∧ j < 16) : zCor 1 20 j (348 + j) := Or.inr (Or.inr (Or.inr (Or.inr (Or.inl ⟨rfl, h, rfl⟩))))
theorem zc_tl0 : zCor 1 6 7 364 := by unfold zCor; decide
theorem zc_tl1 : zCor 1 14 7 365 := by unfold zCor; decide
theorem zc_sto0 {j : Int} (h : 0 ≤ j ∧ j < 4) : zCor 1 13 j (366 + j) := Or.inr (Or.inr (Or.inr (Or.inr (Or.inr (Or.inr (Or.inr (Or.inl ⟨rfl, h, rfl⟩)))))))
theorem zc_sto1 {j : Int} (h : 0 ≤ j ∧ j < 4) : zCor 1 21 j (370 + j) := Or.inr (Or.inr (Or.inr (Or.inr (Or.inr (Or.inr (Or.inr (Or.inr (Or.inl ⟨rfl, h, rfl⟩))))))))
theorem zc_sl0 : zCor 1 6 9 374 := by unfold zCor; decide
theorem zc_sl1 : zCor 1 14 9 375 := by unfold zCor; decide
theorem zc_held : zCor 1 22 5 426 := by unfold zCor; decide
theorem zc_yard {r j i : Int} (h : 0 ≤ j ∧ j < 10) (hr : 23 ≤ r ∧ r ≤ 27) (hi : i = 376 + 5 * j + (r - 23)) : zCor 1 r j i := Or.inr (Or.inr (Or.inr (Or.inr (Or.inr (Or.inr (Or.inr (Or.inr (Or.inr (Or.inr (Or.inr (Or.inr ⟨by omega, h, by omega⟩)))))))))))
theorem zg_cell {i v : Int} (h : 300 ≤ i ∧ i < 332) (g : 0 ≤ v ∧ v < 128) : zGod i v := Or.inr (Or.inl ⟨h.1, h.2, g.1, g.2⟩)
theorem zg_txt {i v : Int} (h : 332 ≤ i ∧ i < 364) (g : 0 ≤ v ∧ v ≤ 26) : zGod i v := Or.inr (Or.inr (Or.inl ⟨h.1, h.2, g.1, g.2⟩))
theorem zg_tl {i v : Int} (h : 364 ≤ i ∧ i < 366) (g : 0 ≤ v ∧ v ≤ 16) : zGod i v := Or.inr (Or.inr (Or.inr (Or.inl ⟨h.1, h.2, g.1, g.2⟩)))
theorem zg_sto {i v : Int} (h : 366 ≤ i ∧ i < 374) (g : 0 ≤ v ∧ v ≤ 7) : zGod i v := Or.inr (Or.inr (Or.inr (Or.inr (Or.inl ⟨h.1, h.2, g.1, g.2⟩))))
theorem zg_sl {i v : Int} (h : 374 ≤ i ∧ i < 376) (g : 0 ≤ v ∧ v ≤ 4) : zGod i v := Or.inr (Or.inr (Or.inr (Or.inr (Or.inr (Or.inl ⟨h.1, h.2, g.1, g.2⟩)))))
theorem zg_yard {i v : Int} (h : 376 ≤ i ∧ i < 426) (g : 0 ≤ v ∧ v ≤ 999) : zGod i v := Or.inr (Or.inr (Or.inr (Or.inr (Or.inr (Or.inr (Or.inl ⟨h.1, h.2, g.1, g.2⟩))))))
theorem zg_held {v : Int} (g : 0 ≤ v ∧ v ≤ 10) : zGod 426 v := Or.inr (Or.inr (Or.inr (Or.inr (Or.inr (Or.inr (Or.inr ⟨rfl, g.1, g.2⟩))))))
theorem zws_c {r j i v : Int} {l : List (Int × Int × Int × Int)} (h : zCor 1 r j i ∧ zGod i v ∧ (i < 366 ∨ 376 ≤ i) ∧ i < 427) (hl : ∀ q, q ∈ l → zCor 1 q.1 q.2.1 q.2.2.1 ∧ zGod q.2.2.1 q.2.2.2 ∧ (q.2.2.1 < 366 ∨ 376 ≤ q.2.2.1) ∧ q.2.2.1 < 427) : ∀ q, q ∈ ((r, j, i, v) :: l) → zCor 1 q.1 q.2.1 q.2.2.1 ∧ zGod q.2.2.1 q.2.2.2 ∧ (q.2.2.1 < 366 ∨ 376 ≤ q.2.2.1) ∧ q.2.2.1 < 427 := List.forall_mem_cons.2 ⟨h, hl⟩
theorem zwt_c {r j i v : Int} {l : List (Int × Int × Int × Int)} (h : zCor 1 r j i ∧ zGod i v) (hl : ∀ q, q ∈ l → zCor 1 q.1 q.2.1 q.2.2.1 ∧ zGod q.2.2.1 q.2.2.2) : ∀ q, q ∈ ((r, j, i, v) :: l) → zCor 1 q.1 q.2.1 q.2.2.1 ∧ zGod q.2.2.1 q.2.2.2 := List.forall_mem_cons.2 ⟨h, hl⟩
section CALL
theorem c72_0 {T : zT} {V : zM} : zcall 72 [(0, 0)] T V = some ((0, 1), T, V) := c72
theorem c72_1 {T : zT} {V : zM} : zcall 72 [(0, 1)] T V = some ((0, 1), T, V) := c72
theorem c183_0 {T : zT} {V : zM} : zcall 183 [(0, 0)] T V = some ((0, 1), T, V) := c183
theorem c183_1 {T : zT} {V : zM} : zcall 183 [(0, 1)] T V = some ((0, 1), T, V) := c183
variable {n : Int} {T : zT} {V : zM}
/-- granted on both sides -/
theorem zJ_ws (h : zJ n T V) (hn : n < 1000) (l : List (Int × Int × Int × Int)) (hl : ∀ q, q ∈ l → zCor 1 q.1 q.2.1 q.2.2.1 ∧ zGod q.2.2.1 q.2.2.2 ∧ (q.2.2.1 < 366 ∨ 376 ≤ q.2.2.1) ∧ q.2.2.1 < 427) : zJ (n + 1) T (zwr (zW2 l (zwr (zW1 l V) 0 17 0)) 130 0 0) := by
  have hc : ∀ q, q ∈ l → zCor 1 q.1 q.2.1 q.2.2.1 := fun q hq => (hl q hq).1
  obtain ⟨⟨s1, s2, s3⟩, ⟨s4, s5, s6, s7⟩, s8, s9, s10, s11, s12⟩ := h.sc
  have ht := h.tape
  have e : ∀ r : Int, (r < 1 ∨ 27 < r) → r ≠ 132 → r ≠ 130 → r ≠ 0 → zwr (zW2 l (zwr (zW1 l V) 0 17 0)) 130 0 0 r = V r := fun r g1 g2 g3 g4 => by
    rw [zwr_ne g3, zW2_o g2, zwr_ne g4, zW1_o g1 l V hc]
  have e0 : ∀ j, zwr (zW2 l (zwr (zW1 l V) 0 17 0)) 130 0 0 0 j = if j = 17 then 0 else V 0 j := fun j => by
    rw [zwr_ne (by decide), zW2_o (by decide), zwr_same, zW1_o (by decide) l V hc]
  have e130 : ∀ j, zwr (zW2 l (zwr (zW1 l V) 0 17 0)) 130 0 0 130 j = if j = 0 then 0 else V 130 j := fun j => by
    rw [zwr_same, zW2_o (by decide), zwr_ne (by decide), zW1_o (by decide) l V hc]
  have e132 : zwr (zW2 l (zwr (zW1 l V) 0 17 0)) 130 0 0 132 = zWK l (V 132) := by
    rw [zwr_ne (by decide), zW2_s, zwr_ne (by decide), zW1_o (by decide) l V hc]
  refine zJ_upd h (fun r hr => e r ?_ ?_ ?_ ?_) ?_ ?_ ?_ ?_ ?_ ?_ ?_
  · unfold zkeep at hr; omega
  · unfold zkeep at hr; omega
  · unfold zkeep at hr; omega
  · unfold zkeep at hr; omega
  · rw [e132]
    refine zSR_congr (fun d g1 g2 => ?_) (zW1_s l V (V 132) hc h.sr)
    rw [zwr_ne (by omega), zW2_o (by omega), zwr_ne (by omega)]
  · rw [e132]
    exact zWK_ok l _ (fun q hq => (hl q hq).2.1) h.ok
  · unfold zTape at ht ⊢
    rw [e 56 (by decide) (by decide) (by decide) (by decide), e 57 (by decide) (by decide) (by decide) (by decide), e 137 (by decide) (by decide) (by decide) (by decide), e130, if_neg (by decide)]
    exact ht
  · unfold zSc
    simp only [e0, e130, e 129 (by decide) (by decide) (by decide) (by decide), e 131 (by decide) (by decide) (by decide) (by decide)]
    simp
    omega
  · rw [e132]
    exact zWK_kc l _ (fun q hq => by
      obtain ⟨c1, c2, c3, c4⟩ := hl q hq
      unfold zGod at c2
      omega)
  · simp only [e0]
    simp
  · rw [e132, zWK_at l _ (fun q hq => by have := (hl q hq).2.2.2; omega)]
    simp only [e130]
    simp
/-- stories: nothing is known of the tellings then -/
theorem zJ_wt (h : zJ n T V) (hn : n < 1000) (l : List (Int × Int × Int × Int)) (hl : ∀ q, q ∈ l → zCor 1 q.1 q.2.1 q.2.2.1 ∧ zGod q.2.2.1 q.2.2.2) : zJ (n + 1) T (zwr (zwr (zW2 l (zwr (zwr (zW1 l V) 0 14 0) 0 17 0)) 130 1 (V 130 1 + 1)) 130 0 0) := by
  have hc : ∀ q, q ∈ l → zCor 1 q.1 q.2.1 q.2.2.1 := fun q hq => (hl q hq).1
  obtain ⟨⟨s1, s2, s3⟩, ⟨s4, s5, s6, s7⟩, s8, s9, s10, s11, s12⟩ := h.sc
  have ht := h.tape
  have e : ∀ r : Int, (r < 1 ∨ 27 < r) → r ≠ 132 → r ≠ 130 → r ≠ 0 → zwr (zwr (zW2 l (zwr (zwr (zW1 l V) 0 14 0) 0 17 0)) 130 1 (V 130 1 + 1)) 130 0 0 r = V r := fun r g1 g2 g3 g4 => by
    rw [zwr_ne g3, zwr_ne g3, zW2_o g2, zwr_ne g4, zwr_ne g4, zW1_o g1 l V hc]
  have e0 : ∀ j, zwr (zwr (zW2 l (zwr (zwr (zW1 l V) 0 14 0) 0 17 0)) 130 1 (V 130 1 + 1)) 130 0 0 0 j = if j = 17 then 0 else if j = 14 then 0 else V 0 j := fun j => by
    rw [zwr_ne (by decide), zwr_ne (by decide), zW2_o (by decide), zwr_same, zwr_same, zW1_o (by decide) l V hc]
  have e130 : ∀ j, zwr (zwr (zW2 l (zwr (zwr (zW1 l V) 0 14 0) 0 17 0)) 130 1 (V 130 1 + 1)) 130 0 0 130 j = if j = 0 then 0 else if j = 1 then V 130 1 + 1 else V 130 j := fun j => by
    rw [zwr_same, zwr_same, zW2_o (by decide), zwr_ne (by decide), zwr_ne (by decide), zW1_o (by decide) l V hc]
  have e132 : zwr (zwr (zW2 l (zwr (zwr (zW1 l V) 0 14 0) 0 17 0)) 130 1 (V 130 1 + 1)) 130 0 0 132 = zWK l (V 132) := by
    rw [zwr_ne (by decide), zwr_ne (by decide), zW2_s, zwr_ne (by decide), zwr_ne (by decide), zW1_o (by decide) l V hc]
  refine zJ_sto h (fun r hr => e r ?_ ?_ ?_ ?_) ?_ ?_ ?_ ?_ ?_ ?_ ?_
  · unfold zkeep at hr; omega
  · unfold zkeep at hr; omega
  · unfold zkeep at hr; omega
  · unfold zkeep at hr; omega
  · rw [e132]
    refine zSR_congr (fun d g1 g2 => ?_) (zW1_s l V (V 132) hc h.sr)
    rw [zwr_ne (by omega), zwr_ne (by omega), zW2_o (by omega), zwr_ne (by omega), zwr_ne (by omega)]
  · rw [e132]
    exact zWK_ok l _ (fun q hq => (hl q hq).2) h.ok
  · unfold zTape at ht ⊢
    rw [e 56 (by decide) (by decide) (by decide) (by decide), e 57 (by decide) (by decide) (by decide) (by decide), e 137 (by decide) (by decide) (by decide) (by decide), e130, if_neg (by decide), if_neg (by decide)]
    exact ht
  · unfold zSc
    simp only [e0, e130, e 129 (by decide) (by decide) (by decide) (by decide), e 131 (by decide) (by decide) (by decide) (by decide)]
    simp
    omega
  · intro i g1 g2
    rw [e132, zWK_at l _ (fun q hq => by
      have := (hl q hq).2
      unfold zGod at this
      omega)]
  · simp only [e0]
    simp
  · simp only [e130]
    simp
    omega

theorem k_paint {x1 x2 : Int} (h : zJ n T V) (hn : n < 1000)  (zx1 : z32 x1) (zx2 : z32 x2) : zSame 0 27 156 [(0, x1), (0, x2)] n T V := by
  have hS := h.str
  have hN := h.ok.n
  have hE := h.sr.n
  have m0 := zJ_m0 h
  have m1 := zJ_m1 h
  have m2 := zJ_m2 h
  have m3 := zJ_m3 h
  have t6 := st6 hS
  have t14 := st14 hS
  unfold zSame
  repeat' (first
    | refine zwp_ret ?_
    | refine zwp_pos (by assumption) ?_
    | refine zwp_neg (by assumption) ?_
    | (refine zwp_ite ?_ ?_ <;> intro _)
    | simp (disch := first | decide | assumption | exact zbr _ _ | omega | (simp (disch := first | decide | omega) only [zwr_ne, zwr_same, if_neg, if_pos, Int.reduceAdd]; omega)) only [e27, (b27_0 hS), b27_8, b27_11, b27_15, (b27_18 hS), b27_23, (b27_24 hS), b27_49, e156, (b156_0 hS), b156_5, b156_8, b156_15, (b156_18 hS), b156_23, (b156_24 hS), b156_51, (c24_0 hS), (c24_1 hS), (c24_2 hS), (c24_3 hS), (c151_0 hS), (c151_1 hS), (c151_2 hS), (c151_3 hS), (c26 hS), (c152 hS), c72_0, c72_1, c183_0, c183_1, c72, c73, c86, c87, c150, c183, c184, c196, c198, c29, (c28 (st1 hS)), (c157 hS), (c74_0 hS), (c74_1 hS), (c185 hS), (c187 hS), Option.bind_some, zpush0, zpush1, zpush2, zpush9, zb0, ite_not, z10, z01, if_true, if_false, zwr_ne, zwr_same, Int.reduceAdd, Int.reduceMul, Int.add_zero, hE])
  all_goals first | (exfalso; omega) | exact ⟨⟨_, rfl, rfl⟩, zJ_r0 h hn⟩ | exact ⟨⟨_, rfl, rfl⟩, zJ_r1 h hn⟩ | exact ⟨⟨_, rfl, rfl⟩, zJ_r2 h hn⟩ | exact ⟨⟨_, rfl, rfl⟩, zJ_r3 h hn⟩ | skip
  refine ⟨⟨_, rfl, ?_⟩, zJ_ws h hn [(2, x1, 300 + x1, x2)] (zws_c ⟨zc_wall (by omega), zg_cell (by omega) (by omega), Or.inl (by omega), by omega⟩ (List.forall_mem_nil _))⟩
  rw [show V 2 x1 = V 132 (300 + x1) from (h.sr.wall (by omega) (by omega)).1]

theorem k_lost {x1 x2 : Int} (h : zJ n T V) (hn : n < 1000)  (zx1 : z32 x1) (zx2 : z32 x2) : zSame 0 123 159 [(0, x1), (0, x2)] n T V := by
  have hS := h.str
  have hN := h.ok.n
  have hE := h.sr.n
  have m0 := zJ_m0 h
  have m1 := zJ_m1 h
  have m2 := zJ_m2 h
  have m3 := zJ_m3 h
  have t6 := st6 hS
  have t14 := st14 hS
  unfold zSame
  repeat' (first
    | refine zwp_ret ?_
    | refine zwp_pos (by assumption) ?_
    | refine zwp_neg (by assumption) ?_
    | (refine zwp_ite ?_ ?_ <;> intro _)
    | simp (disch := first | decide | assumption | exact zbr _ _ | omega | (simp (disch := first | decide | omega) only [zwr_ne, zwr_same, if_neg, if_pos, Int.reduceAdd]; omega)) only [e123, (b123_0 hS), b123_8, b123_11, b123_15, (b123_18 hS), b123_23, (b123_24 hS), b123_49, e159, (b159_0 hS), b159_5, b159_8, b159_15, (b159_18 hS), b159_23, (b159_24 hS), b159_51, (c24_0 hS), (c24_1 hS), (c24_2 hS), (c24_3 hS), (c151_0 hS), (c151_1 hS), (c151_2 hS), (c151_3 hS), (c26 hS), (c152 hS), c72_0, c72_1, c183_0, c183_1, c72, c73, c86, c87, c150, c183, c184, c196, c198, c29, (c28 (st1 hS)), (c157 hS), (c74_0 hS), (c74_1 hS), (c185 hS), (c187 hS), Option.bind_some, zpush0, zpush1, zpush2, zpush9, zb0, ite_not, z10, z01, if_true, if_false, zwr_ne, zwr_same, Int.reduceAdd, Int.reduceMul, Int.add_zero, hE])
  all_goals first | (exfalso; omega) | exact ⟨⟨_, rfl, rfl⟩, zJ_r0 h hn⟩ | exact ⟨⟨_, rfl, rfl⟩, zJ_r1 h hn⟩ | exact ⟨⟨_, rfl, rfl⟩, zJ_r2 h hn⟩ | exact ⟨⟨_, rfl, rfl⟩, zJ_r3 h hn⟩ | skip
  refine ⟨⟨_, rfl, ?_⟩, zJ_ws h hn [(3, x1, 316 + x1, x2)] (zws_c ⟨zc_lost (by omega), zg_cell (by omega) (by omega), Or.inl (by omega), by omega⟩ (List.forall_mem_nil _))⟩
  rw [show V 3 x1 = V 132 (316 + x1) from (h.sr.wall (by omega) (by omega)).2]

theorem k_hush_0 (h : zJ n T V) (hn : n < 1000)   : zSame 0 91 203 [(0, 0)] n T V := by
  have hS := h.str
  have hN := h.ok.n
  have hE := h.sr.n
  have m0 := zJ_m0 h
  have m1 := zJ_m1 h
  have m2 := zJ_m2 h
  have m3 := zJ_m3 h
  have t6 := st6 hS
  have t14 := st14 hS
  have w1 : V 6 7 = V 132 364 := (h.sr.east).tlen
  have w2 : V 6 9 = V 132 374 := (h.sr.east).slen
  have w3 := h.ok.many (t := 0) (by decide) (by decide)
  simp only [Int.reduceAdd] at w3
  unfold zSame
  repeat' (first
    | refine zwp_ret ?_
    | refine zwp_pos (by assumption) ?_
    | refine zwp_neg (by assumption) ?_
    | (refine zwp_ite ?_ ?_ <;> intro _)
    | simp (disch := first | decide | assumption | exact zbr _ _ | omega | (simp (disch := first | decide | omega) only [zwr_ne, zwr_same, if_neg, if_pos, Int.reduceAdd]; omega)) only [e91, b91_0, b91_4, (b91_7 hS), b91_12, (b91_13 hS), (b91_21 hS), (b91_33 hS), b91_42, e203, b203_0, b203_4, (b203_7 hS), b203_12, (b203_13 hS), b203_40, (c24_0 hS), (c24_1 hS), (c24_2 hS), (c24_3 hS), (c151_0 hS), (c151_1 hS), (c151_2 hS), (c151_3 hS), (c26 hS), (c152 hS), c72_0, c72_1, c183_0, c183_1, c73, c86, c87, c150, c184, c196, c198, c29, (c28 (st1 hS)), (c157 hS), (c74_0 hS), (c74_1 hS), (c185 hS), (c187 hS), Option.bind_some, zpush0, zpush1, zpush2, zpush9, zb0, ite_not, z10, z01, if_true, if_false, zwr_ne, zwr_same, Int.reduceAdd, Int.reduceMul, Int.add_zero, w1, w2])
  all_goals first | (exfalso; omega) | exact ⟨⟨_, rfl, rfl⟩, zJ_r0 h hn⟩ | exact ⟨⟨_, rfl, rfl⟩, zJ_r1 h hn⟩ | exact ⟨⟨_, rfl, rfl⟩, zJ_r2 h hn⟩ | exact ⟨⟨_, rfl, rfl⟩, zJ_r3 h hn⟩ | skip
  exact ⟨⟨_, rfl, rfl⟩, zJ_ws h hn [(6, 7, 364, 0)] (zws_c ⟨zc_tl0, zg_tl (by omega) (by omega), Or.inl (by omega), by omega⟩ (List.forall_mem_nil _))⟩

theorem k_forget_0 (h : zJ n T V) (hn : n < 1000)   : zSame 0 99 209 [(0, 0)] n T V := by
  have hS := h.str
  have hN := h.ok.n
  have hE := h.sr.n
  have m0 := zJ_m0 h
  have m1 := zJ_m1 h
  have m2 := zJ_m2 h
  have m3 := zJ_m3 h
  have t6 := st6 hS
  have t14 := st14 hS
  have w1 : V 6 7 = V 132 364 := (h.sr.east).tlen
  have w2 : V 6 9 = V 132 374 := (h.sr.east).slen
  have w3 := h.ok.many (t := 0) (by decide) (by decide)
  simp only [Int.reduceAdd] at w3
  obtain ⟨q0, q1, q2, q3, q4, q5, q6⟩ := h.sc
  unfold zSame
  repeat' (first
    | refine zwp_ret ?_
    | refine zwp_pos (by assumption) ?_
    | refine zwp_neg (by assumption) ?_
    | (refine zwp_ite ?_ ?_ <;> intro _)
    | simp (disch := first | decide | assumption | exact zbr _ _ | omega | (simp (disch := first | decide | omega) only [zwr_ne, zwr_same, if_neg, if_pos, Int.reduceAdd]; omega)) only [e99, b99_0, b99_4, (b99_7 hS), b99_12, (b99_13 hS), (b99_21 hS), (b99_33 hS), b99_47, e209, b209_0, b209_4, (b209_7 hS), b209_12, (b209_13 hS), b209_50, (c24_0 hS), (c24_1 hS), (c24_2 hS), (c24_3 hS), (c151_0 hS), (c151_1 hS), (c151_2 hS), (c151_3 hS), (c26 hS), (c152 hS), c72_0, c72_1, c183_0, c183_1, c73, c86, c87, c150, c184, c196, c198, c29, (c28 (st1 hS)), (c157 hS), (c74_0 hS), (c74_1 hS), (c185 hS), (c187 hS), Option.bind_some, zpush0, zpush1, zpush2, zpush9, zb0, ite_not, z10, z01, if_true, if_false, zwr_ne, zwr_same, Int.reduceAdd, Int.reduceMul, Int.add_zero, w1, w2])
  all_goals first | (exfalso; omega) | exact ⟨⟨_, rfl, rfl⟩, zJ_r0 h hn⟩ | exact ⟨⟨_, rfl, rfl⟩, zJ_r1 h hn⟩ | exact ⟨⟨_, rfl, rfl⟩, zJ_r2 h hn⟩ | exact ⟨⟨_, rfl, rfl⟩, zJ_r3 h hn⟩ | skip
  exact ⟨⟨_, rfl, rfl⟩, zJ_wt h hn [(6, 9, 374, 0)] (zwt_c ⟨zc_sl0, zg_sl (by omega) (by omega)⟩ (List.forall_mem_nil _))⟩

theorem k_say_0 {x2 : Int} (h : zJ n T V) (hn : n < 1000)  (zx2 : z32 x2) : zSame 0 90 202 [(0, 0), (0, x2)] n T V := by
  have hS := h.str
  have hN := h.ok.n
  have hE := h.sr.n
  have m0 := zJ_m0 h
  have m1 := zJ_m1 h
  have m2 := zJ_m2 h
  have m3 := zJ_m3 h
  have t6 := st6 hS
  have t14 := st14 hS
  have w1 : V 6 7 = V 132 364 := (h.sr.east).tlen
  have w2 : V 6 9 = V 132 374 := (h.sr.east).slen
  have w3 := h.ok.many (t := 0) (by decide) (by decide)
  simp only [Int.reduceAdd] at w3
  unfold zSame
  repeat' (first
    | refine zwp_ret ?_
    | refine zwp_pos (by assumption) ?_
    | refine zwp_neg (by assumption) ?_
    | (refine zwp_ite ?_ ?_ <;> intro _)
    | simp (disch := first | decide | assumption | exact zbr _ _ | omega | (simp (disch := first | decide | omega) only [zwr_ne, zwr_same, if_neg, if_pos, Int.reduceAdd]; omega)) only [e90, b90_0, b90_4, b90_7, b90_11, (b90_14 hS), b90_19, (b90_20 hS), b90_28, (b90_38 hS), b90_44, b90_45, b90_76, e202, b202_0, b202_4, b202_7, b202_11, (b202_14 hS), b202_19, (b202_20 hS), (b202_37 hS), b202_43, (b202_44 hS), (b202_62 hS), b202_84, (c24_0 hS), (c24_1 hS), (c24_2 hS), (c24_3 hS), (c151_0 hS), (c151_1 hS), (c151_2 hS), (c151_3 hS), (c26 hS), (c152 hS), c72_0, c72_1, c183_0, c183_1, c73, c86, c87, c150, c184, c196, c198, c29, (c28 (st1 hS)), (c157 hS), (c74_0 hS), (c74_1 hS), (c185 hS), (c187 hS), (b90_57 (q3 := 6) (p0 := 12) (n1 := 16) hS (st6 hS).a6), Option.bind_some, zpush0, zpush1, zpush2, zpush9, zb0, ite_not, z10, z01, if_true, if_false, zwr_ne, zwr_same, Int.reduceAdd, Int.reduceMul, Int.add_zero, w1, w2])
  all_goals first | (exfalso; omega) | exact ⟨⟨_, rfl, rfl⟩, zJ_r0 h hn⟩ | exact ⟨⟨_, rfl, rfl⟩, zJ_r1 h hn⟩ | exact ⟨⟨_, rfl, rfl⟩, zJ_r2 h hn⟩ | exact ⟨⟨_, rfl, rfl⟩, zJ_r3 h hn⟩ | skip
  have hv : 0 ≤ (if x2 = -1 then 26 else x2) ∧ (if x2 = -1 then 26 else x2) ≤ 26 := by split <;> omega
  generalize (if x2 = -1 then 26 else x2) = v at hv ⊢
  simp (disch := omega) only [if_neg]
  exact ⟨⟨_, rfl, rfl⟩, zJ_ws h hn [(12, V 132 364, 332 + V 132 364, v), (6, 7, 364, V 132 364 + 1)] (zws_c ⟨zc_txt0 (by omega), zg_txt (by omega) (by omega), Or.inl (by omega), by omega⟩ (zws_c ⟨zc_tl0, zg_tl (by omega) (by omega), Or.inl (by omega), by omega⟩ (List.forall_mem_nil _)))⟩

theorem k_mean_0 {x2 : Int} (h : zJ n T V) (hn : n < 1000)  (zx2 : z32 x2) : zSame 0 98 208 [(0, 0), (0, x2)] n T V := by
  have hS := h.str
  have hN := h.ok.n
  have hE := h.sr.n
  have m0 := zJ_m0 h
  have m1 := zJ_m1 h
  have m2 := zJ_m2 h
  have m3 := zJ_m3 h
  have t6 := st6 hS
  have t14 := st14 hS
  have w1 : V 6 7 = V 132 364 := (h.sr.east).tlen
  have w2 : V 6 9 = V 132 374 := (h.sr.east).slen
  have w3 := h.ok.many (t := 0) (by decide) (by decide)
  simp only [Int.reduceAdd] at w3
  obtain ⟨q0, q1, q2, q3, q4, q5, q6⟩ := h.sc
  unfold zSame
  repeat' (first
    | refine zwp_ret ?_
    | refine zwp_pos (by assumption) ?_
    | refine zwp_neg (by assumption) ?_
    | (refine zwp_ite ?_ ?_ <;> intro _)
    | simp (disch := first | decide | assumption | exact zbr _ _ | omega | (simp (disch := first | decide | omega) only [zwr_ne, zwr_same, if_neg, if_pos, Int.reduceAdd]; omega)) only [e98, b98_0, b98_4, b98_7, b98_11, (b98_17 hS), b98_22, (b98_23 hS), b98_31, (b98_40 hS), b98_46, (b98_47 hS), b98_80, e208, b208_0, b208_4, b208_7, b208_14, (b208_17 hS), b208_22, (b208_23 hS), (b208_39 hS), b208_45, (b208_46 hS), b208_92, (c24_0 hS), (c24_1 hS), (c24_2 hS), (c24_3 hS), (c151_0 hS), (c151_1 hS), (c151_2 hS), (c151_3 hS), (c26 hS), (c152 hS), c72_0, c72_1, c183_0, c183_1, c73, c86, c87, c150, c184, c196, c198, c29, (c28 (st1 hS)), (c157 hS), (c74_0 hS), (c74_1 hS), (c185 hS), (c187 hS), Option.bind_some, zpush0, zpush1, zpush2, zpush9, zb0, ite_not, z10, z01, if_true, if_false, zwr_ne, zwr_same, Int.reduceAdd, Int.reduceMul, Int.add_zero, w1, w2])
  all_goals first | (exfalso; omega) | exact ⟨⟨_, rfl, rfl⟩, zJ_r0 h hn⟩ | exact ⟨⟨_, rfl, rfl⟩, zJ_r1 h hn⟩ | exact ⟨⟨_, rfl, rfl⟩, zJ_r2 h hn⟩ | exact ⟨⟨_, rfl, rfl⟩, zJ_r3 h hn⟩ | skip
  simp (disch := omega) only [if_neg]
  exact ⟨⟨_, rfl, rfl⟩, zJ_wt h hn [(13, V 132 374, 366 + V 132 374, x2), (6, 9, 374, V 132 374 + 1)] (zwt_c ⟨zc_sto0 (by omega), zg_sto (by omega) (by omega)⟩ (zwt_c ⟨zc_sl0, zg_sl (by omega) (by omega)⟩ (List.forall_mem_nil _)))⟩

theorem k_hush_1 (h : zJ n T V) (hn : n < 1000)   : zSame 0 91 203 [(0, 1)] n T V := by
  have hS := h.str
  have hN := h.ok.n
  have hE := h.sr.n
  have m0 := zJ_m0 h
  have m1 := zJ_m1 h
  have m2 := zJ_m2 h
  have m3 := zJ_m3 h
  have t6 := st6 hS
  have t14 := st14 hS
  have w1 : V 14 7 = V 132 365 := (h.sr.west).tlen
  have w2 : V 14 9 = V 132 375 := (h.sr.west).slen
  have w3 := h.ok.many (t := 1) (by decide) (by decide)
  simp only [Int.reduceAdd] at w3
  unfold zSame
  repeat' (first
    | refine zwp_ret ?_
    | refine zwp_pos (by assumption) ?_
    | refine zwp_neg (by assumption) ?_
    | (refine zwp_ite ?_ ?_ <;> intro _)
    | simp (disch := first | decide | assumption | exact zbr _ _ | omega | (simp (disch := first | decide | omega) only [zwr_ne, zwr_same, if_neg, if_pos, Int.reduceAdd]; omega)) only [e91, b91_0, b91_4, (b91_7 hS), b91_12, (b91_13 hS), (b91_21 hS), (b91_33 hS), b91_42, e203, b203_0, b203_4, (b203_7 hS), b203_12, (b203_13 hS), b203_40, (c24_0 hS), (c24_1 hS), (c24_2 hS), (c24_3 hS), (c151_0 hS), (c151_1 hS), (c151_2 hS), (c151_3 hS), (c26 hS), (c152 hS), c72_0, c72_1, c183_0, c183_1, c73, c86, c87, c150, c184, c196, c198, c29, (c28 (st1 hS)), (c157 hS), (c74_0 hS), (c74_1 hS), (c185 hS), (c187 hS), Option.bind_some, zpush0, zpush1, zpush2, zpush9, zb0, ite_not, z10, z01, if_true, if_false, zwr_ne, zwr_same, Int.reduceAdd, Int.reduceMul, Int.add_zero, w1, w2])
  all_goals first | (exfalso; omega) | exact ⟨⟨_, rfl, rfl⟩, zJ_r0 h hn⟩ | exact ⟨⟨_, rfl, rfl⟩, zJ_r1 h hn⟩ | exact ⟨⟨_, rfl, rfl⟩, zJ_r2 h hn⟩ | exact ⟨⟨_, rfl, rfl⟩, zJ_r3 h hn⟩ | skip
  exact ⟨⟨_, rfl, rfl⟩, zJ_ws h hn [(14, 7, 365, 0)] (zws_c ⟨zc_tl1, zg_tl (by omega) (by omega), Or.inl (by omega), by omega⟩ (List.forall_mem_nil _))⟩

theorem k_forget_1 (h : zJ n T V) (hn : n < 1000)   : zSame 0 99 209 [(0, 1)] n T V := by
  have hS := h.str
  have hN := h.ok.n
  have hE := h.sr.n
  have m0 := zJ_m0 h
  have m1 := zJ_m1 h
  have m2 := zJ_m2 h
  have m3 := zJ_m3 h
  have t6 := st6 hS
  have t14 := st14 hS
  have w1 : V 14 7 = V 132 365 := (h.sr.west).tlen
  have w2 : V 14 9 = V 132 375 := (h.sr.west).slen
  have w3 := h.ok.many (t := 1) (by decide) (by decide)
  simp only [Int.reduceAdd] at w3
  obtain ⟨q0, q1, q2, q3, q4, q5, q6⟩ := h.sc
  unfold zSame
  repeat' (first
    | refine zwp_ret ?_
    | refine zwp_pos (by assumption) ?_
    | refine zwp_neg (by assumption) ?_
    | (refine zwp_ite ?_ ?_ <;> intro _)
    | simp (disch := first | decide | assumption | exact zbr _ _ | omega | (simp (disch := first | decide | omega) only [zwr_ne, zwr_same, if_neg, if_pos, Int.reduceAdd]; omega)) only [e99, b99_0, b99_4, (b99_7 hS), b99_12, (b99_13 hS), (b99_21 hS), (b99_33 hS), b99_47, e209, b209_0, b209_4, (b209_7 hS), b209_12, (b209_13 hS), b209_50, (c24_0 hS), (c24_1 hS), (c24_2 hS), (c24_3 hS), (c151_0 hS), (c151_1 hS), (c151_2 hS), (c151_3 hS), (c26 hS), (c152 hS), c72_0, c72_1, c183_0, c183_1, c73, c86, c87, c150, c184, c196, c198, c29, (c28 (st1 hS)), (c157 hS), (c74_0 hS), (c74_1 hS), (c185 hS), (c187 hS), Option.bind_some, zpush0, zpush1, zpush2, zpush9, zb0, ite_not, z10, z01, if_true, if_false, zwr_ne, zwr_same, Int.reduceAdd, Int.reduceMul, Int.add_zero, w1, w2])
  all_goals first | (exfalso; omega) | exact ⟨⟨_, rfl, rfl⟩, zJ_r0 h hn⟩ | exact ⟨⟨_, rfl, rfl⟩, zJ_r1 h hn⟩ | exact ⟨⟨_, rfl, rfl⟩, zJ_r2 h hn⟩ | exact ⟨⟨_, rfl, rfl⟩, zJ_r3 h hn⟩ | skip
  exact ⟨⟨_, rfl, rfl⟩, zJ_wt h hn [(14, 9, 375, 0)] (zwt_c ⟨zc_sl1, zg_sl (by omega) (by omega)⟩ (List.forall_mem_nil _))⟩

theorem k_say_1 {x2 : Int} (h : zJ n T V) (hn : n < 1000)  (zx2 : z32 x2) : zSame 0 90 202 [(0, 1), (0, x2)] n T V := by
  have hS := h.str
  have hN := h.ok.n
  have hE := h.sr.n
  have m0 := zJ_m0 h
  have m1 := zJ_m1 h
  have m2 := zJ_m2 h
  have m3 := zJ_m3 h
  have t6 := st6 hS
  have t14 := st14 hS
  have w1 : V 14 7 = V 132 365 := (h.sr.west).tlen
  have w2 : V 14 9 = V 132 375 := (h.sr.west).slen
  have w3 := h.ok.many (t := 1) (by decide) (by decide)
  simp only [Int.reduceAdd] at w3
  unfold zSame
  repeat' (first
    | refine zwp_ret ?_
    | refine zwp_pos (by assumption) ?_
    | refine zwp_neg (by assumption) ?_
    | (refine zwp_ite ?_ ?_ <;> intro _)
    | simp (disch := first | decide | assumption | exact zbr _ _ | omega | (simp (disch := first | decide | omega) only [zwr_ne, zwr_same, if_neg, if_pos, Int.reduceAdd]; omega)) only [e90, b90_0, b90_4, b90_7, b90_11, (b90_14 hS), b90_19, (b90_20 hS), b90_28, (b90_38 hS), b90_44, b90_45, b90_76, e202, b202_0, b202_4, b202_7, b202_11, (b202_14 hS), b202_19, (b202_20 hS), (b202_37 hS), b202_43, (b202_44 hS), (b202_62 hS), b202_84, (c24_0 hS), (c24_1 hS), (c24_2 hS), (c24_3 hS), (c151_0 hS), (c151_1 hS), (c151_2 hS), (c151_3 hS), (c26 hS), (c152 hS), c72_0, c72_1, c183_0, c183_1, c73, c86, c87, c150, c184, c196, c198, c29, (c28 (st1 hS)), (c157 hS), (c74_0 hS), (c74_1 hS), (c185 hS), (c187 hS), (b90_57 (q3 := 14) (p0 := 20) (n1 := 16) hS (st14 hS).a6), Option.bind_some, zpush0, zpush1, zpush2, zpush9, zb0, ite_not, z10, z01, if_true, if_false, zwr_ne, zwr_same, Int.reduceAdd, Int.reduceMul, Int.add_zero, w1, w2])
  all_goals first | (exfalso; omega) | exact ⟨⟨_, rfl, rfl⟩, zJ_r0 h hn⟩ | exact ⟨⟨_, rfl, rfl⟩, zJ_r1 h hn⟩ | exact ⟨⟨_, rfl, rfl⟩, zJ_r2 h hn⟩ | exact ⟨⟨_, rfl, rfl⟩, zJ_r3 h hn⟩ | skip
  have hv : 0 ≤ (if x2 = -1 then 26 else x2) ∧ (if x2 = -1 then 26 else x2) ≤ 26 := by split <;> omega
  generalize (if x2 = -1 then 26 else x2) = v at hv ⊢
  simp (disch := omega) only [if_neg]
  exact ⟨⟨_, rfl, rfl⟩, zJ_ws h hn [(20, V 132 365, 348 + V 132 365, v), (14, 7, 365, V 132 365 + 1)] (zws_c ⟨zc_txt1 (by omega), zg_txt (by omega) (by omega), Or.inl (by omega), by omega⟩ (zws_c ⟨zc_tl1, zg_tl (by omega) (by omega), Or.inl (by omega), by omega⟩ (List.forall_mem_nil _)))⟩

theorem k_mean_1 {x2 : Int} (h : zJ n T V) (hn : n < 1000)  (zx2 : z32 x2) : zSame 0 98 208 [(0, 1), (0, x2)] n T V := by
  have hS := h.str
  have hN := h.ok.n
  have hE := h.sr.n
  have m0 := zJ_m0 h
  have m1 := zJ_m1 h
  have m2 := zJ_m2 h
  have m3 := zJ_m3 h
  have t6 := st6 hS
  have t14 := st14 hS
  have w1 : V 14 7 = V 132 365 := (h.sr.west).tlen
  have w2 : V 14 9 = V 132 375 := (h.sr.west).slen
  have w3 := h.ok.many (t := 1) (by decide) (by decide)
  simp only [Int.reduceAdd] at w3
  obtain ⟨q0, q1, q2, q3, q4, q5, q6⟩ := h.sc
  unfold zSame
  repeat' (first
    | refine zwp_ret ?_
    | refine zwp_pos (by assumption) ?_
    | refine zwp_neg (by assumption) ?_
    | (refine zwp_ite ?_ ?_ <;> intro _)
    | simp (disch := first | decide | assumption | exact zbr _ _ | omega | (simp (disch := first | decide | omega) only [zwr_ne, zwr_same, if_neg, if_pos, Int.reduceAdd]; omega)) only [e98, b98_0, b98_4, b98_7, b98_11, (b98_17 hS), b98_22, (b98_23 hS), b98_31, (b98_40 hS), b98_46, (b98_47 hS), b98_80, e208, b208_0, b208_4, b208_7, b208_14, (b208_17 hS), b208_22, (b208_23 hS), (b208_39 hS), b208_45, (b208_46 hS), b208_92, (c24_0 hS), (c24_1 hS), (c24_2 hS), (c24_3 hS), (c151_0 hS), (c151_1 hS), (c151_2 hS), (c151_3 hS), (c26 hS), (c152 hS), c72_0, c72_1, c183_0, c183_1, c73, c86, c87, c150, c184, c196, c198, c29, (c28 (st1 hS)), (c157 hS), (c74_0 hS), (c74_1 hS), (c185 hS), (c187 hS), Option.bind_some, zpush0, zpush1, zpush2, zpush9, zb0, ite_not, z10, z01, if_true, if_false, zwr_ne, zwr_same, Int.reduceAdd, Int.reduceMul, Int.add_zero, w1, w2])
  all_goals first | (exfalso; omega) | exact ⟨⟨_, rfl, rfl⟩, zJ_r0 h hn⟩ | exact ⟨⟨_, rfl, rfl⟩, zJ_r1 h hn⟩ | exact ⟨⟨_, rfl, rfl⟩, zJ_r2 h hn⟩ | exact ⟨⟨_, rfl, rfl⟩, zJ_r3 h hn⟩ | skip
  simp (disch := omega) only [if_neg]
  exact ⟨⟨_, rfl, rfl⟩, zJ_wt h hn [(21, V 132 375, 370 + V 132 375, x2), (14, 9, 375, V 132 375 + 1)] (zwt_c ⟨zc_sto1 (by omega), zg_sto (by omega) (by omega)⟩ (zwt_c ⟨zc_sl1, zg_sl (by omega) (by omega)⟩ (List.forall_mem_nil _)))⟩

theorem k_hush_r {x1 : Int} (h : zJ n T V) (hn : n < 1000) (ht : ¬ (x1 = 0 ∨ x1 = 1)) (zx1 : z32 x1) : zSame 0 91 203 [(0, x1)] n T V := by
  have hS := h.str
  have hN := h.ok.n
  have hE := h.sr.n
  have m0 := zJ_m0 h
  have m1 := zJ_m1 h
  have m2 := zJ_m2 h
  have m3 := zJ_m3 h
  have t6 := st6 hS
  have t14 := st14 hS
  skip
  unfold zSame
  repeat' (first
    | refine zwp_ret ?_
    | refine zwp_pos (by assumption) ?_
    | refine zwp_neg (by assumption) ?_
    | (refine zwp_ite ?_ ?_ <;> intro _)
    | simp (disch := first | decide | assumption | exact zbr _ _ | omega | (simp (disch := first | decide | omega) only [zwr_ne, zwr_same, if_neg, if_pos, Int.reduceAdd]; omega)) only [e91, b91_0, b91_4, (b91_7 hS), b91_12, (b91_13 hS), (b91_21 hS), (b91_33 hS), b91_42, e203, b203_0, b203_4, (b203_7 hS), b203_12, (b203_13 hS), b203_40, (c24_0 hS), (c24_1 hS), (c24_2 hS), (c24_3 hS), (c151_0 hS), (c151_1 hS), (c151_2 hS), (c151_3 hS), (c26 hS), (c152 hS), c72_0, c72_1, c183_0, c183_1, c72, c73, c86, c87, c150, c183, c184, c196, c198, c29, (c28 (st1 hS)), (c157 hS), (c74_0 hS), (c74_1 hS), (c185 hS), (c187 hS), Option.bind_some, zpush0, zpush1, zpush2, zpush9, zb0, ite_not, z10, z01, if_true, if_false, zwr_ne, zwr_same, Int.reduceAdd, Int.reduceMul, Int.add_zero])
  all_goals first | (exfalso; omega) | exact ⟨⟨_, rfl, rfl⟩, zJ_r0 h hn⟩ | exact ⟨⟨_, rfl, rfl⟩, zJ_r1 h hn⟩ | exact ⟨⟨_, rfl, rfl⟩, zJ_r2 h hn⟩ | exact ⟨⟨_, rfl, rfl⟩, zJ_r3 h hn⟩ | skip

theorem k_hush {x1 : Int} (h : zJ n T V) (hn : n < 1000) (zx1 : z32 x1) : zSame 0 91 203 [(0, x1)] n T V := by
  by_cases h0 : x1 = 0
  · subst h0; exact k_hush_0 h hn
  by_cases h1 : x1 = 1
  · subst h1; exact k_hush_1 h hn
  exact k_hush_r h hn (by omega) zx1

theorem k_forget_r {x1 : Int} (h : zJ n T V) (hn : n < 1000) (ht : ¬ (x1 = 0 ∨ x1 = 1)) (zx1 : z32 x1) : zSame 0 99 209 [(0, x1)] n T V := by
  have hS := h.str
  have hN := h.ok.n
  have hE := h.sr.n
  have m0 := zJ_m0 h
  have m1 := zJ_m1 h
  have m2 := zJ_m2 h
  have m3 := zJ_m3 h
  have t6 := st6 hS
  have t14 := st14 hS
  skip
  unfold zSame
  repeat' (first
    | refine zwp_ret ?_
    | refine zwp_pos (by assumption) ?_
    | refine zwp_neg (by assumption) ?_
    | (refine zwp_ite ?_ ?_ <;> intro _)
    | simp (disch := first | decide | assumption | exact zbr _ _ | omega | (simp (disch := first | decide | omega) only [zwr_ne, zwr_same, if_neg, if_pos, Int.reduceAdd]; omega)) only [e99, b99_0, b99_4, (b99_7 hS), b99_12, (b99_13 hS), (b99_21 hS), (b99_33 hS), b99_47, e209, b209_0, b209_4, (b209_7 hS), b209_12, (b209_13 hS), b209_50, (c24_0 hS), (c24_1 hS), (c24_2 hS), (c24_3 hS), (c151_0 hS), (c151_1 hS), (c151_2 hS), (c151_3 hS), (c26 hS), (c152 hS), c72_0, c72_1, c183_0, c183_1, c72, c73, c86, c87, c150, c183, c184, c196, c198, c29, (c28 (st1 hS)), (c157 hS), (c74_0 hS), (c74_1 hS), (c185 hS), (c187 hS), Option.bind_some, zpush0, zpush1, zpush2, zpush9, zb0, ite_not, z10, z01, if_true, if_false, zwr_ne, zwr_same, Int.reduceAdd, Int.reduceMul, Int.add_zero])
  all_goals first | (exfalso; omega) | exact ⟨⟨_, rfl, rfl⟩, zJ_r0 h hn⟩ | exact ⟨⟨_, rfl, rfl⟩, zJ_r1 h hn⟩ | exact ⟨⟨_, rfl, rfl⟩, zJ_r2 h hn⟩ | exact ⟨⟨_, rfl, rfl⟩, zJ_r3 h hn⟩ | skip

theorem k_forget {x1 : Int} (h : zJ n T V) (hn : n < 1000) (zx1 : z32 x1) : zSame 0 99 209 [(0, x1)] n T V := by
  by_cases h0 : x1 = 0
  · subst h0; exact k_forget_0 h hn
  by_cases h1 : x1 = 1
  · subst h1; exact k_forget_1 h hn
  exact k_forget_r h hn (by omega) zx1

theorem k_say_r {x1 x2 : Int} (h : zJ n T V) (hn : n < 1000) (ht : ¬ (x1 = 0 ∨ x1 = 1)) (zx1 : z32 x1) (zx2 : z32 x2) : zSame 0 90 202 [(0, x1), (0, x2)] n T V := by
  have hS := h.str
  have hN := h.ok.n
  have hE := h.sr.n
  have m0 := zJ_m0 h
  have m1 := zJ_m1 h
  have m2 := zJ_m2 h
  have m3 := zJ_m3 h
  have t6 := st6 hS
  have t14 := st14 hS
  skip
  unfold zSame
  repeat' (first
    | refine zwp_ret ?_
    | refine zwp_pos (by assumption) ?_
    | refine zwp_neg (by assumption) ?_
    | (refine zwp_ite ?_ ?_ <;> intro _)
    | simp (disch := first | decide | assumption | exact zbr _ _ | omega | (simp (disch := first | decide | omega) only [zwr_ne, zwr_same, if_neg, if_pos, Int.reduceAdd]; omega)) only [e90, b90_0, b90_4, b90_7, b90_11, (b90_14 hS), b90_19, (b90_20 hS), b90_28, (b90_38 hS), b90_44, b90_45, (b90_57 hS), b90_76, e202, b202_0, b202_4, b202_7, b202_11, (b202_14 hS), b202_19, (b202_20 hS), (b202_37 hS), b202_43, (b202_44 hS), (b202_62 hS), b202_84, (c24_0 hS), (c24_1 hS), (c24_2 hS), (c24_3 hS), (c151_0 hS), (c151_1 hS), (c151_2 hS), (c151_3 hS), (c26 hS), (c152 hS), c72_0, c72_1, c183_0, c183_1, c72, c73, c86, c87, c150, c183, c184, c196, c198, c29, (c28 (st1 hS)), (c157 hS), (c74_0 hS), (c74_1 hS), (c185 hS), (c187 hS), Option.bind_some, zpush0, zpush1, zpush2, zpush9, zb0, ite_not, z10, z01, if_true, if_false, zwr_ne, zwr_same, Int.reduceAdd, Int.reduceMul, Int.add_zero])
  all_goals first | (exfalso; omega) | exact ⟨⟨_, rfl, rfl⟩, zJ_r0 h hn⟩ | exact ⟨⟨_, rfl, rfl⟩, zJ_r1 h hn⟩ | exact ⟨⟨_, rfl, rfl⟩, zJ_r2 h hn⟩ | exact ⟨⟨_, rfl, rfl⟩, zJ_r3 h hn⟩ | skip

theorem k_say {x1 x2 : Int} (h : zJ n T V) (hn : n < 1000) (zx1 : z32 x1) (zx2 : z32 x2) : zSame 0 90 202 [(0, x1), (0, x2)] n T V := by
  by_cases h0 : x1 = 0
  · subst h0; exact k_say_0 h hn zx2
  by_cases h1 : x1 = 1
  · subst h1; exact k_say_1 h hn zx2
  exact k_say_r h hn (by omega) zx1 zx2

theorem k_mean_r {x1 x2 : Int} (h : zJ n T V) (hn : n < 1000) (ht : ¬ (x1 = 0 ∨ x1 = 1)) (zx1 : z32 x1) (zx2 : z32 x2) : zSame 0 98 208 [(0, x1), (0, x2)] n T V := by
  have hS := h.str
  have hN := h.ok.n
  have hE := h.sr.n
  have m0 := zJ_m0 h
  have m1 := zJ_m1 h
  have m2 := zJ_m2 h
  have m3 := zJ_m3 h
  have t6 := st6 hS
  have t14 := st14 hS
  skip
  unfold zSame
  repeat' (first
    | refine zwp_ret ?_
    | refine zwp_pos (by assumption) ?_
    | refine zwp_neg (by assumption) ?_
    | (refine zwp_ite ?_ ?_ <;> intro _)
    | simp (disch := first | decide | assumption | exact zbr _ _ | omega | (simp (disch := first | decide | omega) only [zwr_ne, zwr_same, if_neg, if_pos, Int.reduceAdd]; omega)) only [e98, b98_0, b98_4, b98_7, b98_11, (b98_17 hS), b98_22, (b98_23 hS), b98_31, (b98_40 hS), b98_46, (b98_47 hS), b98_80, e208, b208_0, b208_4, b208_7, b208_14, (b208_17 hS), b208_22, (b208_23 hS), (b208_39 hS), b208_45, (b208_46 hS), b208_92, (c24_0 hS), (c24_1 hS), (c24_2 hS), (c24_3 hS), (c151_0 hS), (c151_1 hS), (c151_2 hS), (c151_3 hS), (c26 hS), (c152 hS), c72_0, c72_1, c183_0, c183_1, c72, c73, c86, c87, c150, c183, c184, c196, c198, c29, (c28 (st1 hS)), (c157 hS), (c74_0 hS), (c74_1 hS), (c185 hS), (c187 hS), Option.bind_some, zpush0, zpush1, zpush2, zpush9, zb0, ite_not, z10, z01, if_true, if_false, zwr_ne, zwr_same, Int.reduceAdd, Int.reduceMul, Int.add_zero])
  all_goals first | (exfalso; omega) | exact ⟨⟨_, rfl, rfl⟩, zJ_r0 h hn⟩ | exact ⟨⟨_, rfl, rfl⟩, zJ_r1 h hn⟩ | exact ⟨⟨_, rfl, rfl⟩, zJ_r2 h hn⟩ | exact ⟨⟨_, rfl, rfl⟩, zJ_r3 h hn⟩ | skip

theorem k_mean {x1 x2 : Int} (h : zJ n T V) (hn : n < 1000) (zx1 : z32 x1) (zx2 : z32 x2) : zSame 0 98 208 [(0, x1), (0, x2)] n T V := by
  by_cases h0 : x1 = 0
  · subst h0; exact k_mean_0 h hn zx2
  by_cases h1 : x1 = 1
  · subst h1; exact k_mean_1 h hn zx2
  exact k_mean_r h hn (by omega) zx1 zx2

end CALL
