/-! rain, row, feed, drop -/
section RAIN2
variable {n : Int} {T : zT} {V : zM}
theorem k_rain {x1 x2 : Int} (h : zJ n T V) (hn : n < 1000) (zx1 : z32 x1) (zx2 : z32 x2) : zSame 0 141 241 [(0, x1), (0, x2)] n T V := by
  have hS := h.str
  have hN := h.ok.n
  have m0 := zJ_m0 h
  unfold zSame
  by_cases g : 0 ≤ x1 ∧ x1 ≤ 1000000 ∧ 0 ≤ x2 ∧ x2 ≤ 100
  · have hw : ∀ c, 0 ≤ c → c < 16 → V 2 c = V 132 (300 + c) := fun c g1 g2 => (h.sr.wall g1 g2).1
    have ok1 : zrok 0 (x1, 0, V (1 + 1)) := ⟨by show 0 ≤ x1 ∧ x1 ≤ 1000002; omega, by show (0 : Int) ≤ 0 ∧ (0 : Int) ≤ ((0 : Nat) : Int); omega, fun c g1 g2 => by
      show 0 ≤ V 2 c ∧ V 2 c < 128
      rw [hw c g1 g2]; exact (h.ok.wall g1 g2).1⟩
    have ok2 : zrok 0 (x1, 0, fun c => V 132 (300 + c)) := ⟨by show 0 ≤ x1 ∧ x1 ≤ 1000002; omega, by show (0 : Int) ≤ 0 ∧ (0 : Int) ≤ ((0 : Nat) : Int); omega, fun c g1 g2 => (h.ok.wall g1 g2).1⟩
    rw [e141, b141_0, if_neg (by omega), b141_4, if_neg (by omega), b141_11, if_neg (by omega), b141_15, if_pos (by omega), b141_27 hS, c142 (st1 hS) h.sr.n (by omega) ok1]
    simp only [Option.bind_some, zpush0]
    rw [b141_37 hS, c26 hS]
    simp only [Option.bind_some, zpush0]
    rw [b141_40]
    refine zwp_ret ?_
    have hc := zrf_congr (hard := x2) (s := x1) (o := 0) hw (7 * V 132 427).toNat (by omega)
    have hok := zrf_ok (hard := x2) ok2 (7 * V 132 427).toNat (by omega)
    show zwp (zcall 241 [(2, 130), (0, x1), (0, x2)] T (zwr (zs V 2 (zrf x2 (x1, 0, V 2) (7 * V 132 427).toNat).2.2) 0 17 0)) _
    obtain ⟨A, hA⟩ : ∃ A, zrf x2 (x1, 0, V 2) (7 * V 132 427).toNat = A := ⟨_, rfl⟩
    obtain ⟨B, hB⟩ : ∃ B, zrf x2 (x1, 0, fun c => V 132 (300 + c)) (7 * V 132 427).toNat = B := ⟨_, rfl⟩
    rw [hA, hB] at hc
    rw [hB] at hok
    show zwp _ fun r' T2 V2 => (∃ x, (0, (zrf x2 (x1, 0, V 2) (7 * V 132 427).toNat).2.1) = (0, x) ∧ r' = (0, x)) ∧ zJ (n + 1) T2 V2
    rw [hA]
    have e132 : zwr (zs V 2 A.2.2) 0 17 0 132 = V 132 := by rw [zwr_ne (by decide), zsr_ne (by decide)]
    have q := c241 (V := zwr (zs V 2 A.2.2) 0 17 0) (N := V 132 427) (x1 := x1) (x2 := x2) hS (by rw [e132]) (by omega) (by omega) (by omega) (by rw [e132]; exact ok2)
    simp only [e132, hB] at q
    rw [q]
    obtain ⟨⟨s1, s2, s3⟩, ⟨s4, s5, s6, s7⟩, s8, s9, s10, s11, s12⟩ := h.sc
    have w132 : ∀ i, zwf (zwr (zs V 2 A.2.2) 0 17 0) B.2.2 i = if 300 ≤ i ∧ i < 316 then B.2.2 (i - 300) else V 132 i := fun i => by
      unfold zwf
      rw [e132]
    refine zwp_ret ⟨⟨_, rfl, by rw [hc.2.1]⟩, zJ_upd h (fun r hr => ?_) ?_ ?_ ?_ ?_ ?_ ?_ ?_⟩
    · unfold zkeep at hr
      rw [zwr_ne (by omega), zwr_ne (by omega), zsr_ne (by omega), zwr_ne (by omega), zsr_ne (by omega)]
    · refine zSR_wall h.sr (fun d g1 g2 => ?_) (fun i g1 g2 => ?_) ?_ (fun c g1 g2 => ?_)
      · rw [zwr_ne (by omega), zwr_ne (by omega), zsr_ne (by omega), zwr_ne (by omega), zsr_ne (by omega)]
      · rw [zwr_ne (by decide), zwr_ne (by decide), zsr_same, w132, if_neg (by omega)]
      · rw [zwr_ne (by decide), zwr_ne (by decide), zsr_ne (by decide), zwr_ne (by decide), zsr_ne (by decide), zwr_ne (by decide), zwr_ne (by decide), zsr_same, w132, if_neg (by decide)]
        exact h.sr.n
      · constructor
        · show _ = zwr _ 130 0 0 132 (300 + c)
          rw [zwr_ne (r := 132) (by decide), zwr_ne (r := 132) (by decide), zsr_same, w132, if_pos (by omega), show 300 + c - 300 = c by omega, ← hc.2.2 c g1 g2]
          show zwr _ 130 0 0 2 c = _
          rw [zwr_ne (by decide), zwr_ne (by decide), zsr_ne (by decide), zwr_ne (by decide), zsr_same]
        · show _ = zwr _ 130 0 0 132 (316 + c)
          rw [zwr_ne (r := 132) (by decide), zwr_ne (r := 132) (by decide), zsr_same, w132, if_neg (by omega)]
          show zwr _ 130 0 0 3 c = _
          rw [zwr_ne (by decide), zwr_ne (by decide), zsr_ne (by decide), zwr_ne (by decide), zsr_ne (by decide)]
          exact (h.sr.wall g1 g2).2
    · rw [zwr_ne (by decide), zwr_ne (by decide), zsr_same]
      refine zKok_k h.ok (fun i g1 g2 => by rw [w132, if_neg (by omega)]) (by rw [w132, if_neg (by decide)]; exact hN) (fun c g1 g2 => ?_) (by rw [w132, if_neg (by decide)]; exact h.ok.held) (fun y f g1 g2 g3 g4 => by rw [w132, if_neg (by omega)]; exact h.ok.yard g1 g2 g3 g4)
      rw [w132, if_pos (by omega), w132, if_neg (by omega), show 300 + c - 300 = c by omega]
      exact ⟨hok.2.2 c g1 g2, (h.ok.wall g1 g2).2⟩
    · have ht := h.tape
      unfold zTape at ht ⊢
      simp (disch := decide) only [zwr_ne, zsr_ne, zwr_same, if_neg]
      exact ht
    · unfold zSc
      simp (disch := decide) only [zwr_ne, zsr_ne, zwr_same]
      simp
      omega
    · refine zkc_congr fun i hi => ?_
      rw [zwr_ne (by decide), zwr_ne (by decide), zsr_same, w132, if_neg (by omega)]
    · simp (disch := decide) only [zwr_ne, zsr_ne, zwr_same, if_neg]
      exact id
    · simp (disch := decide) only [zwr_ne, zsr_ne, zsr_same, zwr_same, w132, if_neg]
      simp
  · have c1 : zcall 141 [(2, 0), (0, x1), (0, x2)] T V = some ((0, -1), T, zwr (zwr V 0 17 (-1)) 129 0 (V 129 0 + 1)) := by
      have tl : ev 141 21 [(2, 0), (0, x1), (0, x2)] [] T V = some ((0, -1), T, zwr (zwr V 0 17 (-1)) 129 0 (V 129 0 + 1)) := by
        rw [b141_21 hS, c24_0 hS m0.1]
        simp only [Option.bind_some, zpush0]
        rw [b141_26]
      rw [e141, b141_0]
      by_cases q1 : x1 < 0
      · rw [if_pos q1, tl]
      rw [if_neg q1, b141_4]
      by_cases q2 : 1000000 < x1
      · rw [if_pos q2, tl]
      rw [if_neg q2, b141_11]
      by_cases q3 : x2 < 0
      · rw [if_pos q3, tl]
      rw [if_neg q3, b141_15, if_neg (by omega), tl]
    rw [c1]
    refine zwp_ret ?_
    have e131 : zwr (zwr V 0 17 (-1)) 129 0 (V 129 0 + 1) 131 = V 131 := by rw [zwr_ne (by decide), zwr_ne (by decide)]
    have c2 : zcall 241 [(2, 130), (0, x1), (0, x2)] T (zwr (zwr V 0 17 (-1)) 129 0 (V 129 0 + 1)) = some ((0, -1), T, zwr (zwr (zwr (zwr V 0 17 (-1)) 129 0 (V 129 0 + 1)) 130 0 (-1)) 131 1 (V 131 1 + 1)) := by
      have tl : ev 241 20 [(2, 130), (0, x1), (0, x2), (9, 0), (9, 0), (9, 0)] [] T (zwr (zwr V 0 17 (-1)) 129 0 (V 129 0 + 1)) = some ((0, -1), T, zwr (zwr (zwr (zwr V 0 17 (-1)) 129 0 (V 129 0 + 1)) 130 0 (-1)) 131 1 (V 131 1 + 1)) := by
        rw [b241_20 hS, c151_0 hS (by rw [e131]; exact m0.2), e131]
        simp only [Option.bind_some, zpush0]
        rw [b241_25]
      rw [e241, b241_0, c150]
      simp only [Option.bind_some, zpush0]
      rw [b241_7]
      by_cases q1 : 0 ≤ x1 ∧ x1 ≤ 1000000
      · rw [if_pos q1, if_neg (by decide), b241_10, c150]
        simp only [Option.bind_some, zpush0]
        rw [b241_17, if_neg (show ¬ (0 ≤ x2 ∧ x2 ≤ 100) by omega), if_pos rfl, tl]
      · rw [if_neg q1, if_pos rfl, tl]
    rw [c2]
    exact zwp_ret ⟨⟨_, rfl, rfl⟩, zJ_r0 h hn⟩
end RAIN2
