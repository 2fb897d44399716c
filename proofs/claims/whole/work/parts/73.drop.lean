/-! drop; copies of yards -/
def zy5 (V : zM) (b : Int) (f1 f2 f3 f4 f5 : Int → Int) : zM := zs (zs (zs (zs (zs V (b + 1) f1) (b + 2) f2) (b + 3) f3) (b + 4) f4) (b + 5) f5
section DROP
variable {n : Int} {T : zT} {V : zM}
theorem zy5_o {b r : Int} {f1 f2 f3 f4 f5 : Int → Int} (h : r ≤ b ∨ b + 6 ≤ r) : zy5 V b f1 f2 f3 f4 f5 r = V r := by
  unfold zy5
  rw [zsr_ne (by omega), zsr_ne (by omega), zsr_ne (by omega), zsr_ne (by omega), zsr_ne (by omega)]
theorem zy5_1 {b : Int} {f1 f2 f3 f4 f5 : Int → Int} : zy5 V b f1 f2 f3 f4 f5 (b + 1) = f1 := by
  unfold zy5
  rw [zsr_ne (by omega), zsr_ne (by omega), zsr_ne (by omega), zsr_ne (by omega), zsr_same]
theorem zy5_2 {b : Int} {f1 f2 f3 f4 f5 : Int → Int} : zy5 V b f1 f2 f3 f4 f5 (b + 2) = f2 := by
  unfold zy5
  rw [zsr_ne (by omega), zsr_ne (by omega), zsr_ne (by omega), zsr_same]
theorem zy5_3 {b : Int} {f1 f2 f3 f4 f5 : Int → Int} : zy5 V b f1 f2 f3 f4 f5 (b + 3) = f3 := by
  unfold zy5
  rw [zsr_ne (by omega), zsr_ne (by omega), zsr_same]
theorem zy5_4 {b : Int} {f1 f2 f3 f4 f5 : Int → Int} : zy5 V b f1 f2 f3 f4 f5 (b + 4) = f4 := by
  unfold zy5
  rw [zsr_ne (by omega), zsr_same]
theorem zy5_5 {b : Int} {f1 f2 f3 f4 f5 : Int → Int} : zy5 V b f1 f2 f3 f4 f5 (b + 5) = f5 := by
  unfold zy5
  rw [zsr_same]
theorem zy5_zy5 {b : Int} {f1 f2 f3 f4 f5 g1 g2 g3 g4 g5 : Int → Int} : zy5 (zy5 V b f1 f2 f3 f4 f5) b g1 g2 g3 g4 g5 = zy5 V b g1 g2 g3 g4 g5 := by
  funext r
  unfold zy5 zs
  (repeat' split) <;> rfl
theorem zy5_id {b : Int} : zy5 V b (V (b + 1)) (V (b + 2)) (V (b + 3)) (V (b + 4)) (V (b + 5)) = V := by
  funext r
  unfold zy5 zs
  (repeat' split) <;> first | rfl | (subst r; rfl)
/-- one yard copied; the rows read are not among those written but for their own -/
theorem c41 {b c x y : Int} (h : zYards T b) (h2 : zYards T c) (hx : 0 ≤ x ∧ x < 10) (hy : 0 ≤ y ∧ y < 10) (hbc : b = c ∨ zap b 6 c 6) : zcall 41 [(2, b), (2, c), (0, x), (0, y)] T V = some ((9, 0), T, zy5 V b (zku (V (b + 1)) y (V (c + 1) x)) (zku (V (b + 2)) y (V (c + 2) x)) (zku (V (b + 3)) y (V (c + 3) x)) (zku (V (b + 4)) y (V (c + 4) x)) (zku (V (b + 5)) y (V (c + 5) x))) := by
  rw [e41, b41_0 h h2 hx hy]
  unfold zap at hbc
  have e2 : ∀ v, zwr V (b + 1) y v (c + 2) = V (c + 2) := fun v => zwr_ne (by omega)
  simp (disch := omega) only [zwr_ne]
  congr 3
  funext r j
  unfold zy5 zku
  simp only [zwr_eq, zs_eq]
  by_cases g5 : r = b + 5
  · subst g5
    (repeat' split) <;> first | rfl | (exfalso; omega)
  by_cases g4 : r = b + 4
  · subst g4
    (repeat' split) <;> first | rfl | (exfalso; omega)
  by_cases g3 : r = b + 3
  · subst g3
    (repeat' split) <;> first | rfl | (exfalso; omega)
  by_cases g2 : r = b + 2
  · subst g2
    (repeat' split) <;> first | rfl | (exfalso; omega)
  by_cases g1 : r = b + 1
  · subst g1
    (repeat' split) <;> first | rfl | (exfalso; omega)
  simp only [g1, g2, g3, g4, g5, false_and, if_false]
def zsh (x i : Int) (f : Int → Int) : Int → Int := fun j => if x ≤ j ∧ j < i then f (j + 1) else f j
theorem zku_sh {x i : Int} {f : Int → Int} (h : x ≤ i) : zku (zsh x i f) i (zsh x i f (i + 1)) = zsh x (i + 1) f := by
  funext j
  unfold zku zsh
  by_cases e : j = i
  · subst e
    rw [if_pos rfl, if_neg (by omega), if_pos (by omega)]
  · rw [if_neg e]
    (repeat' split) <;> first | rfl | (exfalso; omega)
theorem zsh_0 {x : Int} {f : Int → Int} : zsh x x f = f := by
  funext j
  unfold zsh
  rw [if_neg (by omega)]
theorem c134 {b x H : Int} (h : zYards T b) (hH : V b 5 = H) (hx : 0 ≤ x ∧ x < H ∧ H ≤ 10) : zcall 134 [(2, b), (0, x)] T V = some ((9, 0), T, zwr (zy5 V b (zsh x (H - 1) (V (b + 1))) (zsh x (H - 1) (V (b + 2))) (zsh x (H - 1) (V (b + 3))) (zsh x (H - 1) (V (b + 4))) (zsh x (H - 1) (V (b + 5)))) b 5 (H - 1)) := by
  have key := zfor (fun i => ev 134 2 [(2, b), (0, x), (0, i)] [] T (zy5 V b (zsh x i (V (b + 1))) (zsh x i (V (b + 2))) (zsh x i (V (b + 3))) (zsh x i (V (b + 4))) (zsh x i (V (b + 5))))) (lo := x) (hi := H - 1) (by omega) (fun i h1 h2 => by
    show ev 134 2 _ _ _ _ = ev 134 2 _ _ _ _
    rw [b134_2 (by omega) h, if_neg (by rw [zy5_o (by omega), hH]; omega), b134_12 (by omega) h, c41 h h (by omega) (by omega) (Or.inl rfl)]
    simp only [Option.bind_some, zpush9]
    rw [b134_21 (by omega), zy5_zy5, zy5_1, zy5_2, zy5_3, zy5_4, zy5_5, zku_sh h1, zku_sh h1, zku_sh h1, zku_sh h1, zku_sh h1])
  have k0 := key
  simp only [zsh_0, zy5_id] at k0
  rw [e134, b134_0, k0, b134_2 (by omega) h, if_pos (by rw [zy5_o (by omega), hH]; omega), b134_27 h (by rw [zy5_o (by omega), hH]; omega), zy5_o (by omega), hH]
def zsh2 (H x i : Int) (f : Int → Int) : Int → Int := fun j => if j = 426 then H - 1 else if 376 + 5 * x ≤ j ∧ j < 376 + i then f (j + 5) else f j
theorem c235 {x H : Int} (hS : zStr T) (hH : V 132 426 = H) (hx : 0 ≤ x ∧ x < H ∧ H ≤ 10) : zcall 235 [(2, 130), (0, x)] T V = some ((0, H - 1), T, zwr (zs V 132 (zsh2 H x (5 * (H - 1)) (V 132))) 130 0 0) := by
  have r426 : ∀ i, zs V 132 (zsh2 H x i (V 132)) 132 426 = H - 1 := fun i => by
    rw [zsr_same]
    unfold zsh2
    rw [if_pos rfl]
  have key := zfor (fun i => ev 235 41 [(2, 130), (0, x), (0, i)] [] T (zs V 132 (zsh2 H x i (V 132)))) (lo := 5 * x) (hi := 5 * (H - 1)) (by omega) (fun i h1 h2 => by
    show ev 235 41 _ _ _ _ = ev 235 41 _ _ _ _
    rw [b235_41 hS (by rw [r426]; omega), if_neg (by rw [r426]; omega), b235_55 hS (by omega) (by omega) (by omega) (by omega) (by omega), zsr_same, zwr_zs]
    congr 2
    funext j
    unfold zsh2
    by_cases e : j = 376 + i
    · subst e
      rw [if_pos rfl, if_neg (by omega), if_neg (by omega), if_neg (by omega), if_pos (by omega)]
    · rw [if_neg e]
      (repeat' split) <;> first | rfl | (exfalso; omega))
  have e0 : zwr V 132 426 (H - 1) = zs V 132 (zsh2 H x (5 * x) (V 132)) := by
    rw [zwr_s]
    congr 1
    funext j
    unfold zsh2
    (repeat' split) <;> first | rfl | (exfalso; omega)
  rw [e235, b235_0 hS (by omega), hH, c150, if_pos (by omega)]
  simp only [Option.bind_some, zpush0]
  rw [b235_15, if_neg (by decide), b235_25 hS (by omega) (by omega), hH, e0, key, b235_41 hS (by rw [r426]; omega), if_pos (by rw [r426]; omega), b235_83 hS, r426, c152 hS]
  simp only [Option.bind_some, zpush0]
  rw [b235_95]
theorem k_drop {x1 : Int} (h : zJ n T V) (hn : n < 1000) (zx1 : z32 x1) : zSame 0 133 235 [(0, x1)] n T V := by
  have hS := h.str
  have hN := h.ok.n
  have hh := h.ok.held
  have m1 := zJ_m1 h
  have hy : V 22 5 = V 132 426 := h.sr.yards.1
  obtain ⟨⟨s1, s2, s3⟩, ⟨s4, s5, s6, s7⟩, s8, s9, s10, s11, s12⟩ := h.sc
  unfold zSame
  by_cases g : 0 ≤ x1 ∧ x1 < V 132 426
  · have c1 : zcall 133 [(2, 0), (0, x1)] T V = some ((0, V 132 426 - 1), T, zwr (zwr (zy5 V 22 (zsh x1 (V 132 426 - 1) (V 23)) (zsh x1 (V 132 426 - 1) (V 24)) (zsh x1 (V 132 426 - 1) (V 25)) (zsh x1 (V 132 426 - 1) (V 26)) (zsh x1 (V 132 426 - 1) (V 27))) 22 5 (V 132 426 - 1)) 0 17 0) := by
      rw [e133, b133_0, if_neg (by omega), b133_4 hS, if_pos (by omega), b133_25 hS, c134 (st22 hS) hy (by omega)]
      simp only [Option.bind_some, zpush9]
      rw [b133_36 hS, zwr_same, if_pos rfl, c26 hS]
      simp only [Option.bind_some, zpush0]
      rw [b133_50]
      rfl
    rw [c1]
    refine zwp_ret ?_
    generalize hU : zwr (zwr (zy5 V 22 (zsh x1 (V 132 426 - 1) (V 23)) (zsh x1 (V 132 426 - 1) (V 24)) (zsh x1 (V 132 426 - 1) (V 25)) (zsh x1 (V 132 426 - 1) (V 26)) (zsh x1 (V 132 426 - 1) (V 27))) 22 5 (V 132 426 - 1)) 0 17 0 = U
    have er : ∀ r, r < 22 ∨ 28 ≤ r → r ≠ 0 → U r = V r := fun r h1 h2 => by
      rw [← hU, zwr_ne (by omega), zwr_ne (by omega), zy5_o (by omega)]
    have e132 := er 132 (by omega) (by omega)
    have U22 : U 22 5 = V 132 426 - 1 := by rw [← hU, zwr_ne (by decide), zwr_same, if_pos rfl]
    have U23 : U (1 + 21 + 1) = zsh x1 (V 132 426 - 1) (V 23) := by
      rw [← hU, zwr_ne (by decide), zwr_ne (by decide)]; exact zy5_1
    have U24 : U (1 + 21 + 2) = zsh x1 (V 132 426 - 1) (V 24) := by
      rw [← hU, zwr_ne (by decide), zwr_ne (by decide)]; exact zy5_2
    have U25 : U (1 + 21 + 3) = zsh x1 (V 132 426 - 1) (V 25) := by
      rw [← hU, zwr_ne (by decide), zwr_ne (by decide)]; exact zy5_3
    have U26 : U (1 + 21 + 4) = zsh x1 (V 132 426 - 1) (V 26) := by
      rw [← hU, zwr_ne (by decide), zwr_ne (by decide)]; exact zy5_4
    have U27 : U (1 + 21 + 5) = zsh x1 (V 132 426 - 1) (V 27) := by
      rw [← hU, zwr_ne (by decide), zwr_ne (by decide)]; exact zy5_5
    have U0 : ∀ j, U 0 j = if j = 17 then 0 else V 0 j := fun j => by
      rw [← hU, zwr_same, zwr_ne (by decide), zy5_o (by decide)]
    rw [c235 (V := U) hS (H := V 132 426) (by rw [e132]) (by omega), e132]
    have w132 : ∀ i, zwr (zs U 132 (zsh2 (V 132 426) x1 (5 * (V 132 426 - 1)) (V 132))) 130 0 0 132 i = zsh2 (V 132 426) x1 (5 * (V 132 426 - 1)) (V 132) i := fun i => by
      rw [zwr_ne (by decide), zsr_same]
    have wy : ∀ y f, 0 ≤ y → y < 10 → 0 ≤ f → f < 5 → zsh2 (V 132 426) x1 (5 * (V 132 426 - 1)) (V 132) (376 + 5 * y + f) = if x1 ≤ y ∧ y < V 132 426 - 1 then V 132 (376 + 5 * (y + 1) + f) else V 132 (376 + 5 * y + f) := fun y f g1 g2 g3 g4 => by
      unfold zsh2
      rw [if_neg (by omega)]
      by_cases k : x1 ≤ y ∧ y < V 132 426 - 1
      · rw [if_pos k, if_pos (by omega)]
        congr 1
        omega
      · rw [if_neg k, if_neg (by omega)]
    have ry := h.sr.yards.2
    refine zwp_ret ⟨⟨_, rfl, rfl⟩, zJ_upd h (fun r hr => ?_) ?_ ?_ ?_ ?_ ?_ ?_ ?_⟩
    · unfold zkeep at hr
      rw [zwr_ne (by omega), zsr_ne (by omega), er r (by omega) (by omega)]
    · refine zSR_yard h.sr (fun d g1 g2 => ?_) (fun i g1 g2 => ?_) ⟨?_, fun y g1 g2 => ?_⟩
      · rw [zwr_ne (by omega), zsr_ne (by omega), er _ (by omega) (by omega)]
      · rw [w132]
        unfold zsh2
        rw [if_neg (by omega), if_neg (by omega)]
      · rw [w132]
        unfold zsh2
        rw [if_pos rfl, zwr_ne (by decide), zsr_ne (by decide)]
        exact U22
      · have a0 := wy y 0 g1 g2 (by decide) (by decide)
        have a1 := wy y 1 g1 g2 (by decide) (by decide)
        have a2 := wy y 2 g1 g2 (by decide) (by decide)
        have a3 := wy y 3 g1 g2 (by decide) (by decide)
        have a4 := wy y 4 g1 g2 (by decide) (by decide)
        simp only [Int.add_zero] at a0
        rw [w132, w132, w132, w132, w132, a0, a1, a2, a3, a4]
        rw [zwr_ne (r := 1 + 21 + 1) (by decide), zsr_ne (r := 1 + 21 + 1) (by decide), zwr_ne (r := 1 + 21 + 2) (by decide), zsr_ne (r := 1 + 21 + 2) (by decide), zwr_ne (r := 1 + 21 + 3) (by decide), zsr_ne (r := 1 + 21 + 3) (by decide), zwr_ne (r := 1 + 21 + 4) (by decide), zsr_ne (r := 1 + 21 + 4) (by decide), zwr_ne (r := 1 + 21 + 5) (by decide), zsr_ne (r := 1 + 21 + 5) (by decide), U23, U24, U25, U26, U27]
        unfold zsh
        by_cases k : x1 ≤ y ∧ y < V 132 426 - 1
        · rw [if_pos k, if_pos k, if_pos k, if_pos k, if_pos k, if_pos k, if_pos k, if_pos k, if_pos k, if_pos k]
          exact ry (y + 1) (by omega) (by omega)
        · rw [if_neg k, if_neg k, if_neg k, if_neg k, if_neg k, if_neg k, if_neg k, if_neg k, if_neg k, if_neg k]
          exact ry y g1 g2
    · refine zKok_k h.ok (fun i g1 g2 => ?_) ?_ (fun c g1 g2 => ?_) ?_ (fun y f g1 g2 g3 g4 => ?_)
      · rw [w132]
        unfold zsh2
        rw [if_neg (by omega), if_neg (by omega)]
      · rw [w132]
        unfold zsh2
        rw [if_neg (by omega), if_neg (by omega)]
        exact hN
      · rw [w132, w132]
        unfold zsh2
        rw [if_neg (by omega), if_neg (by omega), if_neg (by omega), if_neg (by omega)]
        exact h.ok.wall g1 g2
      · rw [w132]
        unfold zsh2
        rw [if_pos rfl]
        omega
      · rw [w132, wy y f g1 g2 g3 g4]
        split
        · exact h.ok.yard (by omega) (by omega) g3 g4
        · exact h.ok.yard g1 g2 g3 g4
    · have ht := h.tape
      unfold zTape at ht ⊢
      simp (disch := decide) only [zwr_ne, zsr_ne, zwr_same, if_neg, er 130 (by decide) (by decide), er 56 (by decide) (by decide), er 57 (by decide) (by decide), er 137 (by decide) (by decide)]
      exact ht
    · unfold zSc
      simp (disch := decide) only [zwr_ne, zsr_ne, zwr_same, U0, er 130 (by decide) (by decide), er 129 (by decide) (by decide), er 131 (by decide) (by decide)]
      simp
      omega
    · refine zkc_congr fun i hi => ?_
      rw [w132]
      unfold zsh2
      rw [if_neg (by omega), if_neg (by omega)]
    · simp (disch := decide) only [zwr_ne, zsr_ne, U0]
      simp
    · rw [w132]
      simp (disch := decide) only [zwr_ne, zsr_ne, zwr_same, er 130 (by decide) (by decide), if_neg]
      intro g9
      refine ⟨g9, ?_⟩
      unfold zsh2
      rw [if_neg (by omega), if_neg (by omega)]
  · have c1 : zcall 133 [(2, 0), (0, x1)] T V = some ((0, -2), T, zwr (zwr V 0 17 (-2)) 129 1 (V 129 1 + 1)) := by
      have tl : ev 133 18 [(2, 0), (0, x1)] [] T V = some ((0, -2), T, zwr (zwr V 0 17 (-2)) 129 1 (V 129 1 + 1)) := by
        rw [b133_18 hS, c24_1 hS m1.1]
        simp only [Option.bind_some, zpush0]
        rw [b133_24]
      rw [e133, b133_0]
      by_cases q1 : x1 < 0
      · rw [if_pos q1, tl]
      rw [if_neg q1, b133_4 hS, if_neg (by omega), tl]
    rw [c1]
    refine zwp_ret ?_
    have e131 : zwr (zwr V 0 17 (-2)) 129 1 (V 129 1 + 1) 131 = V 131 := by rw [zwr_ne (by decide), zwr_ne (by decide)]
    have e132 : zwr (zwr V 0 17 (-2)) 129 1 (V 129 1 + 1) 132 = V 132 := by rw [zwr_ne (by decide), zwr_ne (by decide)]
    have c2 : zcall 235 [(2, 130), (0, x1)] T (zwr (zwr V 0 17 (-2)) 129 1 (V 129 1 + 1)) = some ((0, -2), T, zwr (zwr (zwr (zwr V 0 17 (-2)) 129 1 (V 129 1 + 1)) 130 0 (-2)) 131 2 (V 131 2 + 1)) := by
      rw [e235, b235_0 hS (by rw [e132]; omega), e132, c150, if_neg (by omega)]
      simp only [Option.bind_some, zpush0]
      rw [b235_15, if_pos rfl, b235_18 hS, c151_1 hS (by rw [e131]; exact m1.2), e131]
      simp only [Option.bind_some, zpush0]
      rw [b235_24]
    rw [c2]
    exact zwp_ret ⟨⟨_, rfl, rfl⟩, zJ_r1 h hn⟩
end DROP
