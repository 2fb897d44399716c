/-! copies of a state -/
section COPY
variable {T : zT} {V : zM} {b c t : Int} {K : Int → Int}
theorem c39 (hb : zTongue T b) (hc : zTongue T c) (hd : zap b 8 c 8) (h : zTg V c K t) : zwp (zcall 39 [(2, b), (2, c)] T V) fun r T' V' => r = (9, 0) ∧ T' = T ∧ (∀ r, r < b ∨ b + 7 < r → V' r = V r) ∧ zTg V' b K t := by
  unfold zap at hd
  rw [e39, b39_0 hc hb (by omega) (by omega) (by omega) (by omega) (by omega) (by omega) (by omega)]
  refine zwp_ret ⟨rfl, rfl, fun r hr => ?_, ?_⟩
  · simp (disch := omega) only [zwr_ne, zcp_ne]
  · obtain ⟨a1, a2, a3, a4, a5, a6, a7, a8, a9⟩ := h
    refine ⟨fun l g1 g2 => ?_, fun l g1 g2 g3 => ?_, fun w g1 g2 => ?_, fun w i g1 g2 g3 g4 => ?_, fun i g1 g2 => ?_, fun i g1 g2 => ?_, ?_, ?_, ?_⟩
    · simp (disch := omega) only [zwr_ne, zcp_ne, zcp_same]
      rw [if_pos (by omega), show 0 + (l - 0) = l by omega]
      exact a1 l g1 g2
    · simp (disch := omega) only [zwr_ne, zcp_ne, zcp_same]
      rw [if_pos (by omega), show 0 + (l - 0) = l by omega]
      exact a2 l g1 g2 g3
    · simp (disch := omega) only [zwr_ne, zcp_ne, zcp_same]
      rw [if_pos (by omega), if_pos (by omega), show 0 + (w - 0) = w by omega]
      exact a3 w g1 g2
    · simp (disch := omega) only [zwr_ne, zcp_ne, zcp_same]
      rw [if_pos (by omega), show 0 + (w * 6 + i - 0) = w * 6 + i by omega]
      exact a4 w i g1 g2 g3 g4
    · simp (disch := omega) only [zwr_ne, zcp_ne, zcp_same]
      rw [if_pos (by omega), show 0 + (i - 0) = i by omega]
      exact a5 i g1 g2
    · simp (disch := omega) only [zwr_ne, zcp_ne, zcp_same]
      rw [if_pos (by omega), show 0 + (i - 0) = i by omega]
      exact a6 i g1 g2
    · simp (disch := omega) only [zwr_ne, zcp_ne, zwr_same, if_neg, if_true]
      exact a7
    · simp (disch := omega) only [zwr_ne, zcp_ne, zwr_same, if_neg, if_true]
      exact a8
    · simp (disch := omega) only [zwr_ne, zcp_ne, zwr_same, if_neg, if_true]
      exact a9
theorem c40 (hb : zYards T b) (hc : zYards T c) (hd : zap b 6 c 6) (h : zYr V c K) : zwp (zcall 40 [(2, b), (2, c)] T V) fun r T' V' => r = (9, 0) ∧ T' = T ∧ (∀ r, r < b ∨ b + 5 < r → V' r = V r) ∧ zYr V' b K := by
  have hd' := hd
  unfold zap at hd
  rw [e40, b40_0]
  refine zup (α := zM) (fun i W => (∀ r, r ≤ b ∨ b + 5 < r → W r = V r) ∧ ∀ y, 0 ≤ y → y < i → W (b + 1) y = V (c + 1) y ∧ W (b + 2) y = V (c + 2) y ∧ W (b + 3) y = V (c + 3) y ∧ W (b + 4) y = V (c + 4) y ∧ W (b + 5) y = V (c + 5) y) (fun i W => zwp (ev 40 2 [(2, b), (2, c), (0, i)] [] T W) fun r T' V' => r = (9, 0) ∧ T' = T ∧ (∀ r, r < b ∨ b + 5 < r → V' r = V r) ∧ zYr V' b K) (lo := 0) (hi := 10) (by decide) ?_ ?_ V ⟨fun r _ => rfl, fun y g1 g2 => by omega⟩
  · intro W hW
    show zwp (ev 40 2 _ _ _ _) _
    rw [b40_2, if_pos (by decide), b40_21 hc hb, hW.1 c (by omega)]
    refine zwp_ret ⟨rfl, rfl, fun r hr => by rw [zwr_ne (by omega), hW.1 r (by omega)], ?_, fun y g1 g2 => ?_⟩
    · rw [zwr_same, if_pos rfl]; exact h.1
    · rw [zwr_ne (by omega), zwr_ne (by omega), zwr_ne (by omega), zwr_ne (by omega), zwr_ne (by omega)]
      obtain ⟨q1, q2, q3, q4, q5⟩ := hW.2 y g1 g2
      rw [q1, q2, q3, q4, q5]
      exact h.2 y g1 g2
  · intro i W i1 i2 hW next
    show zwp (ev 40 2 _ _ _ _) _
    rw [b40_2, if_neg (by omega), b40_8 hb, c41 hb hc (by omega) (by omega) (Or.inr hd')]
    simp only [Option.bind_some, zpush9]
    rw [b40_15 (by omega)]
    refine next _ ⟨fun r hr => by rw [zy5_o (by omega), hW.1 r hr], fun y g1 g2 => ?_⟩
    rw [zy5_1, zy5_2, zy5_3, zy5_4, zy5_5, hW.1 (c + 1) (by omega), hW.1 (c + 2) (by omega), hW.1 (c + 3) (by omega), hW.1 (c + 4) (by omega), hW.1 (c + 5) (by omega)]
    unfold zku
    by_cases e : y = i
    · rw [if_pos e, if_pos e, if_pos e, if_pos e, if_pos e, e]
      exact ⟨rfl, rfl, rfl, rfl, rfl⟩
    · rw [if_neg e, if_neg e, if_neg e, if_neg e, if_neg e]
      exact hW.2 y g1 (by omega)
theorem zState.te (h : zState T b) : zTongue T (b + 5) := h.2.2.2.2.2.2.2.2.2.2.2.2.1
theorem zState.tw (h : zState T b) : zTongue T (b + 13) := h.2.2.2.2.2.2.2.2.2.2.2.2.2.1
theorem zState.ty (h : zState T b) : zYards T (b + 21) := h.2.2.2.2.2.2.2.2.2.2.2.2.2.2
theorem c38 (hb : zState T b) (hc : zState T c) (hd : zap b 27 c 27) (h : zSR V c K) : zwp (zcall 38 [(2, b), (2, c)] T V) fun r T' V' => r = (9, 0) ∧ T' = T ∧ (∀ r, r < b ∨ b + 26 < r → V' r = V r) ∧ zSR V' b K := by
  have hd' := hd
  unfold zap at hd
  rw [e38, b38_0 hc hb (by omega) (by omega) (by omega) (by omega)]
  generalize hW : zcp (zcp (zcp (zcp (zwr V b 0 (V c 0)) (b + 1) (c + 1) 0 0 16) (b + 2) (c + 2) 0 0 16) (b + 3) (c + 3) 0 0 7) (b + 4) (c + 4) 0 0 7 = W
  have Wr : ∀ r, r < b ∨ b + 4 < r → W r = V r := fun r hr => by
    rw [← hW]
    simp (disch := omega) only [zwr_ne, zcp_ne]
  have W0 : W b 0 = V c 0 := by
    rw [← hW]
    simp (disch := omega) only [zcp_ne, zwr_same, if_true]
  have Ww : ∀ i, 0 ≤ i → i < 16 → W (b + 1) i = V (c + 1) i ∧ W (b + 2) i = V (c + 2) i := fun i g1 g2 => by
    rw [← hW]
    simp (disch := omega) only [zwr_ne, zcp_ne, zcp_same]
    rw [if_pos (by omega), if_pos (by omega), show 0 + (i - 0) = i by omega]
    exact ⟨rfl, rfl⟩
  have Wm : ∀ i, 0 ≤ i → i < 7 → W (b + 3) i = V (c + 3) i ∧ W (b + 4) i = V (c + 4) i := fun i g1 g2 => by
    rw [← hW]
    simp (disch := omega) only [zwr_ne, zcp_ne, zcp_same]
    rw [if_pos (by omega), if_pos (by omega), show 0 + (i - 0) = i by omega]
    exact ⟨rfl, rfl⟩
  obtain ⟨a1, a2, a3, a4, a5, a6⟩ := h
  refine zwp_seq (c39 (K := K) (t := 0) hb.te hc.te (by unfold zap; omega) (zTg_congr (fun d g1 g2 => Wr _ (by omega)) a4)) ?_
  rintro r T1 V1 ⟨rfl, rfl, p1, p2⟩
  simp only [zpush9]
  rw [b38_79 hb hc]
  refine zwp_seq (c39 (K := K) (t := 1) hb.tw hc.tw (by unfold zap; omega) (zTg_congr (fun d g1 g2 => by rw [p1 _ (by omega), Wr _ (by omega)]) a5)) ?_
  rintro r T2 V2 ⟨rfl, rfl, q1, q2⟩
  simp only [zpush9]
  rw [b38_90 hb hc]
  refine zwp_seq (c40 (K := K) hb.ty hc.ty (by unfold zap; omega) (zYr_congr (fun d g1 g2 => by rw [q1 _ (by omega), p1 _ (by omega), Wr _ (by omega)]) a6)) ?_
  rintro r T3 V3 ⟨rfl, rfl, s1, s2⟩
  simp only [zpush9]
  rw [b38_101]
  have er : ∀ r, r < b + 5 ∨ b + 26 < r → V3 r = W r := fun r hr => by rw [s1 r (by omega), q1 r (by omega), p1 r (by omega)]
  refine zwp_ret ⟨rfl, rfl, fun r hr => by rw [er r (by omega), Wr r (by omega)], ?_, fun i g1 g2 => ?_, fun i g1 g2 => ?_, ?_, ?_, s2⟩
  · rw [er b (by omega), W0]; exact a1
  · rw [er _ (by omega), er _ (by omega), (Ww i g1 g2).1, (Ww i g1 g2).2]; exact a2 i g1 g2
  · rw [er _ (by omega), er _ (by omega), (Wm i g1 g2).1, (Wm i g1 g2).2]; exact a3 i g1 g2
  · exact zTg_congr (fun d g1 g2 => by rw [s1 _ (by omega), q1 _ (by omega)]) p2
  · exact zTg_congr (fun d g1 g2 => by rw [s1 _ (by omega)]) q2
end COPY
section BACK
variable {n : Int} {T : zT} {V : zM}
/-- all tables anew: what stands then -/
theorem zJ_new {V' : zM} {K : Int → Int} (h : zJ n T V) (hr : ∀ r, (71 ≤ r ∧ r ≤ 76) ∨ r = 111 ∨ r = 133 ∨ r = 134 ∨ r = 136 ∨ 153 ≤ r → V' r = V r) (eK : V' 132 = K) (hs : zSR V' 1 K) (hk : zKok K) (ht : zTape V') (hc : zSc (n + 1) V') (hrd : zRd V' K) (hpt : zPT V' 65 K (fun _ => True) (fun _ => 0)) (h1 : V' 0 14 = 0) (h2 : V' 130 2 ≠ V' 130 1) : zJ (n + 1) T V' := by
  have hz : ∀ i, 0 ≤ i → i < 300 → zkc K i = K i := fun i g1 g2 => zkc_in (Or.inl ⟨g1, g2⟩)
  subst eK
  refine ⟨h.str, zGeo_congr (fun r g => hr r (by omega)) h.geo, hs, hk, ht, hc, zRd_k hz hrd, zPT_k hz hpt, zPL_congr (fun d g1 g2 => hr _ (by omega)) h.pl, fun g => by omega, fun g => absurd g h2, zIm_congr (fun r g => hr r (by omega)) h.im, ?_⟩
  have := h.wd
  unfold zWd at this ⊢
  rw [hr 136 (by omega)]
  exact this
theorem c153 {x : Int} (hS : zStr T) (hx : 0 ≤ x ∧ x ≤ 1) (hi : V 134 x ≠ 0) (ht : 0 ≤ V 130 1 ∧ V 130 1 ≤ 1000) : zcall 153 [(2, 130), (0, x)] T V = some ((0, 0), T, zwr (zwr (zs V 132 (fun i => if 0 ≤ i ∧ i < 428 then V 133 (428 * x + i) else V 132 i)) 130 1 (V 130 1 + 1)) 130 0 0) := by
  have key := zfor (fun k => ev 153 33 [(2, 130), (0, x), (0, k)] [] T (zs V 132 (fun i => if 0 ≤ i ∧ i < k then V 133 (428 * x + i) else V 132 i))) (lo := 0) (hi := 428) (by decide) (fun k h1 h2 => by
    show ev 153 33 _ _ _ _ = ev 153 33 _ _ _ _
    rw [b153_33, if_neg (by omega), b153_40 hS (by omega) (by omega) (by omega) (by omega) (by omega), zsr_ne (by decide), zwr_zs]
    congr 2
    funext i
    by_cases e : i = k
    · subst e
      rw [if_pos rfl, if_pos (by omega)]
    · rw [if_neg e]
      (repeat' split) <;> first | rfl | (exfalso; omega))
  have e0 : zs V 132 (fun i => if 0 ≤ i ∧ i < 0 then V 133 (428 * x + i) else V 132 i) = V := by
    have : (fun i => if 0 ≤ i ∧ i < 0 then V 133 (428 * x + i) else V 132 i) = V 132 := by
      funext i
      rw [if_neg (by omega)]
    rw [this, zs_id]
  have k0 := key
  simp only [e0] at k0
  rw [e153, b153_0, c150, if_pos (by omega)]
  simp only [Option.bind_some, zpush0]
  rw [b153_6, if_neg (by decide), b153_15 hS (by omega), if_neg hi, b153_31, k0, b153_33, if_pos (by decide), b153_64 hS (by rw [zsr_ne (by decide)]; omega), zsr_ne (r := 130) (by decide), c152 hS]
  simp only [Option.bind_some, zpush0]
  rw [b153_79]
theorem zKok_x {K K' : Int → Int} (h : zKok K) (e : ∀ i, 0 ≤ i → i < 428 → K' i = K i) : zKok K' := by
  refine zKok_k h (fun i g1 g2 => e i g1 (by omega)) ?_ (fun c g1 g2 => ?_) ?_ (fun y f g1 g2 g3 g4 => ?_)
  · rw [e 427 (by decide) (by decide)]; exact h.n
  · rw [e _ (by omega) (by omega), e _ (by omega) (by omega)]; exact h.wall g1 g2
  · rw [e 426 (by decide) (by decide)]; exact h.held
  · rw [e _ (by omega) (by omega)]; exact h.yard g1 g2 g3 g4
theorem zSR_x {V : zM} {b : Int} {K K' : Int → Int} (h : zSR V b K) (e : ∀ i, 0 ≤ i → i < 428 → K' i = K i) : zSR V b K' := by
  refine zSR_wall h (fun d _ _ => rfl) (fun i g1 g2 => e i g1 (by omega)) (by rw [e 427 (by decide) (by decide)]; exact h.n) (fun c g1 g2 => ?_)
  rw [e _ (by omega) (by omega), e _ (by omega) (by omega)]
  exact h.wall g1 g2
theorem k_back {x1 : Int} (h : zJ n T V) (hn : n < 1000) (zx1 : z32 x1) : zSame 0 144 153 [(0, x1)] n T V := by
  have hS := h.str
  have m0 := zJ_m0 h
  have m1 := zJ_m1 h
  obtain ⟨⟨s1, s2, s3⟩, ⟨s4, s5, s6, s7⟩, s8, s9, s10, s11, s12⟩ := h.sc
  unfold zSame
  by_cases g : 0 ≤ x1 ∧ x1 ≤ 1
  · have hi : zIm1 T V x1 := by
      have : x1 = 0 ∨ x1 = 1 := by omega
      rcases this with e | e
      · subst e; exact h.im.1
      · subst e; exact h.im.2
    rcases hi with ⟨i1, i2⟩ | ⟨i1, i2, i3, i4, i5⟩
    · have c1 : zcall 144 [(2, 0), (0, x1)] T V = some ((0, -2), T, zwr (zwr V 0 17 (-2)) 129 1 (V 129 1 + 1)) := by
        rw [e144, b144_0, if_neg (by omega), b144_4 hS, if_pos (by omega), b144_19 hS (by omega), if_neg (by omega), b144_28 hS, c24_1 hS m1.1]
        simp only [Option.bind_some, zpush0]
        rw [b144_34]
      rw [c1]
      refine zwp_ret ?_
      have e131 : zwr (zwr V 0 17 (-2)) 129 1 (V 129 1 + 1) 131 = V 131 := by rw [zwr_ne (by decide), zwr_ne (by decide)]
      have c2 : zcall 153 [(2, 130), (0, x1)] T (zwr (zwr V 0 17 (-2)) 129 1 (V 129 1 + 1)) = some ((0, -2), T, zwr (zwr (zwr (zwr V 0 17 (-2)) 129 1 (V 129 1 + 1)) 130 0 (-2)) 131 2 (V 131 2 + 1)) := by
        rw [e153, b153_0, c150, if_pos (by omega)]
        simp only [Option.bind_some, zpush0]
        rw [b153_6, if_neg (by decide), b153_15 hS (by omega), if_pos (by rw [zwr_ne (by decide), zwr_ne (by decide)]; exact i1), b153_24 hS, c151_1 hS (by rw [e131]; exact m1.2), e131]
        simp only [Option.bind_some, zpush0]
        rw [b153_30]
      rw [c2]
      exact zwp_ret ⟨⟨_, rfl, rfl⟩, zJ_r1 h hn⟩
    · rw [e144, b144_0, if_neg (by omega), b144_4 hS, if_pos (by omega), b144_19 hS (by omega), if_pos (by omega), b144_35 hS (by omega)]
      refine zwp_seq (c38 (st1 hS) i3 (by unfold zap; omega) i4) ?_
      rintro r T1 V1 ⟨rfl, rfl, p1, p2⟩
      simp only [zpush9]
      rw [b144_48 hS]
      refine zwp_seq (c15 hS p2 i5 ⟨?_, ?_, ?_⟩ (zPL_congr (fun d g1 g2 => p1 _ (by omega)) h.pt.1)) ?_
      · rw [p1 62 (by omega), (h.rd.1 0 (by decide) (by decide)).2.2, zcst_0]
      · rw [p1 63 (by omega)]; exact h.rd.2.1
      · rw [p1 64 (by omega)]; exact h.rd.2.2
      rintro r T2 V2 ⟨rfl, rfl, q1, q2, q3, q4, q5⟩
      simp only [zpush9]
      rw [b144_52 hS, c26 hS]
      simp only [Option.bind_some, zpush0]
      rw [b144_57]
      refine zwp_ret ?_
      generalize hU : zwr V2 0 17 0 = U
      have er : ∀ r, r ≠ 0 → (r < 60 ∨ 70 < r) → U r = V1 r := fun r g1 g2 => by rw [← hU, zwr_ne g1, q1 r g2 g1]
      have er2 : ∀ r, 27 < r → (r < 60 ∨ 70 < r) → U r = V r := fun r g1 g2 => by rw [er r (by omega) g2, p1 r (by omega)]
      have U0 : ∀ j, U 0 j = if j = 17 then 0 else V2 0 j := fun j => by rw [← hU, zwr_same]
      have V20 : ∀ j, j ≠ 14 → V2 0 j = V 0 j := fun j g => by rw [q2 j g, p1 0 (by omega)]
      have e130 := er2 130 (by decide) (by decide)
      have e132 := er2 132 (by decide) (by decide)
      have e133 := er2 133 (by decide) (by decide)
      have e134 := er2 134 (by decide) (by decide)
      rw [c153 (V := U) hS g (by rw [e134, i1]; decide) (by rw [e130]; omega), e130, e132, e133]
      refine zwp_ret ⟨⟨_, rfl, rfl⟩, zJ_new h (K := fun i => if 0 ≤ i ∧ i < 428 then V 133 (428 * x1 + i) else V 132 i) (fun r hr => ?_) ?_ ?_ ?_ ?_ ?_ ?_ ?_ ?_ ?_⟩
      · rw [zwr_ne (by omega), zwr_ne (by omega), zsr_ne (by omega), er2 r (by omega) (by omega)]
      · rw [zwr_ne (by decide), zwr_ne (by decide), zsr_same]
      · refine zSR_x (K := fun i => V 133 (428 * x1 + i)) (zSR_congr (fun d g1 g2 => ?_) p2) (fun i g1 g2 => if_pos ⟨g1, g2⟩)
        rw [zwr_ne (by omega), zwr_ne (by omega), zsr_ne (by omega), er _ (by omega) (by omega)]
      · exact zKok_x i5 (fun i g1 g2 => if_pos ⟨g1, g2⟩)
      · have ht := h.tape
        unfold zTape at ht ⊢
        simp (disch := decide) only [zwr_ne, zsr_ne, zwr_same, if_neg, er2 56 (by decide) (by decide), er2 57 (by decide) (by decide), er2 137 (by decide) (by decide), e130]
        exact ht
      · unfold zSc
        simp (disch := decide) only [zwr_ne, zsr_ne, zwr_same, U0, V20, q3, e130, er2 129 (by decide) (by decide), er2 131 (by decide) (by decide)]
        simp
        omega
      · refine zRd_congr (fun r g1 g2 => ?_) (zRd_k (K := fun i => V 133 (428 * x1 + i)) (fun i g1 g2 => if_pos ⟨g1, by omega⟩) q4)
        rw [zwr_ne (by omega), zwr_ne (by omega), zsr_ne (by omega), ← hU, zwr_ne (by omega)]
      · refine zPT_congr (fun d g1 g2 => ?_) (zPT_k (K := fun i => V 133 (428 * x1 + i)) (fun i g1 g2 => if_pos ⟨g1, by omega⟩) q5)
        rw [zwr_ne (by omega), zwr_ne (by omega), zsr_ne (by omega), ← hU, zwr_ne (by omega)]
      · simp (disch := decide) only [zwr_ne, zsr_ne, U0, q3, if_neg]
      · simp (disch := decide) only [zwr_ne, zsr_ne, zwr_same, e130, if_neg, if_true]
        simp
        omega
  · have c1 : zcall 144 [(2, 0), (0, x1)] T V = some ((0, -1), T, zwr (zwr V 0 17 (-1)) 129 0 (V 129 0 + 1)) := by
      have tl : ev 144 13 [(2, 0), (0, x1)] [] T V = some ((0, -1), T, zwr (zwr V 0 17 (-1)) 129 0 (V 129 0 + 1)) := by
        rw [b144_13 hS, c24_0 hS m0.1]
        simp only [Option.bind_some, zpush0]
        rw [b144_18]
      rw [e144, b144_0]
      by_cases q1 : x1 < 0
      · rw [if_pos q1, tl]
      rw [if_neg q1, b144_4 hS, if_neg (by omega), tl]
    rw [c1]
    refine zwp_ret ?_
    have e131 : zwr (zwr V 0 17 (-1)) 129 0 (V 129 0 + 1) 131 = V 131 := by rw [zwr_ne (by decide), zwr_ne (by decide)]
    have c2 : zcall 153 [(2, 130), (0, x1)] T (zwr (zwr V 0 17 (-1)) 129 0 (V 129 0 + 1)) = some ((0, -1), T, zwr (zwr (zwr (zwr V 0 17 (-1)) 129 0 (V 129 0 + 1)) 130 0 (-1)) 131 1 (V 131 1 + 1)) := by
      rw [e153, b153_0, c150, if_neg (by omega)]
      simp only [Option.bind_some, zpush0]
      rw [b153_6, if_pos rfl, b153_9 hS, c151_0 hS (by rw [e131]; exact m0.2), e131]
      simp only [Option.bind_some, zpush0]
      rw [b153_14]
    rw [c2]
    exact zwp_ret ⟨⟨_, rfl, rfl⟩, zJ_r0 h hn⟩
end BACK
