/-! image -/
section IMAGE
variable {n : Int} {T T' : zT} {V V' : zM} {x b : Int}
theorem c149 (hS : zStr T) (hx : x = 0 ∨ x = 1) : zwp (zcall 149 [(2, 130), (0, x)] T V) fun r T' V' => r = (0, 0) ∧ T' = T ∧ (∀ r, r ≠ 130 → r ≠ 133 → r ≠ 134 → V' r = V r) ∧ (V' 130 0 = 0 ∧ ∀ j, j ≠ 0 → V' 130 j = V 130 j) ∧ (∀ i, 0 ≤ i → i < 428 → V' 133 (428 * x + i) = V 132 i) ∧ (∀ j, j < 428 * x ∨ 428 * x + 428 ≤ j → V' 133 j = V 133 j) ∧ V' 134 x = 1 ∧ ∀ j, j ≠ x → V' 134 j = V 134 j := by
  rw [e149, b149_0, c150, if_pos (by omega)]
  simp only [Option.bind_some, zpush0]
  rw [b149_6, if_neg (by decide), b149_15]
  refine zup (α := zM) (fun i W => (∀ r, r ≠ 133 → W r = V r) ∧ (∀ j, 0 ≤ j → j < i → W 133 (428 * x + j) = V 132 j) ∧ ∀ j, j < 428 * x ∨ 428 * x + 428 ≤ j → W 133 j = V 133 j) (fun i W => zwp (ev 149 17 [(2, 130), (0, x), (0, i)] [] T W) fun r T' V' => r = (0, 0) ∧ T' = T ∧ (∀ r, r ≠ 130 → r ≠ 133 → r ≠ 134 → V' r = V r) ∧ (V' 130 0 = 0 ∧ ∀ j, j ≠ 0 → V' 130 j = V 130 j) ∧ (∀ i, 0 ≤ i → i < 428 → V' 133 (428 * x + i) = V 132 i) ∧ (∀ j, j < 428 * x ∨ 428 * x + 428 ≤ j → V' 133 j = V 133 j) ∧ V' 134 x = 1 ∧ ∀ j, j ≠ x → V' 134 j = V 134 j) (lo := 0) (hi := 428) (by decide) ?_ ?_ V ⟨fun _ _ => rfl, fun j g1 g2 => by omega, fun _ _ => rfl⟩
  · rintro W ⟨g1, g2, g3⟩
    rw [b149_17, if_pos (by decide), b149_48 hS (by omega), c152 hS]
    simp only [Option.bind_some, zpush0]
    rw [b149_60]
    refine zwp_ret ⟨rfl, rfl, fun r r1 r2 r3 => by rw [zwr_ne r1, zwr_ne r3, g1 r r2], ⟨by rw [zwr_same, if_pos rfl], fun j hj => by rw [zwr_same, if_neg hj, zwr_ne (by decide), g1 130 (by decide)]⟩, fun i i1 i2 => by rw [zwr_ne (by decide), zwr_ne (by decide), g2 i i1 i2], fun j hj => by rw [zwr_ne (by decide), zwr_ne (by decide), g3 j hj], by rw [zwr_ne (by decide), zwr_same, if_pos rfl], fun j hj => by rw [zwr_ne (by decide), zwr_same, if_neg hj, g1 134 (by decide)]⟩
  · rintro i W i1 i2 ⟨g1, g2, g3⟩ next
    rw [b149_17, if_neg (by omega), b149_24 hS (by omega) (by omega) (by omega) (by omega) (by omega)]
    refine next _ ⟨fun r hr => by rw [zwr_ne hr, g1 r hr], fun j j1 j2 => ?_, fun j hj => by rw [zwr_same, if_neg (by omega), g3 j hj]⟩
    rw [zwr_same]
    by_cases c : j = i
    · rw [if_pos (by omega), c, g1 132 (by decide)]
    · rw [if_neg (by omega)]; exact g2 j j1 (by omega)
theorem zJ_im (h : zJ n T V) (hn : n < 1000) (hx : x = 0 ∨ x = 1) (hS : zStr T') (hg : zGeo T' V') (hX : zHx T T' (fun a k => a = 55 ∧ k = x)) (hb : zp T' 55 x = b) (hb2 : 153 ≤ b) (hst : zState T' b) (hap : ∀ k, k = 0 ∨ k = 1 → k ≠ x → 0 ≤ zp T 55 k → zap (zp T 55 k) 27 b 27 ∧ zp T 55 k + 26 < zsz T) (er : ∀ r, 0 ≤ r → r < zsz T → r ≠ 0 → r ≠ 130 → r ≠ 133 → r ≠ 134 → r < b ∨ b + 26 < r → V' r = V r) (e0 : V' 0 17 = 0 ∧ ∀ j, j ≠ 17 → V' 0 j = V 0 j) (e130 : V' 130 0 = 0 ∧ ∀ j, j ≠ 0 → V' 130 j = V 130 j) (e133 : (∀ i, 0 ≤ i → i < 428 → V' 133 (428 * x + i) = V 132 i) ∧ ∀ j, j < 428 * x ∨ 428 * x + 428 ≤ j → V' 133 j = V 133 j) (e134 : V' 134 x = 1 ∧ ∀ j, j ≠ x → V' 134 j = V 134 j) (hs : zSR V' b (V 132)) : zJ (n + 1) T' V' := by
  have hsz : 153 ≤ zsz T := h.str.1
  have e : ∀ r, 0 < r → r < 153 → r ≠ 130 → r ≠ 133 → r ≠ 134 → V' r = V r := fun r r1 r2 r3 r4 r5 => er r (by omega) (by omega) (by omega) r3 r4 r5 (by omega)
  have e132 := e 132 (by decide) (by decide) (by decide) (by decide) (by decide)
  obtain ⟨⟨s1, s2, s3⟩, ⟨s4, s5, s6, s7⟩, s8, s9, s10, s11, s12⟩ := h.sc
  have im : ∀ k, k = 0 ∨ k = 1 → zIm1 T' V' k := fun k hk => by
    by_cases c : k = x
    · rw [c]
      refine Or.inr ⟨e134.1, by rw [hb]; exact hb2, by rw [hb]; exact hst, by rw [hb]; exact zSR_x hs (fun i i1 i2 => e133.1 i i1 i2), zKok_x h.ok (fun i i1 i2 => e133.1 i i1 i2)⟩
    · have p55 : zp T' 55 k = zp T 55 k := hX.2.2 55 k (by omega) (fun z => c z.2)
      have old : zIm1 T V k := by
        rcases hk with rfl | rfl
        · exact h.im.1
        · exact h.im.2
      have k133 : ∀ i, 0 ≤ i → i < 428 → V' 133 (428 * k + i) = V 133 (428 * k + i) := fun i i1 i2 => e133.2 _ (by omega)
      rcases old with ⟨o1, o2⟩ | ⟨o1, o2, o3, o4, o5⟩
      · exact Or.inl ⟨by rw [e134.2 k c, o1], by rw [p55, o2]⟩
      · obtain ⟨p1, p2⟩ := hap k hk c (by omega)
        unfold zap at p1
        refine Or.inr ⟨by rw [e134.2 k c, o1], by rw [p55]; exact o2, by rw [p55]; exact zState_x o3 hX (fun y j y1 y2 z => by omega), ?_, zKok_x o5 (fun i i1 i2 => k133 i i1 i2)⟩
        rw [p55]
        exact zSR_x (zSR_congr (fun d d1 d2 => er _ (by omega) (by omega) (by omega) (by omega) (by omega) (by omega) (by omega)) o4) (fun i i1 i2 => k133 i i1 i2)
  refine ⟨hS, hg, ?_, by rw [e132]; exact h.ok, ?_, ?_, ?_, ?_, ?_, ?_, ?_, ⟨im 0 (Or.inl rfl), im 1 (Or.inr rfl)⟩, ?_⟩
  · rw [e132]
    exact zSR_congr (fun d g1 g2 => e _ (by omega) (by omega) (by omega) (by omega) (by omega)) h.sr
  · have ht := h.tape
    unfold zTape at ht ⊢
    rw [e 56 (by decide) (by decide) (by decide) (by decide) (by decide), e 57 (by decide) (by decide) (by decide) (by decide) (by decide), e 137 (by decide) (by decide) (by decide) (by decide) (by decide), e130.2 12 (by decide)]
    exact ht
  · unfold zSc
    rw [e 129 (by decide) (by decide) (by decide) (by decide) (by decide), e 131 (by decide) (by decide) (by decide) (by decide) (by decide), e130.2 13 (by decide), e130.2 8 (by decide), e130.1, e130.2 1 (by decide), e130.2 2 (by decide), e0.1, e0.2 15 (by decide), e0.2 16 (by decide), e0.2 14 (by decide)]
    exact ⟨⟨s1, s2, rfl⟩, ⟨s4, s5, s6, s7⟩, by omega, s9, by omega, s11, by omega⟩
  · have := h.rd
    unfold zRd at this ⊢
    rw [e132, e 60 (by decide) (by decide) (by decide) (by decide) (by decide), e 61 (by decide) (by decide) (by decide) (by decide) (by decide), e 62 (by decide) (by decide) (by decide) (by decide) (by decide), e 63 (by decide) (by decide) (by decide) (by decide) (by decide), e 64 (by decide) (by decide) (by decide) (by decide) (by decide)]
    exact this
  · rw [e132]
    exact zPT_congr (fun d g1 g2 => e _ (by omega) (by omega) (by omega) (by omega) (by omega)) h.pt
  · exact zPL_congr (fun d g1 g2 => e _ (by omega) (by omega) (by omega) (by omega) (by omega)) h.pl
  · intro z
    rw [e0.2 14 (by decide)] at z
    have := h.tl z
    unfold zTell at this ⊢
    rw [e132, e 115 (by decide) (by decide) (by decide) (by decide) (by decide), e 116 (by decide) (by decide) (by decide) (by decide) (by decide), e 117 (by decide) (by decide) (by decide) (by decide) (by decide), e 118 (by decide) (by decide) (by decide) (by decide) (by decide)]
    exact this
  · have := h.pr
    unfold zPri zLeft at this ⊢
    rw [e132, e130.2 1 (by decide), e130.2 2 (by decide), e 151 (by decide) (by decide) (by decide) (by decide) (by decide)]
    exact this
  · have := h.wd
    unfold zWd at this ⊢
    rw [e 136 (by decide) (by decide) (by decide) (by decide) (by decide)]
    exact this
/-- the heap with one more image -/
theorem zGeo_im (hsz : 153 ≤ zsz T) (hg : zGeo T V) (hx : x = 0 ∨ x = 1) (hX : zHx T T' (fun a k => a = 55 ∧ k = x)) (h0 : zp T 55 x = -1) (hb : zp T' 55 x = zsz T) (hz : zsz T' = zsz T + 27) (hl : T'.2.1 = T.2.1 + 402) (hv : ∀ r, r = 111 ∨ 153 ≤ r → r < zsz T → V' r = V r) : zGeo T' V' := by
  obtain ⟨q1, q2, g1, g2, n1, n2, p, m, a1, a2, a3, a4, a5, a6, a7, a8, a9, a10, a11, a12, a13⟩ := hg
  have pk : ∀ y k, y < zsz T → y ≠ 55 → zp T' y k = zp T y k := fun y k y1 y2 => hX.2.2 y k y1 (fun z => y2 z.1)
  have po : ∀ k, k ≠ x → zp T' 55 k = zp T 55 k := fun k hk => hX.2.2 55 k (by omega) (fun z => hk z.2)
  have l1 := a3.2.2.2.1
  have l2 := a4.2.2.2.1
  have l3 := a5.1.2.1
  refine ⟨q1, q2, g1, g2, n1, n2, p, m, by rw [pk 78 2 (by omega) (by decide), pk 78 3 (by omega) (by decide), pk 78 4 (by omega) (by decide)]; exact a1, a2, zLy_of (zRw_x (zLy_R a3) hX (fun k z => by omega)) a3.2.2.1 a3.2.2.2.2, zLy_of (zRw_x (zLy_R a4) hX (fun k z => by omega)) a4.2.2.1 a4.2.2.2.2, zAr_x hX a5, a6, a7, by rw [hv p a6 l3]; exact a8, a9, fun k hk k0 => ?_, ?_, ?_, ?_⟩
  · by_cases c : k = x
    · rw [c, hb]
      exact ⟨Or.inl (by omega), Or.inl (by omega), Or.inl (by omega), by omega⟩
    · rw [po k c] at k0 ⊢
      obtain ⟨c1, c2, c3, c4⟩ := a10 k hk k0
      exact ⟨c1, c2, c3, by omega⟩
  · rcases hx with rfl | rfl
    · rw [hb, po 1 (by decide)]
      intro _ k0
      exact Or.inr (by have := (a10 1 (Or.inr rfl) k0).2.2.2; omega)
    · rw [hb, po 0 (by decide)]
      intro k0 _
      exact Or.inl (by have := (a10 0 (Or.inl rfl) k0).2.2.2; omega)
  · rcases hx with rfl | rfl
    · rw [hb, po 1 (by decide), if_pos (c := 0 ≤ zsz T) (by omega)]
      rw [h0, if_neg (c := (0 : Int) ≤ -1) (by decide)] at a12
      omega
    · rw [hb, po 0 (by decide), if_pos (c := 0 ≤ zsz T) (by omega)]
      rw [h0, if_neg (c := (0 : Int) ≤ -1) (by decide)] at a12
      omega
  · rcases hx with rfl | rfl
    · rw [hb, po 1 (by decide), if_pos (by omega)]
      rw [h0, if_neg (by decide)] at a13
      omega
    · rw [hb, po 0 (by decide), if_pos (c := 0 ≤ zsz T) (by omega)]
      rw [h0, if_neg (c := (0 : Int) ≤ -1) (by decide)] at a13
      omega
theorem k_image {x1 : Int} (h : zJ n T V) (hn : n < 1000) : zSame 0 143 149 [(0, x1)] n T V := by
  have hS := h.str
  have hsz : 153 ≤ zsz T := hS.1
  have m0 := zJ_m0 h
  unfold zSame
  by_cases g : x1 = 0 ∨ x1 = 1
  · have hi : zIm1 T V x1 := by
      rcases g with e | e
      · subst e; exact h.im.1
      · subst e; exact h.im.2
    have o55 : ∀ k, k = 0 ∨ k = 1 → 0 ≤ zp T 55 k → 153 ≤ zp T 55 k := h.i55
    -- behind the copying
    have tail : ∀ (T2 : zT) (V2 : zM) (b : Int), zStr T2 → zHx T T2 (fun a k => a = 55 ∧ k = x1) → zp T2 55 x1 = b → 153 ≤ b → zState T2 b → (∀ r, 0 ≤ r → r < zsz T → V2 r = V r) → (∀ V', (∀ r, r = 111 ∨ 153 ≤ r → r < zsz T → r < b ∨ b + 26 < r → V' r = V r) → zGeo T2 V') → (∀ k, k = 0 ∨ k = 1 → k ≠ x1 → 0 ≤ zp T 55 k → zap (zp T 55 k) 27 b 27 ∧ zp T 55 k + 26 < zsz T) → zwp (ev 143 41 [(2, 0), (0, x1)] [] T2 V2) fun r T1 V1 => zwp (zcall 149 [(2, 130), (0, x1)] T1 V1) fun r' T2 V2 => (∃ x, r = (0, x) ∧ r' = (0, x)) ∧ zJ (n + 1) T2 V2 := fun T2 V2 b hS2 hX hb hb2 hst hv hgeo hap => by
      have sr : zSR V2 1 (V 132) := zSR_congr (fun d d1 d2 => hv _ (by omega) (by omega)) h.sr
      rw [b143_41 hS2 (by omega) (by rw [hb]; exact hst), hb]
      refine zwp_seq (c38 hst (st1 hS2) (Or.inr (by omega)) sr) ?_
      rintro r T3 V3 ⟨rfl, rfl, c1, c2⟩
      simp only [zpush9]
      rw [b143_54 hS2, c26 hS2]
      simp only [Option.bind_some, zpush0]
      rw [b143_59]
      refine zwp_ret ?_
      obtain ⟨r4, T4, V4, d1, d2, d3, d4, d5, d6, d7, d8, d9⟩ := c149 (V := zwr V3 0 17 0) hS2 g
      subst d2
      rw [d3] at d1
      rw [d1]
      have z3 : ∀ r, r ≠ 0 → zwr V3 0 17 0 r = V3 r := fun r hr => zwr_ne hr
      have e3 : ∀ r, 0 ≤ r → r < zsz T → r ≠ 0 → r < b ∨ b + 26 < r → zwr V3 0 17 0 r = V r := fun r r1 r2 r3 r4 => by rw [z3 r r3, c1 r r4, hv r r1 r2]
      have e4 : ∀ r, 0 ≤ r → r < zsz T → r ≠ 0 → r ≠ 130 → r ≠ 133 → r ≠ 134 → r < b ∨ b + 26 < r → V4 r = V r := fun r r1 r2 r3 r4 r5 r6 r7 => by rw [d4 r r4 r5 r6, e3 r r1 r2 r3 r7]
      refine zwp_ret ⟨⟨_, rfl, rfl⟩, zJ_im h hn g hS2 (hgeo V4 (fun r r1 r2 r3 => e4 r (by omega) r2 (by omega) (by omega) (by omega) (by omega) r3)) hX hb hb2 hst hap e4 ⟨?_, fun j hj => ?_⟩ ⟨d5.1, fun j hj => ?_⟩ ⟨fun i i1 i2 => ?_, fun j hj => ?_⟩ ⟨d8, fun j hj => ?_⟩ ?_⟩
      · rw [d4 0 (by decide) (by decide) (by decide), zwr_same, if_pos rfl]
      · rw [d4 0 (by decide) (by decide) (by decide), zwr_same, if_neg hj, c1 0 (by omega), hv 0 (by decide) (by omega)]
      · rw [d5.2 j hj, e3 130 (by decide) (by omega) (by decide) (by omega)]
      · rw [d6 i i1 i2, e3 132 (by decide) (by omega) (by decide) (by omega)]
      · rw [d7 j hj, e3 133 (by decide) (by omega) (by decide) (by omega)]
      · rw [d9 j hj, e3 134 (by decide) (by omega) (by decide) (by omega)]
      · refine zSR_congr (fun d q1 q2 => ?_) c2
        rw [d4 _ (by omega) (by omega) (by omega), z3 _ (by omega)]
    have other : ∀ k, k = 0 ∨ k = 1 → 0 ≤ zp T 55 k → zp T 55 k + 26 < zsz T := fun k hk k0 => by
      obtain ⟨q1, q2, g1, g2, n1, n2, p, m, a1, a2, a3, a4, a5, a6, a7, a8, a9, a10, a11, a12, a13⟩ := h.geo
      exact (a10 k hk k0).2.2.2
    rw [e143, b143_0, if_neg (by omega), b143_4 hS, if_pos (by omega), b143_19 hS (by omega)]
    rcases hi with ⟨i1, i2⟩ | ⟨i1, i2, i3, i4, i5⟩
    · -- a new one
      rw [if_neg (by omega), b143_28 hS, b143_36 (by omega)]
      obtain ⟨T2, V2, f1, f2, f3, f4, f5, f6, f7, f8⟩   := zc3 (T := zn T 16 8) (V := zs V (zsz T) (fun _ => 0)) (q := zsz T) (zO_n T 6 8) (zsz_n T 16 8)
      rw [f1]
      simp only [Option.bind_some, zpush9]
      have y1 := zHx_n T 16 8 (fun _ _ => False)
      have y2 : zHx T T2 (fun _ _ => False) := zHx_m (zHx_t y1 f5) (fun a k a1 z => by rcases z with z | z; exact z; omega)
      have hS2 : zStr T2 := zStr_x hS y2 (fun a k z => z.elim)
      have y3 := zHx_q T2 55 x1 (zsz T)
      have y4 : zHx T (zqw T2 55 x1 (zsz T)) (fun a k => a = 55 ∧ k = x1) := zHx_m (zHx_t y2 y3) (fun a k _ z => z.elim (fun z => z.elim) id)
      have hS3 : zStr (zqw T2 55 x1 (zsz T)) := zStr_x hS y4 (fun a k z => by omega)
      have pz : zp (zqw T2 55 x1 (zsz T)) 55 x1 = zsz T := by rw [zp_q, if_pos ⟨rfl, rfl⟩]
      rw [b143_40 hS2 (by omega) f2]
      refine tail _ V2 (zsz T) hS3 y4 pz hsz (zState_x f2 y3 (fun a k a1 a2 z => by omega)) (fun r r1 r2 => by rw [f7 r r2, zsr_ne (by omega)]) (fun V' hV' => ?_) (fun k hk _ k0 => ⟨Or.inl (by have := other k hk k0; omega), other k hk k0⟩)
      refine zGeo_im hsz h.geo g y4 i2 pz (by rw [zsz_q, f3]) ?_ (fun r r1 r2 => hV' r r1 r2 (Or.inl r2))
      rw [zsl_q, f4, zsl_n]
      rfl
    · rw [if_pos (by omega)]
      refine tail T V (zp T 55 x1) hS (zHx_r T _) rfl i2 i3 (fun _ _ _ => rfl) (fun V' hV' => ?_) (fun k hk hne k0 => ⟨?_, other k hk k0⟩)
      · obtain ⟨q1, q2, g1, g2, n1, n2, p, m, a1, a2, a3, a4, a5, a6, a7, a8, a9, a10, a11, a12, a13⟩ := h.geo
        have ap := (a10 x1 g (by omega)).2.2.1
        unfold zap at ap
        exact ⟨q1, q2, g1, g2, n1, n2, p, m, a1, a2, a3, a4, a5, a6, a7, by rw [hV' p a6 a5.1.2.1 (by omega)]; exact a8, a9, a10, a11, a12, a13⟩
      · obtain ⟨q1, q2, g1, g2, n1, n2, p, m, a1, a2, a3, a4, a5, a6, a7, a8, a9, a10, a11, a12, a13⟩ := h.geo
        rcases g with rfl | rfl
        · have : k = 1 := by omega
          subst this
          exact Or.symm (a11 (by omega) k0)
        · have : k = 0 := by omega
          subst this
          exact a11 k0 (by omega)
  · have c1 : zcall 143 [(2, 0), (0, x1)] T V = some ((0, -1), T, zwr (zwr V 0 17 (-1)) 129 0 (V 129 0 + 1)) := by
      have tl : ev 143 13 [(2, 0), (0, x1)] [] T V = some ((0, -1), T, zwr (zwr V 0 17 (-1)) 129 0 (V 129 0 + 1)) := by
        rw [b143_13 hS, c24_0 hS m0.1]
        simp only [Option.bind_some, zpush0]
        rw [b143_18]
      rw [e143, b143_0]
      by_cases q1 : x1 < 0
      · rw [if_pos q1, tl]
      rw [if_neg q1, b143_4 hS, if_neg (by omega), tl]
    rw [c1]
    refine zwp_ret ?_
    have e131 : zwr (zwr V 0 17 (-1)) 129 0 (V 129 0 + 1) 131 = V 131 := by rw [zwr_ne (by decide), zwr_ne (by decide)]
    have c2 : zcall 149 [(2, 130), (0, x1)] T (zwr (zwr V 0 17 (-1)) 129 0 (V 129 0 + 1)) = some ((0, -1), T, zwr (zwr (zwr (zwr V 0 17 (-1)) 129 0 (V 129 0 + 1)) 130 0 (-1)) 131 1 (V 131 1 + 1)) := by
      rw [e149, b149_0, c150, if_neg (by omega)]
      simp only [Option.bind_some, zpush0]
      rw [b149_6, if_pos rfl, b149_9 hS, c151_0 hS (by rw [e131]; exact m0.2), e131]
      simp only [Option.bind_some, zpush0]
      rw [b149_14]
    rw [c2]
    exact zwp_ret ⟨⟨_, rfl, rfl⟩, zJ_r0 h hn⟩
end IMAGE
