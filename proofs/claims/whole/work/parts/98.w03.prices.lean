/-! the reference: prices -/
def zPq (V V' : zM) (K : Int → Int) : Prop := (∀ r, r ≠ 130 → ¬ (142 ≤ r ∧ r ≤ 147) → r ≠ 151 → r ≠ 152 → V' r = V r) ∧ (∀ j, j ≠ 31 → j ≠ 2 → V' 130 j = V 130 j) ∧ V' 130 2 = V 130 1 ∧ zSto V' K 0 ∧ ∀ s, 0 ≤ s → s < 128 → V' 142 s = zsgn K 0 s ∧ V' 143 s = zsgn K 1 s
def zLf (V : zM) (K : Int → Int) (N c : Int) : Prop := ∀ d e w, c ≤ d → d ≤ N → 0 ≤ e → e < zuse K 0 0 → 0 ≤ w → w < zuse K 0 1 → V 151 ((224 * d + e) * 224 + w) = zL K (N - d).toNat e w
section PRICES
variable {n : Int} {T : zT} {V : zM} {K : Int → Int}
theorem zPq_w {V' : zM} {x i v : Int} (hx : x = 151 ∨ x = 152) (h : zPq V V' K) : zPq V (zwr V' x i v) K := by
  obtain ⟨h1, h2, h3, h4, h5⟩ := h
  have z : ∀ r, r ≠ 151 → r ≠ 152 → zwr V' x i v r = V' r := fun r r1 r2 => zwr_ne (by omega)
  refine ⟨fun r r1 r2 r3 r4 => by rw [z r r3 r4, h1 r r1 r2 r3 r4], fun j j1 j2 => by rw [z 130 (by decide) (by decide), h2 j j1 j2], by rw [z 130 (by decide) (by decide), h3], zSto_congr h4 (by rw [z 130 (by decide) (by decide)]) (z _ (by decide) (by decide)) (z _ (by decide) (by decide)) (z _ (by decide) (by decide)), fun s s1 s2 => ?_⟩
  rw [z 142 (by decide) (by decide), z 143 (by decide) (by decide)]
  exact h5 s s1 s2
theorem c225 (h : zJ n T V) : zwp (zcall 225 [(2, 130)] T V) fun r T' V' => r = (9, 0) ∧ T' = T ∧ zPq V V' (zkc (V 132)) ∧ zLeft V' (zkc (V 132)) (V 132 427) := by
  have hS := h.str
  have hK := h.ok
  have hW := zKw_of hK
  have hn := hK.n
  obtain ⟨K, hKe⟩ : ∃ K, zkc (V 132) = K := ⟨_, rfl⟩
  have hk : zcok K := by rw [← hKe]; exact fun i i1 i2 => by rw [zkc_in (by omega)]; exact (hK.mir i1 i2).2
  have hk2 : zcok (V 132) := fun i i1 i2 => (hK.mir i1 i2).2
  obtain ⟨r1, T1, V1, a1, a2, a3, a4, a5, a6, a7⟩ := c211 (V := V) (a := 0) hS hK (Or.inl rfl)
  subst a2
  have a3' : T1 = T := a3
  clear a3
  rw [a3'] at a1
  rw [hKe] at a6 a7 hW ⊢
  have u0 := zuse_r (a := 0) hW (Or.inl rfl)
  have u1 := zuse_r (a := 0) hW (Or.inr rfl)
  rw [e225, b225_0 hS, a1]
  simp only [Option.bind_some, zpush9]
  rw [b225_5 hS]
  by_cases c0 : V1 130 2 = V1 130 1
  · rw [if_pos c0, b225_16]
    have c1 : V 130 2 = V 130 1 := by rw [← a5 2 (by decide), ← a5 1 (by decide)]; exact c0
    refine zwp_ret ⟨rfl, rfl, ⟨fun r r1 r2 _ _ => a4 r r1 r2, fun j j1 _ => a5 j j1, by rw [a5 2 (by decide)]; exact c1, a6, a7⟩, ?_⟩
    have := h.pr c1
    rw [hKe] at this
    unfold zLeft at this ⊢
    rw [a4 151 (by decide) (by decide)]
    exact this
  rw [if_neg c0, b225_17 hS]
  obtain ⟨V2, hV2⟩ : ∃ V2, zwr V1 130 2 (V1 130 1) = V2 := ⟨_, rfl⟩
  rw [hV2]
  have b0 : zPq V V2 K := by
    rw [← hV2]
    refine ⟨fun r r1 r2 _ _ => by rw [zwr_ne r1, a4 r r1 r2], fun j j1 j2 => by rw [zwr_same, if_neg j2, a5 j j1], by rw [zwr_same, if_pos rfl, a5 1 (by decide)], zSto_congr a6 (by rw [zwr_same, if_neg (by decide)]) (zwr_ne (by decide)) (zwr_ne (by decide)) (zwr_ne (by decide)), fun s s1 s2 => ?_⟩
    rw [zwr_ne (by decide), zwr_ne (by decide)]
    exact a7 s s1 s2
  -- the rows of what is left, upward
  have st4 : ∀ V4 v3 v4, zPq V V4 K → (∀ p, 0 ≤ p → p < 729 → zChp V4 K 128 p) → zLf V4 K (V 132 427) (V 132 427) → zwp (ev 225 215 [(2, 130), (0, V 132 427), (0, V 132 427 - 1), v3, v4] [] T V4) fun r T' V' => r = (9, 0) ∧ T' = T ∧ zPq V V' K ∧ zLeft V' K (V 132 427) := fun V4 v3 v4 p1 p2 p3 => by
    refine zdn (α := zM × zV × zV) (fun c s => zPq V s.1 K ∧ (∀ p, 0 ≤ p → p < 729 → zChp s.1 K 128 p) ∧ zLf s.1 K (V 132 427) (c + 1)) (fun c s => zwp (ev 225 215 [(2, 130), (0, V 132 427), (0, c), s.2.1, s.2.2] [] T s.1) fun r T' V' => r = (9, 0) ∧ T' = T ∧ zPq V V' K ∧ zLeft V' K (V 132 427)) (lo := -1) (hi := V 132 427 - 1) (by omega) ?_ ?_ (V4, v3, v4) ⟨p1, p2, by rw [show V 132 427 - 1 + 1 = V 132 427 by omega]; exact p3⟩
    · rintro ⟨V5, v3, v4⟩ ⟨q1, q2, q3⟩
      show zwp (ev 225 215 [(2, 130), (0, V 132 427), (0, -1), v3, v4] [] T V5) _
      rw [b225_215, if_pos (by decide), b225_290]
      exact zwp_ret ⟨rfl, rfl, q1, fun c e w c1 c2 e1 e2 w1 w2 => q3 c e w (by omega) c2 e1 e2 w1 w2⟩
    · rintro c ⟨V5, v3, v4⟩ c1 c2 ⟨q1, q2, q3⟩ next
      show zwp (ev 225 215 [(2, 130), (0, V 132 427), (0, c), v3, v4] [] T V5) _
      rw [b225_215, if_neg (by omega), b225_219]
      refine zup (α := zM × zV) (fun i s => zPq V s.1 K ∧ (∀ p, 0 ≤ p → p < 729 → zChp s.1 K 128 p) ∧ zLf s.1 K (V 132 427) (c + 1) ∧ ∀ e w, 0 ≤ e → e < i → 0 ≤ w → w < zuse K 0 1 → s.1 151 ((224 * c + e) * 224 + w) = zL K (V 132 427 - c).toNat e w) (fun i s => zwp (ev 225 221 [(2, 130), (0, V 132 427), (0, c), (0, i), s.2] [] T s.1) fun r T' V' => r = (9, 0) ∧ T' = T ∧ zPq V V' K ∧ zLeft V' K (V 132 427)) (lo := 0) (hi := zuse K 0 0) (by omega) ?_ ?_ (V5, v4) ⟨q1, q2, q3, fun e w e1 e2 => by omega⟩
      · rintro ⟨V6, v4⟩ ⟨x1, x2, x3, x4⟩
        show zwp (ev 225 221 [(2, 130), (0, V 132 427), (0, c), (0, zuse K 0 0), v4] [] T V6) _
        replace x1 : zPq V V6 K := x1
        rw [b225_221 hS, x1.2.2.2.1.2.1, if_pos (by omega), b225_284 (by omega), show c + (-1) = c - 1 by omega]
        refine next (V6, _, _) ⟨x1, x2, fun d e w d1 d2 e1 e2 w1 w2 => ?_⟩
        by_cases cd : d = c
        · rw [cd]; exact x4 e w e1 e2 w1 w2
        · exact x3 d e w (by omega) d2 e1 e2 w1 w2
      · rintro i ⟨V6, v4⟩ i1 i2 ⟨x1, x2, x3, x4⟩ next2
        show zwp (ev 225 221 [(2, 130), (0, V 132 427), (0, c), (0, i), v4] [] T V6) _
        replace x1 : zPq V V6 K := x1
        rw [b225_221 hS, x1.2.2.2.1.2.1, if_neg (by omega), b225_231]
        refine zup (α := zM) (fun j V' => zPq V V' K ∧ (∀ p, 0 ≤ p → p < 729 → zChp V' K 128 p) ∧ zLf V' K (V 132 427) (c + 1) ∧ ∀ e w, 0 ≤ e → 0 ≤ w → w < zuse K 0 1 → (e < i ∨ (e = i ∧ w < j)) → V' 151 ((224 * c + e) * 224 + w) = zL K (V 132 427 - c).toNat e w) (fun j V' => zwp (ev 225 234 [(2, 130), (0, V 132 427), (0, c), (0, i), (0, j)] [] T V') fun r T' V' => r = (9, 0) ∧ T' = T ∧ zPq V V' K ∧ zLeft V' K (V 132 427)) (lo := 0) (hi := zuse K 0 1) (by omega) ?_ ?_ V6 ⟨x1, x2, x3, fun e w e1 w1 w2 q => x4 e w e1 (by omega) w1 w2⟩
        · rintro V7 ⟨y1, y2, y3, y4⟩
          rw [b225_234 hS, y1.2.2.2.1.2.2.1, if_pos (by omega), b225_278 (by omega)]
          exact next2 (V7, _) ⟨y1, y2, y3, fun e w e1 e2 w1 w2 => y4 e w e1 w1 w2 (by omega)⟩
        · rintro j V7 j1 j2 ⟨y1, y2, y3, y4⟩ next3
          have rr : (V 132 427 - c).toNat = (V 132 427 - (c + 1)).toNat + 1 := by omega
          rw [b225_234 hS, y1.2.2.2.1.2.2.1, if_neg (by omega), b225_245 hS (by omega) (by omega) (by omega) (by omega), c226 (r := (V 132 427 - (c + 1)).toNat) hS hW hk y1.2.2.2.1 (by omega) (by omega) ⟨i1, i2⟩ ⟨j1, j2⟩ y2 (fun e w e1 e2 w1 w2 => y3 (c + 1) e w (by omega) (by omega) e1 e2 w1 w2)]
          simp only [Option.bind_some, zpush0]
          rw [b225_271 hS (by omega) (by omega)]
          refine next3 _ ⟨zPq_w (Or.inl rfl) y1, fun p p1 p2 => ?_, fun d e w d1 d2 e1 e2 w1 w2 => ?_, fun e w e1 w1 w2 q => ?_⟩
          · unfold zChp
            rw [zwr_ne (by decide)]
            exact y2 p p1 p2
          · rw [zwr_same, if_neg (by omega)]
            exact y3 d e w d1 d2 e1 e2 w1 w2
          · rw [zwr_same]
            by_cases ce : e = i ∧ w = j
            · rw [ce.1, ce.2, if_pos rfl, rr]
            · rw [if_neg (by omega)]
              exact y4 e w e1 w1 w2 (by omega)
  -- the last row
  have st3 : ∀ V4, zPq V V4 K → (∀ p, 0 ≤ p → p < 729 → zChp V4 K 128 p) → zwp (ev 225 130 [(2, 130), (0, V 132 427), (0, 0), (9, 0), (9, 0)] [] T V4) fun r T' V' => r = (9, 0) ∧ T' = T ∧ zPq V V' K ∧ zLeft V' K (V 132 427) := fun V4 p1 p2 => by
    refine zup (α := zM × zV) (fun i s => zPq V s.1 K ∧ (∀ p, 0 ≤ p → p < 729 → zChp s.1 K 128 p) ∧ ∀ e w, 0 ≤ e → e < i → 0 ≤ w → w < zuse K 0 1 → s.1 151 ((224 * V 132 427 + e) * 224 + w) = zL K 0 e w) (fun i s => zwp (ev 225 130 [(2, 130), (0, V 132 427), (0, i), s.2, (9, 0)] [] T s.1) fun r T' V' => r = (9, 0) ∧ T' = T ∧ zPq V V' K ∧ zLeft V' K (V 132 427)) (lo := 0) (hi := zuse K 0 0) (by omega) ?_ ?_ (V4, (9, 0)) ⟨p1, p2, fun e w e1 e2 => by omega⟩
    · rintro ⟨V6, v3⟩ ⟨x1, x2, x4⟩
      show zwp (ev 225 130 [(2, 130), (0, V 132 427), (0, zuse K 0 0), v3, (9, 0)] [] T V6) _
      replace x1 : zPq V V6 K := x1
      rw [b225_130 hS, x1.2.2.2.1.2.1, if_pos (by omega), b225_211 (by omega)]
      refine st4 V6 _ _ x1 x2 (fun d e w d1 d2 e1 e2 w1 w2 => ?_)
      have : d = V 132 427 := by omega
      rw [this, show (V 132 427 - V 132 427).toNat = 0 by omega]
      exact x4 e w e1 e2 w1 w2
    · rintro i ⟨V6, v3⟩ i1 i2 ⟨x1, x2, x4⟩ next2
      show zwp (ev 225 130 [(2, 130), (0, V 132 427), (0, i), v3, (9, 0)] [] T V6) _
      replace x1 : zPq V V6 K := x1
      rw [b225_130 hS, x1.2.2.2.1.2.1, if_neg (by omega), b225_140]
      refine zup (α := zM) (fun j V' => zPq V V' K ∧ (∀ p, 0 ≤ p → p < 729 → zChp V' K 128 p) ∧ ∀ e w, 0 ≤ e → 0 ≤ w → w < zuse K 0 1 → (e < i ∨ (e = i ∧ w < j)) → V' 151 ((224 * V 132 427 + e) * 224 + w) = zL K 0 e w) (fun j V' => zwp (ev 225 142 [(2, 130), (0, V 132 427), (0, i), (0, j), (9, 0)] [] T V') fun r T' V' => r = (9, 0) ∧ T' = T ∧ zPq V V' K ∧ zLeft V' K (V 132 427)) (lo := 0) (hi := zuse K 0 1) (by omega) ?_ ?_ V6 ⟨x1, x2, fun e w e1 w1 w2 q => x4 e w e1 (by omega) w1 w2⟩
      · rintro V7 ⟨y1, y2, y4⟩
        rw [b225_142 hS, y1.2.2.2.1.2.2.1, if_pos (by omega), b225_205 (by omega)]
        exact next2 (V7, _) ⟨y1, y2, fun e w e1 e2 w1 w2 => y4 e w e1 w1 w2 (by omega)⟩
      · rintro j V7 j1 j2 ⟨y1, y2, y4⟩ next3
        have f0 := (y1.2.2.2.1.2.2.2.1 i i1 (by omega)).1
        have f1 := (y1.2.2.2.1.2.2.2.2 j j1 (by omega)).1
        rw [Int.zero_add] at f0
        have fin : ∀ y, y = zL K 0 i j → zwp (ev 225 198 [(2, 130), (0, V 132 427), (0, i), (0, j), (9, 0)] [(0, y), (0, (224 * V 132 427 + i) * 224 + j), (2, 151)] T V7) fun r T' V' => r = (9, 0) ∧ T' = T ∧ zPq V V' K ∧ zLeft V' K (V 132 427) := fun y hy => by
          rw [b225_198 hS (by omega) (by omega)]
          refine next3 _ ⟨zPq_w (Or.inl rfl) y1, fun p p1 p2 => ?_, fun e w e1 w1 w2 q => ?_⟩
          · unfold zChp
            rw [zwr_ne (by decide)]
            exact y2 p p1 p2
          · rw [zwr_same]
            by_cases ce : e = i ∧ w = j
            · rw [ce.1, ce.2, if_pos rfl, hy]
            · rw [if_neg (by omega)]
              exact y4 e w e1 w1 w2 (by omega)
        rw [b225_142 hS, y1.2.2.2.1.2.2.1, if_neg (by omega), b225_152 hS (by omega) (by omega) (by omega) (by omega) (by omega), f0]
        by_cases z0 : zfin K 0 0 i
        · rw [zif_t z0, if_neg (by decide), b225_178 hS (by omega) (by omega), f1]
          by_cases z1 : zfin K 0 1 j
          · rw [zif_t z1, if_neg (by decide), b225_191]
            exact fin 0 (by rw [zL, zif_t ⟨z0, z1⟩])
          · rw [zif_f z1, if_pos rfl, b225_195]
            exact fin _ (by rw [zL, zif_f (fun z => z1 z.2)])
        · rw [zif_f z0, if_pos rfl, b225_195]
          exact fin _ (by rw [zL, zif_f (fun z => z0 z.1)])
  -- the cheapest sets
  have st2 : ∀ V4, zPq V V4 K → (∀ p, 0 ≤ p → p < 729 → V4 152 p = 1000000000) → zwp (ev 225 51 [(2, 130), (0, 0), (9, 0), (9, 0), (9, 0)] [] T V4) fun r T' V' => r = (9, 0) ∧ T' = T ∧ zPq V V' K ∧ zLeft V' K (V 132 427) := fun V4 p1 p2 => by
    refine zup (α := zM) (fun i V' => zPq V V' K ∧ ∀ p, 0 ≤ p → p < 729 → zChp V' K i p) (fun i V' => zwp (ev 225 51 [(2, 130), (0, i), (9, 0), (9, 0), (9, 0)] [] T V') fun r T' V' => r = (9, 0) ∧ T' = T ∧ zPq V V' K ∧ zLeft V' K (V 132 427)) (lo := 0) (hi := 128) (by decide) ?_ ?_ V4 ⟨p1, fun p q1 q2 => ⟨fun s s1 s2 => by omega, Or.inl (p2 p q1 q2)⟩⟩
    · rintro V5 ⟨x1, x2⟩
      have e132 : V5 132 = V 132 := x1.1 132 (by decide) (by decide) (by decide) (by decide)
      rw [b225_51, if_pos (by decide), b225_119 hS, e132]
      exact st3 V5 x1 x2
    · rintro i V5 i1 i2 ⟨x1, x2⟩ next
      have e132 : V5 132 = V 132 := x1.1 132 (by decide) (by decide) (by decide) (by decide)
      have ec : zcst (V5 132) i = zcst K i := by rw [e132, ← hKe, zcst_c]
      have g0 := zsgn_r K 0 i
      have g1 := zsgn_r K 1 i
      obtain ⟨s0, s1⟩ := x1.2.2.2.2 i i1 i2
      have ep : 27 * zsgn K 0 i + zsgn K 1 i = zpr K i := by unfold zpr; omega
      have rp : 0 ≤ zpr K i ∧ zpr K i < 729 := by omega
      have old := x2 (zpr K i) rp.1 rp.2
      rw [b225_51, if_neg (by omega), b225_58 hS, c199 hS (by rw [e132]; exact hk2), ec]
      simp only [Option.bind_some, zpush0]
      rw [b225_63 hS (by omega) (by rw [s0]; omega) (by rw [s0, s1]; omega) (by rw [s0, s1]; omega), s0, s1, ep]
      by_cases c : V5 152 (zpr K i) ≤ zcst K i
      · rw [if_pos c, b225_113 (by omega)]
        refine next V5 ⟨x1, fun p q1 q2 => ⟨fun s t1 t2 t3 => ?_, ?_⟩⟩
        · by_cases cs : s = i
          · rw [cs] at t3 ⊢
            rw [← t3]; exact c
          · exact (x2 p q1 q2).1 s t1 (by omega) t3
        · rcases (x2 p q1 q2).2 with z | ⟨s, t1, t2, t3⟩
          · exact Or.inl z
          · exact Or.inr ⟨s, by omega, t2, t3⟩
      · rw [if_neg c, b225_87 hS (by omega) (by rw [s0]; omega) (by rw [s0, s1]; omega), c199 hS (by rw [e132]; exact hk2), ec, s0, s1, ep]
        simp only [Option.bind_some, zpush0]
        rw [b225_112 hS rp, b225_113 (by omega)]
        refine next _ ⟨zPq_w (Or.inr rfl) x1, fun p q1 q2 => ?_⟩
        unfold zChp
        rw [zwr_same]
        by_cases cp : p = zpr K i
        · rw [if_pos cp]
          refine ⟨fun s t1 t2 t3 => ?_, Or.inr ⟨i, by omega, cp.symm, rfl⟩⟩
          by_cases cs : s = i
          · rw [cs]; omega
          · have := old.1 s t1 (by omega) (by rw [t3, cp])
            omega
        · rw [if_neg cp]
          refine ⟨fun s t1 t2 t3 => ?_, ?_⟩
          · by_cases cs : s = i
            · rw [cs] at t3; exact absurd t3.symm cp
            · exact (x2 p q1 q2).1 s t1 (by omega) t3
          · rcases (x2 p q1 q2).2 with z | ⟨s, t1, t2, t3⟩
            · exact Or.inl z
            · exact Or.inr ⟨s, by omega, t2, t3⟩
  refine zup (α := zM) (fun i V' => zPq V V' K ∧ ∀ p, 0 ≤ p → p < i → V' 152 p = 1000000000) (fun i V' => zwp (ev 225 27 [(2, 130), (0, i), (9, 0), (9, 0), (9, 0)] [] T V') fun r T' V' => r = (9, 0) ∧ T' = T ∧ zPq V V' K ∧ zLeft V' K (V 132 427)) (lo := 0) (hi := 729) (by decide) ?_ ?_ V2 ⟨b0, fun p p1 p2 => by omega⟩
  · rintro V4 ⟨x1, x2⟩
    rw [b225_27, if_pos (by decide), b225_49]
    exact st2 V4 x1 x2
  · rintro i V4 i1 i2 ⟨x1, x2⟩ next
    rw [b225_27, if_neg (by omega), b225_34 hS (by omega) (by omega)]
    refine next _ ⟨zPq_w (Or.inr rfl) x1, fun p p1 p2 => ?_⟩
    rw [zwr_same]
    by_cases c : p = i
    · rw [if_pos c]
    · rw [if_neg c]; exact x2 p p1 (by omega)
end PRICES
