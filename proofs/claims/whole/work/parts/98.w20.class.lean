/-! the clauses by the class: mirror, word -/
section CLASS2
variable {T : zT} {V : zM} {b K : Int → Int} {m g q : Int} {t : Nat}
theorem c66 (hS : zStr T) (hB : zBy b m) (h : zRt V b m t) (hs : zSR V 28 K) : zwp (zcall 66 [(2, 58)] T V) fun r T' V' => T' = T ∧ zFrm V V' ∧ ∃ y, r = (0, y) ∧ zPcl b m V V' (zMir b m K t) y := by
  have s0 : ∀ t, 0 ≤ zS b m t := fun t => (zS_r hB.1.1 t).1
  have mm := hB.1
  obtain ⟨V1, a1, a2, a3, a4, a5⟩ := zstep hS hB h hs
  obtain ⟨y1, d1, d2⟩ := c61 hS hB a2
  have sr := zS_r (b := b) hB.1.1 (t + 1)
  have fr := (zF_r (b := b) sr.2).1
  have no1 : zwp (ev 66 27 [(2, 58), (9, 0)] [] T V1) fun r T' V' => T' = T ∧ zFrm V V' ∧ ∃ y, r = (0, y) ∧ zPcl b m V V' (zS b m (t + 1), t, K) y := by
    rw [b66_27 hS, c60 hS, a2.2.2.1]
    simp only [Option.bind_some, zpush0]
    rw [b66_35 (by decide)]
    exact zwp_ret ⟨rfl, zfail a4 (s0 _) rfl⟩
  rw [e66, b66_0 hS, a1]
  simp only [Option.bind_some, zpush9]
  rw [b66_4 hS (by rw [a2.2.2.1, a2.2.2.2.1]; omega), a2.2.2.1, a2.2.2.2.1]
  unfold zMir
  by_cases c7 : zF b m (zS b m (t + 1)) - zS b m (t + 1) = 7
  · rw [if_pos c7, b66_18 hS, d1]
    simp only [Option.bind_some, zpush0]
    rw [b66_22]
    rcases d2 with ⟨d2, d3, d4⟩ | ⟨d2, d3⟩
    · have e127 : y1 = 127 := by rw [d3]; exact zsv_7 d2.2 c7
      rw [zfi_t ⟨d2, c7⟩, if_pos e127, b66_36]
      obtain ⟨s, hss⟩ : ∃ s, zS b m (t + 1) = s := ⟨_, rfl⟩
      have a23 := a2.2.2.1
      rw [hss] at sr fr c7 a23 ⊢
      have dd : ∀ i, 0 ≤ i → i < 7 → 1 ≤ b (s + i) - 48 ∧ b (s + i) - 48 ≤ 7 := fun i i1 i2 => by
        have := zsv_d d2.2 (i := i.toNat) (by rw [hss]; omega)
        rw [hss, show ((i.toNat : Nat) : Int) = i by omega] at this
        exact this
      have loop := zup (α := zM) (fun i W => (∀ r, r ≠ 31 → W r = V1 r) ∧ (∀ j, 0 ≤ j → j < i → W 31 j = b (s + j) - 48)) (fun i W => zwp (ev 66 38 [(2, 58), (0, i)] [] T W) fun r T' V' => T' = T ∧ zFrm V V' ∧ ∃ y, r = (0, y) ∧ zPcl b m V V' (-1, t + 2, zkm b K s) y) (lo := 0) (hi := 7) (by decide) ?_ ?_ V1 ⟨fun _ _ => rfl, fun j j1 j2 => by omega⟩
      · exact loop
      · rintro W ⟨w1, w2⟩
        have r2 : zRt W b m (t + 1) := by
          unfold zRt
          rw [w1 57 (by decide), w1 56 (by decide), w1 58 (by decide)]
          exact a2
        have q2 : zSR W 28 (zkm b K s) := by
          refine zSR_mc a3 (fun r r1 r2 => w1 r (by omega)) (fun i hi => if_neg (by omega)) (fun i i1 i2 => ?_)
          have q := a3.mir i1 i2
          rw [show (28 : Int) + 3 = 31 by decide, show (28 : Int) + 4 = 32 by decide] at q ⊢
          rw [w1 32 (by decide), w2 i i1 i2, show zkm b K s (293 + i) = K (293 + i) from if_neg (by omega)]
          have : zkm b K s (286 + i) = b (s + (286 + i - 286)) - 49 := if_pos (by omega)
          rw [this, show 286 + i - 286 = i by omega]
          exact ⟨by omega, q.2⟩
        have fr2 : zFrm V W := fun r r1 r2 => by rw [w1 r (by omega), a4 r r1 r2]
        obtain ⟨V3, i1, i2, i3, i4, i5⟩ := zstep hS hB r2 q2
        rw [b66_38, if_pos (by decide), b66_76 hS, i1]
        simp only [Option.bind_some, zpush9]
        rw [b66_80]
        exact zwp_ret ⟨rfl, zFrm_t fr2 i4, 1, rfl, Or.inl ⟨rfl, rfl, i2, i3, by rw [i5, w1 58 (by decide), a5]⟩⟩
      · rintro i W i1 i2 ⟨w1, w2⟩ next
        have di := dd i i1 i2
        rw [b66_38, if_neg (by omega), b66_44 hS (by rw [w1 58 (by decide), a23]; omega) (by rw [w1 58 (by decide), a23]; omega) (by rw [w1 57 (by decide), a2.1, w1 58 (by decide), a23]; omega) (by omega) (by omega), w1 57 (by decide), a2.1, w1 58 (by decide), a23]
        refine next _ ⟨fun r hr => by rw [zwr_ne hr, w1 r hr], fun j j1 j2 => ?_⟩
        rw [zwr_same]
        by_cases cj : j = i
        · rw [if_pos cj, cj]
        · rw [if_neg cj]; exact w2 j j1 (by omega)
    · rw [zfi_f (fun z => d2 z.1), if_neg (by omega)]
      exact no1
  · rw [if_neg c7, zfi_f (fun z => c7 z.2)]
    exact no1
theorem c65 {mn w n : Int} (hS : zStr T) (hB : zBy b m) (h : zRt V b m t) (hq : q = 33 ∨ q = 41) (hw : V q 5 = w ∧ 0 ≤ w ∧ w < 8) (hn : zF b m (zS b m t) - zS b m t = n) (hn2 : 1 ≤ n ∧ n ≤ 6) : zwp (zcall 65 [(2, 58), (2, q), (0, mn)] T V) fun r T' V' => r = (9, 0) ∧ T' = T ∧ (∀ r, r ≠ q → r ≠ q + 3 → r ≠ q + 4 → r ≠ q + 5 → V' r = V r) ∧ (V' q 5 = w + 1 ∧ ∀ j, j ≠ 5 → V' q j = V q j) ∧ (∀ j, V' (q + 3) j = if j = w then mn else V (q + 3) j) ∧ (∀ j, V' (q + 4) j = if j = w then n else V (q + 4) j) ∧ (∀ i, 0 ≤ i → i < n → V' (q + 5) (w * 6 + i) = b (zS b m t + i) - 97) ∧ ∀ j, j < w * 6 ∨ w * 6 + n ≤ j → V' (q + 5) j = V (q + 5) j := by
  have tg : zTongue T q := by
    rcases hq with rfl | rfl
    · exact st33 hS
    · exact st41 hS
  obtain ⟨h1, h2, h3, h4, h5⟩ := h
  have sr := zS_r (b := b) hB.1.1 t
  have fr := (zF_r (b := b) sr.2).1
  have mm := hB.1
  have by_ := hB.2
  obtain ⟨s, hs⟩ : ∃ s, zS b m t = s := ⟨_, rfl⟩
  obtain ⟨e, he⟩ : ∃ e, zF b m s = e := ⟨_, rfl⟩
  rw [hs] at h3 sr
  rw [hs, he] at h4 hn fr
  rw [hs]
  have k58 : zwr V (q + 3) (V q 5) mn 58 = V 58 := zwr_ne (by omega)
  rw [e65, b65_0 hS tg (by omega) (by rw [k58, h3, h4]; omega), k58, h3, h4, hn, hw.1]
  obtain ⟨W0, hW0⟩ : ∃ W0, zwr (zwr V (q + 3) w mn) (q + 4) w n = W0 := ⟨_, rfl⟩
  rw [hW0]
  have w0 : ∀ r, r ≠ q + 3 → r ≠ q + 4 → W0 r = V r := fun r r1 r2 => by rw [← hW0, zwr_ne r2, zwr_ne r1]
  have w3 : ∀ j, W0 (q + 3) j = if j = w then mn else V (q + 3) j := fun j => by rw [← hW0, zwr_ne (by omega), zwr_same]
  have w4 : ∀ j, W0 (q + 4) j = if j = w then n else V (q + 4) j := fun j => by rw [← hW0, zwr_same, zwr_ne (by omega)]
  refine zup (α := zM) (fun i W => (∀ r, r ≠ q + 5 → W r = W0 r) ∧ (∀ j, 0 ≤ j → j < i → W (q + 5) (w * 6 + j) = b (s + j) - 97) ∧ ∀ j, j < w * 6 ∨ w * 6 + n ≤ j → W (q + 5) j = V (q + 5) j) (fun i W => zwp (ev 65 30 [(2, 58), (2, q), (0, mn), (0, w), (0, i)] [] T W) fun r T' V' => r = (9, 0) ∧ T' = T ∧ (∀ r, r ≠ q → r ≠ q + 3 → r ≠ q + 4 → r ≠ q + 5 → V' r = V r) ∧ (V' q 5 = w + 1 ∧ ∀ j, j ≠ 5 → V' q j = V q j) ∧ (∀ j, V' (q + 3) j = if j = w then mn else V (q + 3) j) ∧ (∀ j, V' (q + 4) j = if j = w then n else V (q + 4) j) ∧ (∀ i, 0 ≤ i → i < n → V' (q + 5) (w * 6 + i) = b (s + i) - 97) ∧ ∀ j, j < w * 6 ∨ w * 6 + n ≤ j → V' (q + 5) j = V (q + 5) j) (lo := 0) (hi := n) (by omega) ?_ ?_ W0 ⟨fun _ _ => rfl, fun j j1 j2 => by omega, fun j _ => by rw [w0 (q + 5) (by omega) (by omega)]⟩
  · rintro W ⟨u1, u2, u3⟩
    have e58 : W 58 = V 58 := by rw [u1 58 (by omega), w0 58 (by omega) (by omega)]
    have eq5 : W q 5 = w := by rw [u1 q (by omega), w0 q (by omega) (by omega), hw.1]
    rw [b65_30 hS (by rw [e58, h3, h4]; omega), e58, h3, h4, if_pos (by omega), b65_87 tg (by rw [eq5]; omega), eq5]
    refine zwp_ret ⟨rfl, rfl, fun r r1 r2 r3 r4 => by rw [zwr_ne r1, u1 r r4, w0 r r2 r3], ⟨by rw [zwr_same, if_pos rfl], fun j hj => by rw [zwr_same, if_neg hj, u1 q (by omega), w0 q (by omega) (by omega)]⟩, fun j => by rw [zwr_ne (by omega), u1 _ (by omega), w3], fun j => by rw [zwr_ne (by omega), u1 _ (by omega), w4], fun i i1 i2 => by rw [zwr_ne (by omega), u2 i i1 i2], fun j hj => by rw [zwr_ne (by omega), u3 j hj]⟩
  · rintro i W i1 i2 ⟨u1, u2, u3⟩ next
    have e58 : W 58 = V 58 := by rw [u1 58 (by omega), w0 58 (by omega) (by omega)]
    have e57 : W 57 = b := by rw [u1 57 (by omega), w0 57 (by omega) (by omega), h1]
    have bi := by_ (s + i) (by omega) (by omega)
    rw [b65_30 hS (by rw [e58, h3, h4]; omega), e58, h3, h4, if_neg (by omega), b65_44, if_neg (by omega), b65_51 hS tg (by omega) (by omega) (by rw [e58, h3]; omega) (by rw [e58, h3]; omega) (by rw [e57, e58, h3]; omega) (by omega) (by omega), e57, e58, h3]
    refine next _ ⟨fun r hr => by rw [zwr_ne hr, u1 r hr], fun j j1 j2 => ?_, fun j hj => by rw [zwr_same, if_neg (by omega), u3 j hj]⟩
    rw [zwr_same]
    by_cases cj : j = i
    · rw [if_pos (by omega), cj]
    · rw [if_neg (by omega)]; exact u2 j j1 (by omega)
theorem c62 (hS : zStr T) (hB : zBy b m) (h : zRt V b m t) (hs : zSR V 28 K) (hK : ∀ g, g = 0 ∨ g = 1 → 0 ≤ K (284 + g) ∧ K (284 + g) ≤ 8) : zwp (zcall 62 [(2, 58)] T V) fun r T' V' => T' = T ∧ zFrm V V' ∧ ∃ y, r = (0, y) ∧ zPcl b m V V' (zWrd b m K t) y := by
  have s0 : ∀ t, 0 ≤ zS b m t := fun t => (zS_r hB.1.1 t).1
  have mm := hB.1
  obtain ⟨V1, a1, a2, a3, a4, a5⟩ := zstep hS hB h hs
  obtain ⟨y1, d1, d2⟩ := c63 hS hB a2
  have go : ∀ g q, ((g = 0 ∧ q = 28 + 5) ∨ (g = 1 ∧ q = 28 + 13)) → zwp (ev 62 27 [(2, 58), (0, zS b m t), (2, q), (9, 0)] [] T V1) fun r T' V' => T' = T ∧ zFrm V V' ∧ ∃ y, r = (0, y) ∧ zPcl b m V V' (zWr2 b m K g t) y := fun g q hg => by
    have tg : zTongue T q := by
      rcases hg with ⟨-, rfl⟩ | ⟨-, rfl⟩
      · exact st33 hS
      · exact st41 hS
    have k8 := hK g (by omega)
    have wq : V1 q 5 = K (284 + g) := (a3.tg hg).words
    rw [b62_27 tg, wq]
    unfold zWr2
    by_cases c8 : K (284 + g) = 8
    · rw [zfi_t c8, if_neg (by omega), b62_36 hS, c60 hS]
      simp only [Option.bind_some, zpush0]
      rw [b62_41 (by decide)]
      exact zwp_ret ⟨rfl, zfail a4 (s0 _) rfl⟩
    · rw [zfi_f c8, if_pos (by omega)]
      obtain ⟨V2, f1, f2, f3, f4, f5⟩ := zstep hS hB a2 a3
      obtain ⟨y2, g1, g2⟩ := c64 hS hB f2
      have fr2 := zFrm_t a4 f4
      have no2 : ∀ x, zwp (ev 62 61 [(2, 58), (0, zS b m t), (2, q), (0, x)] [] T V2) fun r T' V' => T' = T ∧ zFrm V V' ∧ ∃ y, r = (0, y) ∧ zPcl b m V V' (zS b m (t + 2), t, K) y := fun x => by
        rw [b62_61 hS, c60 hS, f2.2.2.1]
        simp only [Option.bind_some, zpush0]
        rw [b62_69 (by decide)]
        exact zwp_ret ⟨rfl, zfail fr2 (s0 _) rfl⟩
      rw [b62_42 hS, f1]
      simp only [Option.bind_some, zpush9]
      rw [b62_46 hS, g1]
      simp only [Option.bind_some, zpush0]
      rw [b62_50]
      by_cases c2 : zKd b m (zS b m (t + 2)) = 2 ∧ zNx b m (t + 2) ≤ 7
      · rcases g2 with ⟨g2, g3, g4⟩ | ⟨g2, g3⟩
        · have g3' : y2 = min 1000 (zNx b m (t + 2)) := g3
          have g4' : 0 ≤ zNx b m (t + 2) := g4
          have e2 : y2 = zNx b m (t + 2) := by omega
          rw [zfi_t c2, if_neg (by omega), b62_55, if_pos (by omega)]
          obtain ⟨V3, i1, i2, i3, i4, i5⟩ := zstep hS hB f2 f3
          replace i2 : zRt V3 b m (t + 3) := i2
          have fr3 := zFrm_t fr2 i4
          have sr := zS_r (b := b) hB.1.1 (t + 3)
          have fr := (zF_r (b := b) sr.2).1
          have no3 : zwp (ev 62 96 [(2, 58), (0, zS b m t), (2, q), (0, y2)] [] T V3) fun r T' V' => T' = T ∧ zFrm V V' ∧ ∃ y, r = (0, y) ∧ zPcl b m V V' (zS b m (t + 3), t, K) y := by
            rw [b62_96 hS, c60 hS, i2.2.2.1]
            simp only [Option.bind_some, zpush0]
            rw [b62_104 (by decide)]
            exact zwp_ret ⟨rfl, zfail fr3 (s0 _) rfl⟩
          rw [b62_70 hS, i1]
          simp only [Option.bind_some, zpush9]
          rw [b62_74 hS, i2.2.2.2.2]
          by_cases c3 : zKd b m (zS b m (t + 3)) = 1
          · rw [if_pos c3, b62_82 hS (by rw [i2.2.2.1, i2.2.2.2.1]; omega), i2.2.2.1, i2.2.2.2.1]
            by_cases c4 : zF b m (zS b m (t + 3)) - zS b m (t + 3) ≤ 6
            · have pos : zS b m (t + 3) < zF b m (zS b m (t + 3)) := by
                by_cases cs : zS b m (t + 3) < m
                · exact (zF_r (b := b) sr.2).2.1 cs
                · have : zKd b m (zS b m (t + 3)) = 0 := if_neg cs
                  omega
              have wq3 : V3 q 5 = K (284 + g) := (i3.tg hg).words
              rw [if_pos c4, zfi_t ⟨c3, c4⟩, b62_105 hS]
              refine zwp_seq (c65 (mn := y2) hS hB i2 (by omega) ⟨wq3, by omega, by omega⟩ rfl (by omega)) ?_
              rintro r T4 V4 ⟨rfl, rfl, j1, j2, j3, j4, j5, j6⟩
              simp only [zpush9]
              have q4 : zSR V4 28 (zkw b K g y2 (zS b m (t + 3)) (zF b m (zS b m (t + 3)) - zS b m (t + 3))) := zSR_wrd i3 hg ⟨rfl, by omega, by omega⟩ (by omega) j1 j2 j3 j4 ⟨j5, j6⟩
              have r4 : zRt V4 b m (t + 3) := by
                unfold zRt
                rw [j1 57 (by omega) (by omega) (by omega) (by omega), j1 56 (by omega) (by omega) (by omega) (by omega), j1 58 (by omega) (by omega) (by omega) (by omega)]
                exact i2
              have fr4 : zFrm V V4 := fun r r1 r2 => by rw [j1 r (by omega) (by omega) (by omega) (by omega), fr3 r r1 r2]
              obtain ⟨V5, m1, m2, m3, m4, m5⟩ := zstep hS hB r4 q4
              rw [b62_111 hS, m1]
              simp only [Option.bind_some, zpush9]
              rw [b62_115]
              refine zwp_ret ⟨rfl, zFrm_t fr4 m4, 1, rfl, Or.inl ⟨rfl, rfl, m2, ?_, ?_⟩⟩
              · rw [← e2]; exact m3
              · rw [m5, j1 58 (by omega) (by omega) (by omega) (by omega), i5, f5, a5]
            · rw [if_neg c4, zfi_f (fun z => c4 z.2)]
              exact no3
          · rw [if_neg c3, zfi_f (fun z => c3 z.1)]
            exact no3
        · exact absurd c2.1 g2
      · rw [zfi_f c2]
        by_cases cn : y2 < 0
        · rw [if_pos cn]; exact no2 _
        · rw [if_neg cn, b62_55, if_neg (by
            rcases g2 with ⟨g2, g3, g4⟩ | ⟨g2, g3⟩
            · have g3' : y2 = min 1000 (zNx b m (t + 2)) := g3
              have : ¬ zNx b m (t + 2) ≤ 7 := fun z => c2 ⟨g2, z⟩
              omega
            · omega)]
          exact no2 _
  rw [e62, b62_0 hS, a1, h.2.2.1]
  simp only [Option.bind_some, zpush9]
  rw [b62_9 hS, d1]
  simp only [Option.bind_some, zpush2]
  rw [b62_13]
  unfold zWrd
  rcases d2 with ⟨d2, rfl⟩ | ⟨d2, d3, rfl⟩ | ⟨d2, d3, rfl⟩
  · rw [zfi_t d2, if_pos (by decide)]
    exact go 0 33 (Or.inl ⟨rfl, rfl⟩)
  · rw [zfi_f d2, zfi_t d3, if_pos (by decide)]
    exact go 1 41 (Or.inr ⟨rfl, rfl⟩)
  · rw [zfi_f d2, zfi_f d3, if_neg (by decide), b62_18 hS, c60 hS, a2.2.2.1]
    simp only [Option.bind_some, zpush0]
    rw [b62_26 (by decide)]
    exact zwp_ret ⟨rfl, zfail a4 (s0 _) rfl⟩
theorem zPcl_y {V V' : zM} {R : zRes} {y : Int} (h : zPcl b m V V' R y) : 0 ≤ y ∧ y ≤ 1 := by
  rcases h with h | h
  · have := h.2.1; omega
  · have := h.2.1; omega
theorem c45 (hS : zStr T) (hB : zBy b m) (h : zRt V b m t) (hs : zSR V 28 K) (hK : ∀ g, g = 0 ∨ g = 1 → 0 ≤ K (284 + g) ∧ K (284 + g) ≤ 8) : zwp (zcall 45 [(2, 58)] T V) fun r T' V' => T' = T ∧ zFrm V V' ∧ ∃ y, r = (0, y) ∧ zPcl b m V V' (zCla b m K t) y := by
  obtain ⟨n0, p0, q0⟩ := c46 (x := 0) hS hB h (by decide)
  obtain ⟨n1, p1, q1⟩ := c46 (x := 1) hS hB h (by decide)
  obtain ⟨n2, p2, q2⟩ := c46 (x := 2) hS hB h (by decide)
  obtain ⟨n3, p3, q3⟩ := c46 (x := 3) hS hB h (by decide)
  obtain ⟨n4, p4, q4⟩ := c46 (x := 4) hS hB h (by decide)
  obtain ⟨n5, p5, q5⟩ := c46 (x := 5) hS hB h (by decide)
  unfold zCla
  rw [e45, b45_0 hS, p0]
  simp only [Option.bind_some, zpush0]
  rw [b45_6]
  rcases q0 with ⟨rfl, q0⟩ | ⟨rfl, q0⟩
  · rw [zfi_t q0, if_neg (by decide), b45_9 hS]
    refine zwp_seq (c58 (q := 33) (g := 0) hS hB h hs (Or.inl ⟨rfl, rfl⟩)) ?_
    rintro r T' V' ⟨a1, a2, y, rfl, a3⟩
    simp only [zpush0]
    rw [b45_20 (zPcl_y a3)]
    exact zwp_ret ⟨a1, a2, y, rfl, a3⟩
  · rw [zfi_f q0, if_pos rfl, b45_21 hS, p1]
    simp only [Option.bind_some, zpush0]
    rw [b45_27]
    rcases q1 with ⟨rfl, q1⟩ | ⟨rfl, q1⟩
    · rw [zfi_t q1, if_neg (by decide), b45_30 hS]
      refine zwp_seq (c58 (q := 41) (g := 1) hS hB h hs (Or.inr ⟨rfl, rfl⟩)) ?_
      rintro r T' V' ⟨a1, a2, y, rfl, a3⟩
      simp only [zpush0]
      rw [b45_41 (zPcl_y a3)]
      exact zwp_ret ⟨a1, a2, y, rfl, a3⟩
    · rw [zfi_f q1, if_pos rfl, b45_42 hS, p2]
      simp only [Option.bind_some, zpush0]
      rw [b45_48]
      rcases q2 with ⟨rfl, q2⟩ | ⟨rfl, q2⟩
      · rw [zfi_t q2, if_neg (by decide), b45_51 hS]
        refine zwp_seq (c62 hS hB h hs hK) ?_
        rintro r T' V' ⟨a1, a2, y, rfl, a3⟩
        simp only [zpush0]
        rw [b45_55 (zPcl_y a3)]
        exact zwp_ret ⟨a1, a2, y, rfl, a3⟩
      · rw [zfi_f q2, if_pos rfl, b45_56 hS, p3]
        simp only [Option.bind_some, zpush0]
        rw [b45_62]
        rcases q3 with ⟨rfl, q3⟩ | ⟨rfl, q3⟩
        · rw [zfi_t q3, if_neg (by decide), b45_65 hS]
          refine zwp_seq (c66 hS hB h hs) ?_
          rintro r T' V' ⟨a1, a2, y, rfl, a3⟩
          simp only [zpush0]
          rw [b45_69 (zPcl_y a3)]
          exact zwp_ret ⟨a1, a2, y, rfl, a3⟩
        · rw [zfi_f q3, if_pos rfl, b45_70 hS, p4]
          simp only [Option.bind_some, zpush0]
          rw [b45_76]
          rcases q4 with ⟨rfl, q4⟩ | ⟨rfl, q4⟩
          · rw [zfi_t q4, if_neg (by decide), b45_79 hS]
            refine zwp_seq (c67 hS hB h hs) ?_
            rintro r T' V' ⟨a1, a2, y, rfl, a3⟩
            simp only [zpush0]
            rw [b45_83 (zPcl_y a3)]
            exact zwp_ret ⟨a1, a2, y, rfl, a3⟩
          · rw [zfi_f q4, if_pos rfl, b45_84 hS, p5]
            simp only [Option.bind_some, zpush0]
            rw [b45_90]
            rcases q5 with ⟨rfl, q5⟩ | ⟨rfl, q5⟩
            · rw [zfi_t q5, if_neg (by decide), b45_93 hS]
              refine zwp_seq (c68 hS hB h hs) ?_
              rintro r T' V' ⟨a1, a2, y, rfl, a3⟩
              simp only [zpush0]
              rw [b45_97, b45_108 (zPcl_y a3)]
              exact zwp_ret ⟨a1, a2, y, rfl, a3⟩
            · rw [zfi_f q5, if_pos rfl, b45_100 hS, c60 hS, h.2.2.1]
              simp only [Option.bind_some, zpush0]
              rw [b45_108 (by decide)]
              exact zwp_ret ⟨rfl, zfail (fun _ _ _ => rfl) (zS_r hB.1.1 t).1 rfl⟩
end CLASS2
