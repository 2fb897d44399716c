/-! the reference: a clause; tables -/
section MODEL3
variable {T : zT} {V V' : zM} {b K : Int → Int} {m : Int} {N t : Nat}
theorem zNa_n {x y : Int} (hx : 0 ≤ x ∧ x < 7) (hy : 0 ≤ y ∧ y < 7) (hne : x ≠ y) (h : zNa b m t x) : ¬ zNa b m t y := fun z => hne (zNm_u hx hy h z)
theorem c169 (hS : zStr T) (hB : zBy b m) (h : zMs V b m N t) (hh : zHd V K) (hK : ∀ g, g = 0 ∨ g = 1 → 0 ≤ K (284 + g) ∧ K (284 + g) ≤ 8) : zwp (zcall 169 [(2, 130)] T V) fun r T' V' => r = (9, 0) ∧ T' = T ∧ zMp b m N V V' (zCla b m K t) := by
  have s0 : ∀ t, 0 ≤ zS b m t := fun t => (zS_r hB.1.1 t).1
  have mm := hB.1
  have hN := h.1.2.2.1
  obtain ⟨y1, V1, a1, a2⟩ := c170 (x := 3) hS mm.2 h (zCd_n (x := 2) hB (by decide)) (by decide)
  rw [e169, b169_0 hS, a1]
  simp only [Option.bind_some, zpush0]
  rw [b169_5]
  unfold zCla
  rcases a2 with ⟨rfl, a2, a3, a4⟩ | ⟨rfl, a2, a3⟩
  · rw [zfi_f (zNa_n (by decide) (by decide) (by decide) a2), zfi_f (zNa_n (by decide) (by decide) (by decide) a2), zfi_t a2, if_neg (by decide), b169_8 hS]
    refine zwp_seq (c172 hS hB a4 a3 (zHd_e hh a4) hK) ?_
    rintro r T' V2 ⟨rfl, rfl, q⟩
    simp only [zpush9]
    rw [b169_12, b169_212]
    exact zwp_ret ⟨rfl, rfl, q⟩
  rw [a3]
  obtain ⟨y2, V2, d1, d2⟩ := c170 (x := 4) hS mm.2 h (zCd_n (x := 3) hB (by decide)) (by decide)
  rw [if_pos rfl, b169_15 hS, d1]
  simp only [Option.bind_some, zpush0]
  rw [b169_20]
  rcases d2 with ⟨rfl, d2, d3, d4⟩ | ⟨rfl, d2, d3⟩
  · -- mirror
    rw [zfi_f (zNa_n (by decide) (by decide) (by decide) d2), zfi_f (zNa_n (by decide) (by decide) (by decide) d2), zfi_f a2, zfi_t d2, if_neg (by decide), b169_23 hS, c171 hS d3.2.2.1]
    simp only [Option.bind_some, zpush0]
    rw [b169_27, if_neg (by decide), b169_30 hS, d3.1.2.1, d3.2.1]
    have pp := zMk_p d3.1 d3.2.2.2
    obtain ⟨y3, V3, f1, f2, f3⟩ := c177 (but := 0) (many := 7) hS hB d3 (by decide) (Or.inr rfl)
    have e3 := zMe_t d4 f2
    have go : ∀ p, ((t + 1 : Nat) < N → p = zS b m (t + 1)) → zwp (ev 169 54 [(2, 130), (9, 0), (9, 0)] [(0, p)] T V2) fun r T' V' => r = (9, 0) ∧ T' = T ∧ zMp b m N V V' (zMir b m K t) := fun p hp => by
      unfold zMir
      rw [b169_54 hS, f1]
      simp only [Option.bind_some, zpush0]
      rw [b169_62]
      rcases f3 with ⟨rfl, f3, f4, f5⟩ | ⟨rfl, f3, f4⟩
      · have f37 : zF b m (zS b m (t + 1)) - zS b m (t + 1) = 7 := by have := f3.2; omega
        have ht := zKd_q d3.1 d3.2.2.2 (by rw [f3.1.1]; decide)
        rw [zfi_t ⟨f3.1, f37⟩, if_neg (by decide), b169_66, hp ht]
        obtain ⟨p1, p2, p3⟩ := zStw_p hB (Or.inl f3.1.1)
        have sr := zS_r (b := b) hB.1.1 (t + 1)
        have fr := (zF_r (b := b) sr.2).1
        have bc := f4.1.2.2.2.2.2.2.2
        obtain ⟨s, hs⟩ : ∃ s, zS b m (t + 1) = s := ⟨_, rfl⟩
        have kd : ∀ i, 0 ≤ i → i < 7 → (48 ≤ b (s + i) ∧ b (s + i) ≤ 57) ∧ V3 137 (s + i) = b (s + i) := fun i i1 i2 => by
          have q := p3 (s + i) (by omega) (by omega)
          rw [f3.1.1] at q
          exact ⟨zkb_2.1 q, (zBc_k bc (j := s + i) (by omega) (by omega)).2.2.2 (by rw [q]; decide)⟩
        rw [hs] at sr fr f37 ⊢
        have hh3 : zHd V3 K := zHd_e hh e3
        refine zup (α := zM) (fun i W => (∀ r, r ≠ 135 → W r = V3 r) ∧ (∀ j, 0 ≤ j → j < i → W 135 (286 + j) = b (s + j) - 49) ∧ ∀ j, j < 286 ∨ 286 + i ≤ j → W 135 j = V3 135 j) (fun i W => zwp (ev 169 68 [(2, 130), (0, s), (0, i)] [] T W) fun r T' V' => r = (9, 0) ∧ T' = T ∧ zMp b m N V V' (-1, t + 2, zkm b K s)) (lo := 0) (hi := 7) (by decide) ?_ ?_ V3 ⟨fun _ _ => rfl, fun j j1 j2 => by omega, fun _ _ => rfl⟩
        · rintro W ⟨u1, u2, u3⟩
          rw [b169_68, if_pos (by decide), b169_101, b169_212]
          refine zwp_ret ⟨rfl, rfl, fun r r1 r2 => by rw [u1 r r2, e3.1 r r1], fun j j1 j2 j3 => by rw [u1 130 (by decide), e3.2 j j1 j2 j3], Or.inl ⟨rfl, ?_, fun i i1 i2 => ?_⟩⟩
          · obtain ⟨⟨q1, q2, q3, q4, q5, q6, q7, q8⟩, q9, q10, q11⟩ := f4
            refine ⟨⟨by rw [u1 130 (by decide), q1], by rw [u1 130 (by decide), q2], q3, q4, fun x hx => ?_, by rw [u1 141 (by decide), q6], by rw [u1 139 (by decide), q7], fun j j1 j2 => by rw [u1 137 (by decide)]; exact q8 j j1 j2⟩, by rw [u1 130 (by decide), q9], by rw [u1 130 (by decide), q10], q11⟩
            rw [u1 141 (by decide), u1 139 (by decide), u1 140 (by decide)]
            exact q5 x hx
          · show W 135 i = zkm b K s i
            unfold zkm
            by_cases c : 286 ≤ i ∧ i < 293
            · have := u2 (i - 286) (by omega) (by omega)
              rw [show 286 + (i - 286) = i by omega] at this
              rw [if_pos c, this]
            · rw [if_neg c, u3 i (by omega)]
              exact hh3 i i1 i2
        · rintro i W i1 i2 ⟨u1, u2, u3⟩ next
          obtain ⟨k1, k2⟩ := kd i i1 i2
          have e137 : W 137 (s + i) = b (s + i) := by rw [u1 137 (by decide), k2]
          rw [b169_68, if_neg (by omega), b169_74 hS (by omega) (by omega) (by omega) (by rw [e137]; omega) (by omega) (by omega), e137]
          refine next _ ⟨fun r hr => by rw [zwr_ne hr, u1 r hr], fun j j1 j2 => ?_, fun j hj => by rw [zwr_same, if_neg (by omega), u3 j (by omega)]⟩
          rw [zwr_same]
          by_cases cj : j = i
          · rw [if_pos (by omega), cj]
          · rw [if_neg (by omega)]; exact u2 j j1 (by omega)
      · rw [zfi_f (fun z => f3 ⟨z.1, Or.inr z.2⟩), if_pos rfl, b169_65]
        exact zwp_ret ⟨rfl, rfl, zMp_f e3 f4 (s0 _) rfl⟩
    by_cases ct : (N : Int) ≤ ((t + 1 : Nat) : Int)
    · rw [if_pos ct, b169_53]
      exact go 0 (fun z => by omega)
    · rw [if_neg ct, b169_41 hS (by rw [d3.2.1]; omega), d3.2.1, pp.1]
      exact go _ (fun _ => rfl)
  rw [d3]
  obtain ⟨y3, V3, f1, f2⟩ := c170 (x := 5) hS mm.2 h (zCd_n (x := 4) hB (by decide)) (by decide)
  rw [if_pos rfl, b169_104 hS, f1]
  simp only [Option.bind_some, zpush0]
  rw [b169_109]
  rcases f2 with ⟨rfl, f2, f3, f4⟩ | ⟨rfl, f2, f3⟩
  · -- cost
    obtain ⟨y4, V4, g1, g2, g3⟩ := c175 (lo := 1) (hi := 7) hS hB f3 (by decide)
    have e4 := zMe_t f4 g2
    rw [zfi_f (zNa_n (by decide) (by decide) (by decide) f2), zfi_f (zNa_n (by decide) (by decide) (by decide) f2), zfi_f a2, zfi_f d2, zfi_t f2, if_neg (by decide), b169_112 hS, g1]
    simp only [Option.bind_some, zpush0]
    rw [b169_119]
    unfold zCos
    rcases g3 with ⟨rfl, g3, g4, g5⟩ | ⟨rfl, g3, g4⟩
    · obtain ⟨y5, V5, i1, i2, i3⟩ := c175 (lo := 0) (hi := 99) hS hB g4 (by decide)
      have e5 := zMe_t e4 i2
      rw [zfi_t g3, if_neg (by decide), b169_123 hS (by rw [g5]; omega), i1, g5]
      simp only [Option.bind_some, zpush0]
      rw [b169_137]
      rcases i3 with ⟨rfl, i3, i4, i5⟩ | ⟨rfl, i3, i4⟩
      · have c2 : zKd b m (zS b m (t + 2)) = 2 ∧ zNx b m (t + 2) ≤ 99 := ⟨i3.1, i3.2.2⟩
        have i5' : V5 130 21 = zNx b m (t + 2) := i5
        rw [zfi_t c2, if_neg (by decide), b169_140 hS (by omega) (by omega), b169_154, b169_212, i5']
        refine zwp_ret ⟨rfl, rfl, fun r r1 r2 => by rw [zwr_ne r2, e5.1 r r1], fun j j1 j2 j3 => by rw [zwr_ne (by decide), e5.2 j j1 j2 j3], Or.inl ⟨rfl, zMs_h i4 rfl, fun i q1 q2 => ?_⟩⟩
        show zwr V5 135 (293 + (zNx b m (t + 1) - 1)) (zNx b m (t + 2)) 135 i = zku K (293 + (zNx b m (t + 1) - 1)) (zNx b m (t + 2)) i
        unfold zku
        rw [zwr_same, e5.1 135 (by decide), hh i q1 q2]
      · rw [zfi_f (fun z => i3 ⟨z.1, zNx_r hB z.1, z.2⟩), if_pos rfl, b169_154, b169_212]
        exact zwp_ret ⟨rfl, rfl, zMp_f e5 i4 (s0 _) rfl⟩
    · rw [zfi_f g3, if_pos rfl, b169_122]
      exact zwp_ret ⟨rfl, rfl, zMp_f e4 g4 (s0 _) rfl⟩
  rw [f3]
  obtain ⟨y4, V4, g1, g2⟩ := c170 (x := 6) hS mm.2 h (zCd_n (x := 5) hB (by decide)) (by decide)
  rw [if_pos rfl, b169_157 hS, g1]
  simp only [Option.bind_some, zpush0]
  rw [b169_163]
  rcases g2 with ⟨rfl, g2, g3, g4⟩ | ⟨rfl, g2, g3⟩
  · -- drop
    obtain ⟨y5, V5, i1, i2, i3⟩ := c173 hS hB g3
    have e5 := zMe_t g4 i2
    rw [zfi_f (zNa_n (by decide) (by decide) (by decide) g2), zfi_f (zNa_n (by decide) (by decide) (by decide) g2), zfi_f a2, zfi_f d2, zfi_f f2, zfi_t g2, if_neg (by decide), b169_166 hS, i1]
    simp only [Option.bind_some, zpush0]
    rw [b169_170]
    unfold zDro
    rcases i3 with ⟨rfl, i3, i4, i5⟩ | ⟨rfl, i3, i4⟩
    · have go : ∀ g, (g = 0 ∨ g = 1) → V5 130 21 = g → zwp (ev 169 174 [(2, 130), (9, 0), (9, 0)] [] T V5) fun r T' V' => r = (9, 0) ∧ T' = T ∧ zMp b m N V V' (zDr2 b m K g t) := fun g hg eg => by
        obtain ⟨y6, V6, j1, j2, j3⟩ := c178 hS hB i4
        have e6 := zMe_t e5 j2
        rw [b169_174 hS, j1, eg]
        simp only [Option.bind_some, zpush0]
        rw [b169_183]
        unfold zDr2
        rcases j3 with ⟨rfl, j3, j4, j5⟩ | ⟨rfl, j3, j4⟩
        · have ol : zOl b m (t + 2) := j3
          have j5' : V6 130 21 = b (zS b m (t + 2)) - 97 := j5
          have l := zOl_r hB ol
          rw [zfi_t ol, if_neg (by decide), b169_186 hS (by omega) (by rw [j5']; omega) (by rw [j5']; omega) (by rw [j5']; omega) (by rw [j5']; omega), b169_205, b169_212, j5', Int.zero_add]
          refine zwp_ret ⟨rfl, rfl, fun r r1 r2 => by rw [zwr_ne r2, e6.1 r r1], fun j q1 q2 q3 => by rw [zwr_ne (by decide), e6.2 j q1 q2 q3], Or.inl ⟨rfl, zMs_h j4 rfl, fun i q1 q2 => ?_⟩⟩
          show zwr V6 135 (3 * (26 * g + (b (zS b m (t + 2)) - 97))) 0 135 i = zku K (3 * (26 * g + (b (zS b m (t + 2)) - 97))) 0 i
          unfold zku
          rw [zwr_same, e6.1 135 (by decide), hh i q1 q2]
        · have ol : ¬ zOl b m (t + 2) := j3
          rw [zfi_f ol, if_pos rfl, b169_205, b169_212]
          exact zwp_ret ⟨rfl, rfl, zMp_f e6 j4 (s0 _) rfl⟩
      rw [if_neg (by decide)]
      by_cases c0 : zNa b m (t + 1) 0
      · rw [zif_t c0] at i5
        rw [zfi_t c0]
        exact go 0 (Or.inl rfl) i5
      · rw [zif_f c0] at i5
        rw [zfi_f c0, zfi_t (i3.resolve_left c0)]
        exact go 1 (Or.inr rfl) i5
    · rw [if_pos rfl, b169_173, zfi_f (fun z => i3 (Or.inl z)), zfi_f (fun z => i3 (Or.inr z))]
      exact zwp_ret ⟨rfl, rfl, zMp_f e5 i4 (s0 _) rfl⟩
  rw [g3]
  rw [if_pos rfl, b169_208 hS, zfi_f a2, zfi_f d2, zfi_f f2, zfi_f g2]
  refine zwp_seq (c179 hS hB h hh) ?_
  rintro r T' V5 ⟨rfl, rfl, q⟩
  simp only [zpush9]
  rw [b169_212]
  exact zwp_ret ⟨rfl, rfl, q⟩
end MODEL3
