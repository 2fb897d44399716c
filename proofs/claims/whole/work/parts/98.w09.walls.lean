/-! findWalls -/
theorem zJ_x2 {n : Int} {T T' : zT} {V V' : zM} (h : zJ n T V) (hS : zStr T') (hg : zGeo T' V') (x : zHx T T' zCx) (hr : ∀ r, zKr T r ∨ (113 ≤ r ∧ r ≤ 119) → ¬ (71 ≤ r ∧ r ≤ 76) → ¬ (120 ≤ r ∧ r ≤ 127) → V' r = V r) (hl : zPL V' 71) : zJ n T' V' := by
  have low : ∀ r, 0 ≤ r → r < 71 → V' r = V r := fun r h1 h2 => hr r (Or.inl (Or.inl (by omega))) (by omega) (by omega)
  have high : ∀ r, 128 ≤ r → r < 153 → V' r = V r := fun r h1 h2 => hr r (Or.inl (Or.inr (Or.inr (Or.inl (by omega))))) (by omega) (by omega)
  have e132 := high 132 (by decide) (by decide)
  have hs := h.str.1
  have e55 : ∀ k, zp T' 55 k = zp T 55 k := fun k => x.2.2 55 k (by omega) (fun z => by unfold zCx at z; omega)
  have h55 := h.i55
  have im : ∀ k, k = 0 ∨ k = 1 → zIm1 T V k → zIm1 T' V' k := fun k hk z => by
    unfold zIm1 at z ⊢
    rw [high 134 (by decide) (by decide), high 133 (by decide) (by decide), e55]
    rcases z with z | ⟨z1, z2, z3, z4, z5⟩
    · exact Or.inl z
    · refine Or.inr ⟨z1, z2, zState_x z3 x (fun y k y1 y2 z => by unfold zCx at z; omega), ?_, z5⟩
      exact zSR_congr (fun d g1 g2 => hr _ (Or.inl (Or.inr (Or.inr (Or.inr ⟨k, hk, by omega, by omega, by omega⟩)))) (by omega) (by omega)) z4
  refine ⟨hS, hg, ?_, by rw [e132]; exact h.ok, ?_, ?_, ?_, ?_, hl, ?_, ?_, ⟨im 0 (Or.inl rfl) h.im.1, im 1 (Or.inr rfl) h.im.2⟩, ?_⟩
  · rw [e132]
    exact zSR_congr (fun d g1 g2 => low _ (by omega) (by omega)) h.sr
  · have := h.tape
    unfold zTape at this ⊢
    rw [low 56 (by decide) (by decide), low 57 (by decide) (by decide), high 130 (by decide) (by decide), high 137 (by decide) (by decide)]
    exact this
  · have := h.sc
    unfold zSc at this ⊢
    rw [low 0 (by decide) (by decide), high 129 (by decide) (by decide), high 130 (by decide) (by decide), high 131 (by decide) (by decide)]
    exact this
  · have := h.rd
    unfold zRd at this ⊢
    rw [e132, low 60 (by decide) (by decide), low 61 (by decide) (by decide), low 62 (by decide) (by decide), low 63 (by decide) (by decide), low 64 (by decide) (by decide)]
    exact this
  · rw [e132]
    exact zPT_congr (fun d g1 g2 => low _ (by omega) (by omega)) h.pt
  · intro z
    rw [low 0 (by decide) (by decide)] at z
    have := h.tl z
    have mid : ∀ r, 113 ≤ r → r ≤ 119 → V' r = V r := fun r h1 h2 => hr r (Or.inr ⟨h1, h2⟩) (by omega) (by omega)
    unfold zTell at this ⊢
    rw [e132, mid 115 (by decide) (by decide), mid 116 (by decide) (by decide), mid 117 (by decide) (by decide), mid 118 (by decide) (by decide)]
    exact this
  · have := h.pr
    unfold zPri zLeft at this ⊢
    rw [e132, high 130 (by decide) (by decide), high 151 (by decide) (by decide)]
    exact this
  · have := h.wd
    unfold zWd at this ⊢
    rw [high 136 (by decide) (by decide)]
    exact this
section WALLS2
variable {n : Int} {T : zT} {V : zM}
theorem zWu_0 {T0 : zT} {V0 : zM} {K Qe Qw : Int → Int} {A : Int → Int → Prop} {B : Nat → Int → Int → Prop} {N cell E W : Int} {Le Lw : Int → List Int} {q1 q2 g1 g2 n1 n2 p m : Int} (hw : zWs T V q1 q2 g1 g2 n1 n2 p m K 1 E W Qe Qw Le Lw 0) (hx : zHx T0 T zCx) (hr : ∀ r, zKr T0 r ∨ (113 ≤ r ∧ r ≤ 119) → ¬ (71 ≤ r ∧ r ≤ 76) → V r = V0 r) (hl : zPL V 71) (hf : ∀ op z O Qe Qw, zFo V op z O q1 g1 Qe Qw = op z (O 1 0 0 0 0 (Qe 0) (Qw 0))) : zWu T0 V0 K A B N cell E W Qe Qw Le Lw 0 T V := by
  have e1 : Qe 0 = 0 := hw.2.2.2.2.1.2.1
  have e2 : Qw 0 = 0 := hw.2.2.2.2.2.1.2.1
  refine ⟨q1, q2, g1, g2, n1, n2, p, m, hw, hx, hr, hl, ?_, fun hc j hj => ⟨fun _ => ⟨?_, ?_⟩, fun z => by omega⟩⟩
  · rw [hf, e1, e2, Int.sub_zero]
    have h0 := zW_pos K 1 A N.toNat 0 0
    show zoc 0 (min 1000000000000 (1 * zW K 1 A N.toNat 0 0)) = _
    rw [Int.one_mul]
    unfold zoc
    omega
  · have s := hf max 0 (fun _ _ _ _ m e w => zif (zbt m j ∧ True) 1 0) Qe Qw
    have s2 : zfo max 0 (fun x => zif (zbt (V (g1 + 7) x) j ∧ True) 1 0) (V q1 0).toNat = max 0 (zif (zbt 0 j ∧ True) 1 0) := s
    rw [zfo_max, zif_f (p := zbt 0 j ∧ True) (fun z => zbt_z z.1)] at s2
    intro x x1 x2 hb
    rw [zif_t ⟨x, ⟨x1, by omega⟩, hb, trivial⟩] at s2
    exact absurd s2 (by decide)
  · rw [hf, e1, e2, Int.sub_zero]
    show max 0 (zif (0 < 1 ∧ 0 < zW K 1 (B j) N.toNat 0 0) 1 0) = _
    by_cases c : 0 < zW K 1 (B j) N.toNat 0 0
    · rw [zif_t c, zif_t ⟨by decide, c⟩]; decide
    · rw [zif_f c, zif_f (fun z => c z.2)]; decide
theorem c125 {cell st : Int} (h : zJ n T V) : zwp (zcall 125 [(2, 0), (0, cell), (0, st)] T V) fun r T' V' => r = (9, 0) ∧ zJ n T' V' ∧ V' 132 = V 132 ∧ V' 123 0 = min 1000000000000 (zW (zkc (V 132)) 1 (zAl (V 132) (V 132 427) cell st) (V 132 427).toNat 0 0) ∧ (0 ≤ cell ∧ cell < V 132 427 → (0 ≤ V' 127 0 ∧ V' 127 0 < 16384) ∧ ∀ j : Nat, j < 14 → (zbt (V' 127 0) j ↔ 0 < zW (zkc (V 132)) 1 (zBl (V 132) (V 132 427) cell st j) (V 132 427).toNat 0 0)) := by
  have hS := h.str
  have hs : 153 ≤ zsz T := hS.1
  have hn := h.ok.n
  have hsn := h.sr.n
  obtain ⟨K, hKe⟩ : ∃ K, zkc (V 132) = K := ⟨_, rfl⟩
  obtain ⟨N, hN⟩ : ∃ N, V 132 427 = N := ⟨_, rfl⟩
  have tw0 : zTw V 6 K 0 := by rw [← hKe]; exact zTw_of (Or.inl rfl) h.sr.east h.ok
  have tw1 : zTw V 14 K 1 := by rw [← hKe]; exact zTw_of (Or.inr rfl) h.sr.west h.ok
  rw [hKe, hN]
  rw [hN] at hn hsn
  obtain ⟨q1, q2, g1, g2, n1, n2, p, m, geo⟩ := h.geo
  obtain ⟨hg, hp⟩ := zGeo0_of geo
  obtain ⟨r1, T1, V1, a1, a2, a3, a4, E, Qe, Le, a5⟩ := c126 (V := V) (st79 hS) (st6 hS) (Or.inr (by decide)) (Or.inl rfl) tw0
  subst a2
  have a3' : T1 = T := a3
  rw [a3'] at a1
  clear a3 a3'
  have tw1' : zTw V1 14 K 1 := zTw_congr (fun d d1 d2 => a4.1 _ (by omega)) tw1
  obtain ⟨r2, T2, V2, b1, b2, b3, b4, W, Qw, Lw, b5⟩ := c126 (V := V1) (st87 hS) (st14 hS) (Or.inr (by decide)) (Or.inr rfl) tw1'
  subst b2
  have b3' : T2 = T := b3
  rw [b3'] at b1
  clear b3 b3'
  have t1 : zTri V2 79 K 1 0 E Qe Le := zTri_congr a5 (by rw [b4.1 79 (by decide)]) (fun k k1 k2 => b4.1 _ (by omega))
  have kp : ∀ r, r < 79 ∨ 92 < r → V2 r = V r := fun r hr => by rw [b4.1 r (by omega), a4.1 r (by omega)]
  have l1 := hg.2.2.1.2.2.1
  have qq := hg.2.1
  have pw := hg.2.2.2.2.2.1
  obtain ⟨T3, V3, p', m', c1, c2, c3, c4, c5, c6, c7, c8⟩ := c106 (V := V2) (E := E) (W := W) hS hg (by rw [kp p (by omega)]; exact hp) t1.1 b5.1
  have hx : zHx T T3 zCx := zHx_m c6.1 (fun x k _ z => Or.inr (Or.inr ⟨z.1, by omega⟩))
  have tr : ∀ r, 79 ≤ r → r ≤ 94 → V3 r = V2 r := fun r r1 r2 => c6.2.2 r (by omega) (by omega) (by omega)
  have i55 : zI55 T3 := fun k hk => by
    rw [hx.2.2 55 k (by omega) (fun z => by unfold zCx at z; omega)]
    exact h.i55 k hk
  have hws : zWs T3 V3 q1 q2 g1 g2 n1 n2 p' m' K 1 E W Qe Qw Le Lw 0 := ⟨c2, c3, c5, c4, zTri_congr t1 (by rw [tr 79 (by decide) (by decide)]) (fun k k1 k2 => tr _ (by omega) (by omega)), zTri_congr b5 (by rw [tr 87 (by decide) (by decide)]) (fun k k1 k2 => tr _ (by omega) (by omega)), c7, i55⟩
  have hr : ∀ r, zKr T r ∨ (113 ≤ r ∧ r ≤ 119) → V3 r = V r := fun r hr => by
    obtain ⟨k1, k2, k3, k4, k5, k6⟩ := zKr_g hs hg h.i55 hr
    rw [c6.2.2 r k1 k2.1 k4]
    refine kp r ?_
    rcases hr with (z | z | z | ⟨k, hk2, z0, z1, z2⟩) | z
    · omega
    · omega
    · omega
    · have := h.i55 k hk2 z0
      omega
    · omega
  have hl3 : zPL V3 71 := zPL_congr (fun d d1 d2 => hr _ (Or.inl (Or.inl (by omega)))) h.pl
  have w0 := zWu_0 (T0 := T) (V0 := V) (A := zAl (V 132) N cell st) (B := zBl (V 132) N cell st) (N := N) (cell := cell) hws hx (fun r h1 _ => hr r h1) hl3 c8
  rw [e125, b125_0 hS, a1]
  simp only [Option.bind_some, zpush9]
  rw [b125_18 hS, b1]
  simp only [Option.bind_some, zpush9]
  rw [b125_36 hS, c1]
  simp only [Option.bind_some, zpush9]
  rw [b125_43]
  refine zup (α := zT × zM) (fun i s => zWu T V K (zAl (V 132) N cell st) (zBl (V 132) N cell st) N cell E W Qe Qw Le Lw i s.1 s.2) (fun i s => zwp (ev 125 45 [(2, 0), (0, cell), (0, st), (0, i)] [] s.1 s.2) fun r T' V' => r = (9, 0) ∧ zJ n T' V' ∧ V' 132 = V 132 ∧ V' 123 0 = min 1000000000000 (zW K 1 (zAl (V 132) N cell st) N.toNat 0 0) ∧ (0 ≤ cell ∧ cell < N → (0 ≤ V' 127 0 ∧ V' 127 0 < 16384) ∧ ∀ j : Nat, j < 14 → (zbt (V' 127 0) j ↔ 0 < zW K 1 (zBl (V 132) N cell st j) N.toNat 0 0))) (lo := 0) (hi := N) (by omega) ?_ ?_ (T3, V3) w0
  · rintro ⟨T4, V4⟩ ⟨q1, q2, g1, g2, n1, n2, p, m, hw, hx, hr, hpl, l1, l2⟩
    show zwp (ev 125 45 [(2, 0), (0, cell), (0, st), (0, N)] [] T4 V4) _
    replace hw : zWs T4 V4 q1 q2 g1 g2 n1 n2 p m K 1 E W Qe Qw Le Lw N := hw
    replace hx : zHx T T4 zCx := hx
    replace hr : ∀ r, zKr T r ∨ (113 ≤ r ∧ r ≤ 119) → ¬ (71 ≤ r ∧ r ≤ 76) → V4 r = V r := hr
    replace hpl : zPL V4 71 := hpl
    obtain ⟨V5, e2, w2, ga, ee, f2, f3⟩ := zWs_gather (g3 := 120) (n3 := 1) (j := 0) hw (by omega) (zfound hw.1) (by decide) (by decide)
    have hF := hw.2.2.2.2.2.2.1
    have v1 : V4 1 0 = N := by rw [hr 1 (Or.inl (Or.inl (by decide))) (by decide)]; exact hsn
    rw [b125_45 hw.1, v1, if_pos (by omega), b125_90 hw.1, e2]
    simp only [Option.bind_some, zpush9]
    rw [b125_102]
    have z0 : ∀ r, zKr T r ∨ (113 ≤ r ∧ r ≤ 119) → ¬ (71 ≤ r ∧ r ≤ 76) → ¬ (120 ≤ r ∧ r ≤ 127) → V5 r = V r := fun r h1 h2 h3 => by rw [ga.1 r (by omega), hr r h1 h2]
    have pw := hw.2.1.2.2.2.2.2.1
    have ez : zW (fun _ => 0) 0 (zAl (V 132) N cell st) 0 0 0 = 1 := by rw [zW]; exact zif_t ⟨zfin0 0, zfin0 1⟩
    have c1 := (f3 zoc 0 (fun c _ _ _ _ e w => min 1000000000000 (c * zW (fun _ => 0) 0 (zAl (V 132) N cell st) 0 e w)) zoc_mo (zObs_cnt (fun _ => 0) 0 (zAl (V 132) N cell st) 0 N) 0 0).trans (zEnd_cnt hF)
    rw [show (N - N).toNat = 0 by omega] at l1
    have c2 : min 1000000000000 (V5 123 0 * zW (fun _ => 0) 0 (zAl (V 132) N cell st) 0 0 0) = min 1000000000000 (zW K 1 (zAl (V 132) N cell st) N.toNat 0 0) := c1.trans l1
    rw [ez, Int.mul_one] at c2
    have ee2 : zEv N (V5 123 0) (V5 124 0) (V5 125 0) (V5 126 0) (V5 127 0) ∨ zEb (V5 123 0) (V5 124 0) (V5 125 0) (V5 126 0) (V5 127 0) := ee
    have rng : V5 123 0 ≤ 1000000000000 ∧ 0 ≤ V5 127 0 ∧ V5 127 0 < 16384 := by
      rcases ee2 with z | z
      · have := z.1; have := z.2.2.2; omega
      · have := z.1; have := z.2.2.2.2; omega
    refine zwp_ret ⟨rfl, zJ_x2 h w2.1 ⟨q1, q2, g1, g2, n1, n2, p, m, zGeo1_of hw.2.1 (by rw [ga.1 p (by omega)]; exact hw.2.2.1)⟩ hx z0 (zPL_congr (fun d d1 d2 => ga.1 _ (by omega)) hpl), z0 132 (Or.inl (Or.inr (Or.inr (Or.inl (by decide))))) (by decide) (by decide), by omega, fun hc => ⟨rng.2, fun j hj => ?_⟩⟩
    have m1 := (l2 hc j hj).2 hc.2
    rw [show (N - N).toNat = 0 by omega] at m1
    have m2 := f3 max 0 (fun _ _ _ _ m e w => zif (zbt m j ∧ True) 1 0) (zomax_mo 0) (zObs_bit j hj (fun _ _ => True) N) 0 0
    have m3 : zfo max 0 (zEnd V4 K 1 Qe Qw g1 0 (fun _ _ _ _ m e w => zif (zbt m j ∧ True) 1 0) 0 0) (V4 q1 0).toNat = zFo V4 max 0 (fun _ _ _ _ m e w => zif (zbt m j ∧ 0 < zW K 1 (zAl (V 132) N cell st) 0 e w) 1 0) q1 g1 Qe Qw := by
      unfold zFo
      refine zfo_congr fun i i1 i2 => ?_
      unfold zEnd zOo zOe
      simp only
      rw [zW, zif_and]
      refine zif_congr ⟨fun z => ⟨z.2.1, ?_⟩, fun z => ⟨?_, z.1, trivial⟩⟩ (fun _ => rfl) (fun _ => rfl)
      · rw [zif_t z.1]; decide
      · by_cases cf : zfin K 1 0 (Qe (V4 (g1 + 1) i)) ∧ zfin K 1 1 (Qw (V4 (g1 + 2) i))
        · exact cf
        · have := z.2
          rw [zif_f cf] at this
          exact absurd this (by decide)
    have m4 : zif (zbt (V5 127 0) j ∧ True) 1 0 = zif (0 < zW K 1 (zBl (V 132) N cell st j) N.toNat 0 0) 1 0 := m2.trans (m3.trans m1)
    by_cases cb : zbt (V5 127 0) j
    · rw [zif_t ⟨cb, trivial⟩] at m4
      refine ⟨fun _ => ?_, fun _ => cb⟩
      by_cases cw : 0 < zW K 1 (zBl (V 132) N cell st j) N.toNat 0 0
      · exact cw
      · rw [zif_f cw] at m4; exact absurd m4 (by decide)
    · rw [zif_f (fun z => cb z.1)] at m4
      refine ⟨fun z => absurd z cb, fun cw => ?_⟩
      rw [zif_t cw] at m4
      exact absurd m4 (by decide)
  · rintro i ⟨T4, V4⟩ i1 i2 hw next
    show zwp (ev 125 45 [(2, 0), (0, cell), (0, st), (0, i)] [] T4 V4) _
    replace hw : zWu T V K (zAl (V 132) N cell st) (zBl (V 132) N cell st) N cell E W Qe Qw Le Lw i T4 V4 := hw
    obtain ⟨V5, T6, V6, d1, d2, d3, d4, d5⟩ := zWu_s (q := if i = cell then 1 else 0) h hKe hN ⟨i1, i2⟩ rfl hw
    have v1 : V4 1 0 = N := by
      obtain ⟨q1, q2, g1, g2, n1, n2, p, m, -, -, hr, -⟩ := hw
      rw [hr 1 (Or.inl (Or.inl (by decide))) (by decide)]; exact hsn
    rw [b125_45 d3, v1, if_neg (by omega), b125_56]
    have fin : zwp (ev 125 68 [(2, 0), (0, cell), (0, st), (0, i)] [(0, if i = cell then 1 else 0), (0, i), (2, 0)] T4 V4) fun r T' V' => r = (9, 0) ∧ zJ n T' V' ∧ V' 132 = V 132 ∧ V' 123 0 = min 1000000000000 (zW K 1 (zAl (V 132) N cell st) N.toNat 0 0) ∧ (0 ≤ cell ∧ cell < N → (0 ≤ V' 127 0 ∧ V' 127 0 < 16384) ∧ ∀ j : Nat, j < 14 → (zbt (V' 127 0) j ↔ 0 < zW K 1 (zBl (V 132) N cell st j) N.toNat 0 0)) := by
      rw [b125_68 d3, d1]
      simp only [Option.bind_some, zpush9]
      rw [b125_72 d3, d2]
      simp only [Option.bind_some, zpush9]
      rw [b125_84 (by omega)]
      exact next (T6, V6) d5
    by_cases c : i = cell
    · rw [if_pos c] at fin
      rw [if_pos c, b125_63]
      exact fin
    · rw [if_neg c] at fin
      rw [if_neg c, b125_67]
      exact fin
end WALLS2
