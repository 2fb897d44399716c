/-! findTellings, whole -/
theorem zWt_0 {T0 T : zT} {V0 V : zM} {K Qe Qw : Int → Int} {E W : Int} {Le Lw : Int → List Int} {q1 q2 g1 g2 n1 n2 p m : Int} (hK : zcok K) (hw : zWs T V q1 q2 g1 g2 n1 n2 p m K 0 E W Qe Qw Le Lw 0) (hx : zHx T0 T zCx) (hr : ∀ r, zKr T0 r → V r = V0 r) (hf : ∀ op z O Qe Qw, zFo V op z O q1 g1 Qe Qw = op z (O 1 0 0 0 0 (Qe 0) (Qw 0))) : zWt T0 V0 K E W Qe Qw Le Lw 0 T V := by
  have e1 : Qe 0 = 0 := hw.2.2.2.2.1.2.1
  have e2 : Qw 0 = 0 := hw.2.2.2.2.2.1.2.1
  refine ⟨q1, q2, g1, g2, n1, n2, p, m, hw, hx, hr, fun r => ?_, fun r h => ?_, fun k k1 k2 => by omega⟩
  · rw [hf, e1, e2]
    have h0 := zW_pos K 0 (fun _ _ => True) r 0 0
    rw [show ((0 : Int).toNat + r) = r by omega]
    show zoc 0 (min 1000000000000 (1 * zW K 0 (fun _ _ => True) r 0 0)) = _
    rw [Int.one_mul]
    unfold zoc
    omega
  · rw [hf, e1, e2]
    have hb := zB_r hK r 0 0
    rw [show ((0 : Int).toNat + r) = r by omega]
    show min zinf (zO2 K 0 r 0 0 0 0 0) = _
    unfold zO2
    rw [zif_t (by decide), show zwall 0 0 0 = 0 from rfl, Int.zero_mul, Int.zero_mul]
    omega
theorem c101 {n : Int} {T : zT} {V : zM} (h : zJ n T V) : zwp (zcall 101 [(2, 0)] T V) fun r T' V' => r = (9, 0) ∧ zJ n T' V' ∧ V' 0 14 = 1 ∧ zHx T T' zCx ∧ (∀ r, zKr T r → r ≠ 0 → V' r = V r) ∧ ∀ j, j ≠ 14 → V' 0 j = V 0 j := by
  have hS := h.str
  have hs : 153 ≤ zsz T := hS.1
  rw [e101, b101_0 hS]
  have h14 := h.sc.2.2.2.1
  by_cases c : V 0 14 = 0
  · rw [if_pos c]
    obtain ⟨K, hKe⟩ : ∃ K, zkc (V 132) = K := ⟨_, rfl⟩
    have hK : zcok K := by rw [← hKe]; exact fun i i1 i2 => by rw [zkc_in (by omega)]; exact (h.ok.mir i1 i2).2
    have hP : zPT V 65 K (fun _ => True) (fun _ => 0) := by rw [← hKe]; exact h.pt
    have tw0 : zTw V 6 K 0 := by rw [← hKe]; exact zTw_of (Or.inl rfl) h.sr.east h.ok
    have tw1 : zTw V 14 K 1 := by rw [← hKe]; exact zTw_of (Or.inr rfl) h.sr.west h.ok
    obtain ⟨q1, q2, g1, g2, n1, n2, p, m, geo⟩ := h.geo
    obtain ⟨hg, hp⟩ := zGeo0_of geo
    obtain ⟨r1, T1, V1, a1, a2, a3, a4, E, Qe, Le, a5⟩ := c102 (V := V) (st79 hS) (st6 hS) (Or.inr (by decide)) (Or.inl rfl) tw0
    subst a2; subst a3
    have tw1' : zTw V1 14 K 1 := zTw_congr (fun d d1 d2 => a4.1 _ (by omega)) tw1
    obtain ⟨r2, T2, V2, b1, b2, b3, b4, W, Qw, Lw, b5⟩ := c102 (V := V1) (st87 hS) (st14 hS) (Or.inr (by decide)) (Or.inr rfl) tw1'
    subst b2; subst b3
    have t1 : zTri V2 79 K 0 0 E Qe Le := zTri_congr a5 (by rw [b4.1 79 (by decide)]) (fun k k1 k2 => b4.1 _ (by omega))
    have kp : ∀ r, r < 79 ∨ 92 < r → V2 r = V r := fun r hr => by rw [b4.1 r (by omega), a4.1 r (by omega)]
    have l1 := hg.2.2.1.2.2.1
    have qq := hg.2.1
    have pw := hg.2.2.2.2.2.1
    obtain ⟨T3, V3, p', m', c1, c2, c3, c4, c5, c6, c7, c8⟩ := c106 (V := V2) (E := E) (W := W) hS hg (by rw [kp p (by omega)]; exact hp) t1.1 b5.1
    have hx : zHx T2 T3 zCx := zHx_m c6.1 (fun x k _ z => Or.inr (Or.inr ⟨z.1, by omega⟩))
    have tr : ∀ r, 79 ≤ r → r ≤ 94 → V3 r = V2 r := fun r r1 r2 => c6.2.2 r (by omega) (by omega) (by omega)
    have i55 : zI55 T3 := fun k hk => by
      rw [hx.2.2 55 k (by omega) (fun z => by unfold zCx at z; omega)]
      exact h.i55 k hk
    have hws : zWs T3 V3 q1 q2 g1 g2 n1 n2 p' m' K 0 E W Qe Qw Le Lw 0 := ⟨c2, c3, c5, c4, zTri_congr t1 (by rw [tr 79 (by decide) (by decide)]) (fun k k1 k2 => tr _ (by omega) (by omega)), zTri_congr b5 (by rw [tr 87 (by decide) (by decide)]) (fun k k1 k2 => tr _ (by omega) (by omega)), c7, i55⟩
    have hr : ∀ r, zKr T2 r → V3 r = V r := fun r hr => by
      obtain ⟨k1, k2, k3, k4, k5, k6⟩ := zKr_g hs hg h.i55 (Or.inl hr)
      rw [c6.2.2 r k1 k2.1 k4]
      refine kp r ?_
      rcases hr with z | z | z | ⟨k, hk2, z0, z1, z2⟩
      · omega
      · omega
      · omega
      · have := h.i55 k hk2 z0
        omega
    have w0 := zWt_0 (T0 := T2) (V0 := V) hK hws hx hr c8
    rw [b101_8 hS, a1]
    simp only [Option.bind_some, zpush9]
    rw [b101_26 hS, b1]
    simp only [Option.bind_some, zpush9]
    rw [b101_44 hS, c1]
    simp only [Option.bind_some, zpush9]
    rw [b101_51]
    refine zup (α := zT × zM) (fun i s => zWt T2 V K E W Qe Qw Le Lw i s.1 s.2) (fun i s => zwp (ev 101 53 [(2, 0), (0, i)] [] s.1 s.2) fun r T' V' => r = (9, 0) ∧ zJ n T' V' ∧ V' 0 14 = 1 ∧ zHx T2 T' zCx ∧ (∀ r, zKr T2 r → r ≠ 0 → V' r = V r) ∧ ∀ j, j ≠ 14 → V' 0 j = V 0 j) (lo := 0) (hi := 16) (by decide) ?_ ?_ (T3, V3) w0
    · rintro ⟨T, V4⟩ ⟨q1, q2, g1, g2, n1, n2, p, m, hw, hx, hr, -, -, l3⟩
      show zwp (ev 101 53 [(2, 0), (0, 16)] [] T V4) _
      replace hr : ∀ r, zKr T2 r → V4 r = V r := hr
      replace hw : zWs T V4 q1 q2 g1 g2 n1 n2 p m K 0 E W Qe Qw Le Lw 16 := hw
      rw [b101_53, if_pos (by decide), b101_91 hw.1]
      have z0 : ∀ r, r ≠ 0 → zwr V4 0 14 1 r = V4 r := fun r hr => zwr_ne hr
      have e14 : zwr V4 0 14 1 0 14 = 1 := by rw [zwr_same, if_pos rfl]
      have ej : ∀ j, j ≠ 14 → zwr V4 0 14 1 0 j = V 0 j := fun j hj => by rw [zwr_same, if_neg hj, hr 0 (Or.inl (by decide))]
      have er : ∀ r, zKr T2 r → r ≠ 0 → zwr V4 0 14 1 r = V r := fun r h1 h2 => by rw [z0 r h2, hr r h1]
      have pw := hw.2.1.2.2.2.2.2.1
      refine zwp_ret ⟨rfl, zJ_x h hw.1 ⟨q1, q2, g1, g2, n1, n2, p, m, zGeo1_of hw.2.1 (by rw [z0 p (by omega)]; exact hw.2.2.1)⟩ hx er ej (Or.inr e14) (fun _ => ?_), e14, hx, er, ej⟩
      rw [hKe]
      intro k k1 k2
      rw [z0 115 (by decide), z0 116 (by decide), z0 117 (by decide), z0 118 (by decide)]
      exact l3 k k1 (by omega)
    · rintro i ⟨T, V4⟩ i1 i2 hw next
      show zwp (ev 101 53 [(2, 0), (0, i)] [] T V4) _
      have hT : zStr T := by obtain ⟨q1, q2, g1, g2, n1, n2, p, m, hw, -⟩ := hw; exact hw.1
      obtain ⟨T5, V5, V6, d1, d2, d3, d4⟩ := zWt_s hs hK hP (by omega) hw
      rw [b101_53, if_neg (by omega), b101_59 hT, d1]
      simp only [Option.bind_some, zpush9]
      rw [b101_71 d3 (by omega), d2]
      simp only [Option.bind_some, zpush9]
      rw [b101_85 (by omega)]
      exact next (T5, V6) d4
  · rw [if_neg c, b101_7]
    exact zwp_ret ⟨rfl, h, by omega, zHx_r T _, fun _ _ _ => rfl, fun _ _ => rfl⟩
