/-! tables: both sides -/
section TABLES2
variable {n : Int} {T : zT} {V : zM} {b : Int → Int} {m : Int}
theorem c164 {Q : zV → zT → zM → Prop} (hS : zStr T) (hB : zBy b m) (hw : zWd V) (hc : zBc V b m) (hm : V 130 12 = m) (hK : zKok (V 132)) (kont : ∀ W n', (∀ r, r ≠ 130 → r ≠ 135 → ¬ (139 ≤ r ∧ r ≤ 141) → W r = V r) → (∀ j, j ≠ 12 → j ≠ 17 → j ≠ 18 → j ≠ 19 → j ≠ 20 → j ≠ 21 → W 130 j = V 130 j) → W 130 12 = 0 → 1 ≤ n' → n' ≤ 25 → zOut W n' (zTel b m 24 0 0 (V 132)) → zwp (ev 164 125 [(2, 130), (0, n'), (9, 0)] [] T W) Q) : zwp (zcall 164 [(2, 130)] T V) Q := by
  have mm := hB.1
  have e20 : zwr V 130 20 (V 130 12) 130 12 = m := by rw [zwr_same, if_neg (by decide), hm]
  rw [e164, b164_0 hS, e20, hm]
  refine zwp_seq (c165 (V := zwr V 130 20 m) hS (fun j hj => by rw [zwr_ne (by decide)]; exact hw j hj) (fun j j1 j2 => by rw [zwr_ne (by decide)]; exact hc j j1 j2) mm) ?_
  rintro r T1 V1 ⟨rfl, rfl, a1, a2, N, a3, a4, a5, a6, a7, a8⟩
  simp only [zpush9]
  rw [b164_16 hS]
  obtain ⟨V2, hV2⟩ : ∃ V2, zwr (zwr (zwr V1 130 12 0) 130 18 0) 130 19 (-1) = V2 := ⟨_, rfl⟩
  rw [hV2]
  have r2 : ∀ r, r ≠ 130 → V2 r = V1 r := fun r hr => by rw [← hV2, zwr_ne hr, zwr_ne hr, zwr_ne hr]
  have j2 : ∀ j, V2 130 j = if j = 19 then -1 else if j = 18 then 0 else if j = 12 then 0 else V1 130 j := fun j => by rw [← hV2, zwr_same, zwr_same, zwr_same]
  have r1 : ∀ r, r ≠ 130 → ¬ (139 ≤ r ∧ r ≤ 141) → V1 r = V r := fun r q1 q2 => by rw [a1 r q1 q2, zwr_ne q1]
  have j1 : ∀ j, j ≠ 17 → j ≠ 20 → V1 130 j = V 130 j := fun j q1 q2 => by rw [a2 j q1, zwr_same, if_neg q2]
  have j20 : V1 130 20 = m := by rw [a2 20 (by decide), zwr_same, if_pos rfl]
  refine zup (α := zM) (fun i W => (∀ r, r ≠ 135 → W r = V2 r) ∧ ∀ j, 0 ≤ j → j < i → W 135 j = V 132 j) (fun i W => zwp (ev 164 33 [(2, 130), (0, i), (9, 0)] [] T1 W) Q) (lo := 0) (hi := 300) (by decide) ?_ ?_ V2 ⟨fun _ _ => rfl, fun j q1 q2 => by omega⟩
  · rintro W ⟨u1, u2⟩
    have ms : zMs W b m N 0 := by
      refine ⟨⟨?_, ?_, a4, a5, fun t ht => ?_, ?_, ?_, fun j q1 q2 => ?_⟩, ?_, ?_, by omega⟩
      · rw [u1 130 (by decide), j2, if_neg (by decide), if_neg (by decide), if_neg (by decide), j20]
      · rw [u1 130 (by decide), j2, if_neg (by decide), if_neg (by decide), if_neg (by decide), a3]
      · rw [u1 141 (by decide), u1 139 (by decide), u1 140 (by decide), r2 141 (by decide), r2 139 (by decide), r2 140 (by decide)]
        exact a6 t ht
      · rw [u1 141 (by decide), r2 141 (by decide), a7]
      · rw [u1 139 (by decide), r2 139 (by decide), a8]
      · rw [u1 137 (by decide), r2 137 (by decide), r1 137 (by decide) (by decide)]
        exact hc j q1 q2
      · rw [u1 130 (by decide), j2, if_neg (by decide), if_pos rfl]; rfl
      · rw [u1 130 (by decide), j2, if_pos rfl]
    have hd : zHd W (V 132) := fun i q1 q2 => u2 i q1 q2
    have rows : ∀ r, r ≠ 130 → r ≠ 135 → ¬ (139 ≤ r ∧ r ≤ 141) → W r = V r := fun r q1 q2 q3 => by rw [u1 r q2, r2 r q1, r1 r q1 q3]
    have r130 : ∀ j, j ≠ 12 → j ≠ 17 → j ≠ 18 → j ≠ 19 → j ≠ 20 → W 130 j = V 130 j := fun j q1 q2 q3 q4 q5 => by rw [u1 130 (by decide), j2, if_neg q4, if_neg q3, if_neg q1, j1 j q2 q5]
    have w12 : W 130 12 = 0 := by rw [u1 130 (by decide), j2, if_neg (by decide), if_neg (by decide), if_pos rfl]
    have ef : zTel b m 24 0 0 (V 132) = zfi ((zCla b m (V 132) 0).1 = -1) (zAft b m 23 1 (zCla b m (V 132) 0).2.1 (zCla b m (V 132) 0).2.2) ((zCla b m (V 132) 0).1, 0, V 132) := by
      rw [zTel]
      unfold zAft
      rfl
    rw [b164_33, if_pos (by decide), b164_58 hS]
    refine zwp_seq (c169 hS hB ms hd (fun g hg => (hK.many (by omega) (by omega)).1)) ?_
    rintro r T2 W2 ⟨rfl, rfl, d1, d2, d3⟩
    simp only [zpush9]
    rw [b164_62]
    have fin : ∀ W' n', zFm2 W W' → 1 ≤ n' → n' ≤ 25 → zOut W' n' (zTel b m 24 0 0 (V 132)) → zwp (ev 164 125 [(2, 130), (0, n'), (9, 0)] [] T2 W') Q := fun W' n' q1 q2 q3 q4 => kont W' n' (fun r s1 s2 s3 => by rw [q1.1 r s1 s2, rows r s1 s2 s3]) (fun j s1 s2 s3 s4 s5 s6 => by rw [q1.2 j s3 s4 s6, r130 j s1 s2 s3 s4 s5]) (by rw [q1.2 12 (by decide) (by decide) (by decide), w12]) q2 q3 q4
    rw [ef] at fin
    rcases d3 with ⟨c1, q1, q2⟩ | ⟨c1, q1⟩
    · rw [zfi_t c1] at fin
      exact c164l hS hB W 23 1 _ _ W2 (by decide) (by decide) ⟨d1, d2⟩ q1 q2 (zCla_ok hB hK c1) fin
    · rw [zfi_f c1] at fin
      refine c164f hS (by rw [q1]; exact c1) ?_
      exact fin W2 1 ⟨d1, d2⟩ (by decide) (by decide) (Or.inr ⟨c1, q1⟩)
  · rintro i W i1 i2 ⟨u1, u2⟩ next
    rw [b164_33, if_neg (by omega), b164_40 hS (by omega) (by omega) (by omega)]
    refine next _ ⟨fun r hr => by rw [zwr_ne hr, u1 r hr], fun j q1 q2 => ?_⟩
    rw [zwr_same, u1 132 (by decide), r2 132 (by decide), r1 132 (by decide) (by decide)]
    by_cases c : j = i
    · rw [if_pos c, c]
    · rw [if_neg c]; exact u2 j q1 (by omega)
theorem k_tables (h : zJ n T V) (hn : n < 1000) : zSame 0 37 164 [] n T V := by
  have hS := h.str
  have m3 := zJ_m3 h
  obtain ⟨⟨s1, s2, s3⟩, ⟨s4, s5, s6, s7⟩, s8, s9, s10, s11, s12⟩ := h.sc
  obtain ⟨t1, t2, t3⟩ := h.tape
  obtain ⟨b, hb⟩ : ∃ b, V 57 = b := ⟨_, rfl⟩
  obtain ⟨m, hm⟩ : ∃ m, V 130 12 = m := ⟨_, rfl⟩
  rw [hm] at t1 t2 t3
  have hB : zBy b m := ⟨t2, fun j j1 j2 => by have := t3 j j1 j2; rw [hb] at this; omega⟩
  have hC : zBc V b m := fun j j1 j2 => by have := t3 j j1 j2; rw [hb] at this; exact this
  obtain ⟨R, hR⟩ : ∃ R, zTel b m 24 0 0 (V 132) = R := ⟨_, rfl⟩
  unfold zSame
  rw [e37, b37_0 hS]
  refine zwp_seq (c38 (st28 hS) (st1 hS) (Or.inr (by decide)) h.sr) ?_
  rintro r T1 V1 ⟨rfl, rfl, a1, a2⟩
  simp only [zpush9]
  rw [b37_11 hS]
  refine zwp_seq (c42 (b := b) (m := m) (K := V 132) hS hB (by rw [a1 57 (by decide), hb]) (by rw [a1 56 (by decide), t1]) a2 h.ok) ?_
  rintro r T2 V2 ⟨rfl, d1, y, rfl, d2⟩
  rw [hR] at d2
  simp only [zpush0]
  have k2 : ∀ r, r ≠ 58 → ¬ (28 ≤ r ∧ r ≤ 54) → V2 r = V r := fun r q1 q2 => by rw [d1 r q1 q2, a1 r (by omega)]
  rw [b37_18 hS]
  obtain ⟨V3, hV3⟩ : ∃ V3, zwr (zwr V2 0 15 (V2 58 5)) 56 1 0 = V3 := ⟨_, rfl⟩
  rw [hV3]
  have k3 : ∀ r, r ≠ 0 → r ≠ 56 → V3 r = V2 r := fun r q1 q2 => by rw [← hV3, zwr_ne q2, zwr_ne q1]
  have k30 : ∀ j, V3 0 j = if j = 15 then V2 58 5 else V 0 j := fun j => by rw [← hV3, zwr_ne (by decide), zwr_same, k2 0 (by decide) (by decide)]
  have k36 : ∀ j, V3 56 j = if j = 1 then 0 else V 56 j := fun j => by rw [← hV3, zwr_same, zwr_ne (by decide), k2 56 (by decide) (by decide)]
  have kk : ∀ r, r ≠ 0 → r ≠ 56 → r ≠ 58 → ¬ (28 ≤ r ∧ r ≤ 54) → V3 r = V r := fun r q1 q2 q3 q4 => by rw [k3 r q1 q2, k2 r q3 q4]
  rcases d2 with ⟨f1, f2, f3, f4, f5, f6⟩ | ⟨f1, f2, f3⟩
  · -- told
    have okR : zKok R.2.2 := by rw [← hR]; exact zTel_ok hB 24 0 0 _ h.ok (by rw [hR]; exact f1)
    have hiR : ∀ i, 300 ≤ i → R.2.2 i = V 132 i := fun i hi => by rw [← hR]; exact zTel_hi hB 24 0 0 _ h.ok i hi
    rw [if_neg (by omega), b37_50 hS]
    refine zwp_seq (c38 (st1 hS) (st28 hS) (Or.inl (by decide)) (zSR_congr (fun d q1 q2 => k3 _ (by omega) (by omega)) f3)) ?_
    rintro r T4 V4 ⟨rfl, rfl, g1, g2⟩
    simp only [zpush9]
    rw [b37_61 hS]
    refine zwp_seq (c15 hS g2 okR ⟨?_, ?_, ?_⟩ (zPL_congr (fun d q1 q2 => by rw [g1 _ (by omega), kk _ (by omega) (by omega) (by omega) (by omega)]) h.pt.1)) ?_
    · rw [g1 62 (by omega), kk 62 (by decide) (by decide) (by decide) (by decide), (h.rd.1 0 (by decide) (by decide)).2.2, zcst_0]
    · rw [g1 63 (by omega), kk 63 (by decide) (by decide) (by decide) (by decide)]; exact h.rd.2.1
    · rw [g1 64 (by omega), kk 64 (by decide) (by decide) (by decide) (by decide)]; exact h.rd.2.2
    rintro r T5 V5 ⟨rfl, rfl, i1, i2, i3, i4, i5⟩
    simp only [zpush9]
    rw [b37_65 hS, c26 hS]
    simp only [Option.bind_some, zpush0]
    rw [b37_70]
    refine zwp_ret ?_
    obtain ⟨U, hU⟩ : ∃ U, zwr V5 0 17 0 = U := ⟨_, rfl⟩
    rw [hU]
    have uR : ∀ r, 27 < r → (r < 60 ∨ 70 < r) → r ≠ 56 → r ≠ 58 → ¬ (28 ≤ r ∧ r ≤ 54) → U r = V r := fun r q1 q2 q3 q4 q5 => by rw [← hU, zwr_ne (by omega), i1 r q2 (by omega), g1 r (by omega), kk r (by omega) q3 q4 q5]
    have u0 : ∀ j, U 0 j = if j = 17 then 0 else if j = 14 then 0 else if j = 15 then -1 else V 0 j := fun j => by
      rw [← hU, zwr_same]
      by_cases c17 : j = 17
      · rw [if_pos c17, if_pos c17]
      · rw [if_neg c17, if_neg c17]
        by_cases c14 : j = 14
        · rw [if_pos c14, c14, i3]
        · rw [if_neg c14, i2 j c14, g1 0 (by omega), k30, f4]
    have u56 : U 56 1 = 0 := by rw [← hU, zwr_ne (by decide), i1 56 (by decide) (by decide), g1 56 (by omega), k36, if_pos rfl]
    have e132 := uR 132 (by decide) (by decide) (by decide) (by decide) (by decide)
    have e130 := uR 130 (by decide) (by decide) (by decide) (by decide) (by decide)
    refine c164 (b := b) (m := m) hS hB (fun j hj => by rw [uR 136 (by decide) (by decide) (by decide) (by decide) (by decide)]; exact h.wd j hj) (fun j j1 j2 => by rw [uR 137 (by decide) (by decide) (by decide) (by decide) (by decide)]; exact hC j j1 j2) (by rw [e130, hm]) (by rw [e132]; exact h.ok) (fun W n' w1 w2 w3 w4 w5 w6 => ?_)
    rw [e132, hR] at w6
    rcases w6 with ⟨-, w6, w7, w8⟩ | ⟨w6, -⟩
    · have w19 : zwr W 130 13 (W 130 19) 130 19 = -1 := by rw [zwr_same, if_neg (by decide), w7]
      rw [b164_125 hS, c171 hS w19]
      simp only [Option.bind_some, zpush0]
      rw [b164_137, if_neg (by decide), b164_147, w7]
      obtain ⟨X, hX⟩ : ∃ X, zwr W 130 13 (-1) = X := ⟨_, rfl⟩
      rw [hX]
      have x1 : ∀ r, r ≠ 130 → X r = W r := fun r hr => by rw [← hX, zwr_ne hr]
      have x2 : ∀ j, X 130 j = if j = 13 then -1 else W 130 j := fun j => by rw [← hX, zwr_same]
      refine zup (α := zM) (fun i Y => (∀ r, r ≠ 132 → Y r = X r) ∧ (∀ j, 0 ≤ j → j < i → Y 132 j = R.2.2 j) ∧ ∀ j, i ≤ j → Y 132 j = V 132 j) (fun i Y => zwp (ev 164 149 [(2, 130), (0, n'), (0, i)] [] T5 Y) fun r' T2 V2 => (∃ x, ((0, y) : zV) = (0, x) ∧ r' = (0, x)) ∧ zJ (n + 1) T2 V2) (lo := 0) (hi := 300) (by decide) ?_ ?_ X ⟨fun _ _ => rfl, fun j q1 q2 => by omega, fun j _ => by rw [x1 132 (by decide), w1 132 (by decide) (by decide) (by decide), e132]⟩
      · rintro Y ⟨y1, y2, y3⟩
        have y1t : Y 130 1 = V 130 1 := by rw [y1 130 (by decide), x2, if_neg (by decide), w2 1 (by decide) (by decide) (by decide) (by decide) (by decide) (by decide), e130]
        rw [b164_149, if_pos (by decide), b164_174 hS (by rw [y1t]; omega), c152 hS, y1t]
        simp only [Option.bind_some, zpush0]
        rw [b164_189]
        obtain ⟨Z, hZ⟩ : ∃ Z, zwr (zwr Y 130 1 (V 130 1 + 1)) 130 0 0 = Z := ⟨_, rfl⟩
        rw [hZ]
        have z1 : ∀ r, r ≠ 130 → Z r = Y r := fun r hr => by rw [← hZ, zwr_ne hr, zwr_ne hr]
        have z2 : ∀ j, Z 130 j = if j = 0 then 0 else if j = 1 then V 130 1 + 1 else Y 130 j := fun j => by rw [← hZ, zwr_same, zwr_same]
        have zr : ∀ r, r ≠ 130 → r ≠ 132 → r ≠ 135 → ¬ (139 ≤ r ∧ r ≤ 141) → Z r = U r := fun r q1 q2 q3 q4 => by rw [z1 r q1, y1 r q2, x1 r q1, w1 r q1 q3 q4]
        have z130 : ∀ j, j ≠ 0 → j ≠ 1 → j ≠ 13 → j ≠ 12 → j ≠ 17 → j ≠ 18 → j ≠ 19 → j ≠ 20 → j ≠ 21 → Z 130 j = V 130 j := fun j q0 q1 q13 q12 q17 q18 q19 q20 q21 => by rw [z2, if_neg q0, if_neg q1, y1 130 (by decide), x2, if_neg q13, w2 j q12 q17 q18 q19 q20 q21, e130]
        have z12 : Z 130 12 = 0 := by rw [z2, if_neg (by decide), if_neg (by decide), y1 130 (by decide), x2, if_neg (by decide), w3]
        have z13 : Z 130 13 = -1 := by rw [z2, if_neg (by decide), if_neg (by decide), y1 130 (by decide), x2, if_pos rfl]
        have zK : ∀ i, 0 ≤ i → i < 428 → Z 132 i = R.2.2 i := fun i q1 q2 => by
          rw [z1 132 (by decide)]
          by_cases c : i < 300
          · exact y2 i q1 c
          · rw [y3 i (by omega), hiR i (by omega)]
        refine zwp_ret ⟨⟨y, rfl, by rw [f2, w6]⟩, zJ_new h (K := Z 132) (fun r hr => ?_) rfl ?_ (zKok_x okR zK) ?_ ?_ ?_ ?_ ?_ ?_⟩
        · rw [zr r (by omega) (by omega) (by omega) (by omega), uR r (by omega) (by omega) (by omega) (by omega) (by omega)]
        · refine zSR_x (K := R.2.2) (zSR_congr (fun d q1 q2 => ?_) g2) zK
          rw [zr _ (by omega) (by omega) (by omega) (by omega), ← hU, zwr_ne (by omega), i1 _ (by omega) (by omega)]
        · refine ⟨by rw [zr 56 (by decide) (by decide) (by decide) (by decide), u56, z12], by rw [z12]; decide, fun j q1 q2 => by rw [z12] at q2; omega⟩
        · unfold zSc
          rw [z13, z130 8 (by decide) (by decide) (by decide) (by decide) (by decide) (by decide) (by decide) (by decide) (by decide), z130 2 (by decide) (by decide) (by decide) (by decide) (by decide) (by decide) (by decide) (by decide) (by decide), zr 0 (by decide) (by decide) (by decide) (by decide), zr 129 (by decide) (by decide) (by decide) (by decide), zr 131 (by decide) (by decide) (by decide) (by decide), uR 129 (by decide) (by decide) (by decide) (by decide) (by decide), uR 131 (by decide) (by decide) (by decide) (by decide) (by decide), z2 0, if_pos rfl, z2 1, if_neg (by decide), if_pos rfl, u0 15, u0 16, u0 17, u0 14]
          simp
          omega
        · refine zRd_congr (fun r q1 q2 => ?_) (zRd_k (K := R.2.2) (fun i q1 q2 => zK i q1 (by omega)) i4)
          rw [zr r (by omega) (by omega) (by omega) (by omega), ← hU, zwr_ne (by omega)]
        · refine zPT_congr (fun d q1 q2 => ?_) (zPT_k (K := R.2.2) (fun i q1 q2 => zK i q1 (by omega)) i5)
          rw [zr _ (by omega) (by omega) (by omega) (by omega), ← hU, zwr_ne (by omega)]
        · rw [zr 0 (by decide) (by decide) (by decide) (by decide), u0, if_neg (by decide), if_pos rfl]
        · rw [z130 2 (by decide) (by decide) (by decide) (by decide) (by decide) (by decide) (by decide) (by decide) (by decide), z2 1, if_neg (by decide), if_pos rfl]
          omega
      · rintro i Y q1 q2 ⟨y1, y2, y3⟩ next
        have y135 : Y 135 i = R.2.2 i := by rw [y1 135 (by decide), x1 135 (by decide)]; exact w8 i q1 q2
        rw [b164_149, if_neg (by omega), b164_156 hS (by omega) (by omega) (by omega), y135]
        refine next _ ⟨fun r hr => by rw [zwr_ne hr, y1 r hr], fun j j1 j2 => ?_, fun j hj => by rw [zwr_same, if_neg (by omega), y3 j (by omega)]⟩
        rw [zwr_same]
        by_cases c : j = i
        · rw [if_pos c, c]
        · rw [if_neg c]; exact y2 j j1 (by omega)
    · exact absurd f1 w6
  · -- a fault
    have e129 : V3 129 = V 129 := kk 129 (by decide) (by decide) (by decide) (by decide)
    rw [if_pos f2, b37_43 hS, c24_3 hS (by rw [e129]; exact m3.1), e129]
    simp only [Option.bind_some, zpush0]
    rw [b37_49]
    refine zwp_ret ?_
    obtain ⟨U, hU⟩ : ∃ U, zwr (zwr V3 0 17 (-6)) 129 3 (V 129 3 + 1) = U := ⟨_, rfl⟩
    rw [hU]
    have uR : ∀ r, r ≠ 0 → r ≠ 129 → r ≠ 56 → r ≠ 58 → ¬ (28 ≤ r ∧ r ≤ 54) → U r = V r := fun r q1 q2 q3 q4 q5 => by rw [← hU, zwr_ne q2, zwr_ne q1, kk r q1 q3 q4 q5]
    have u0 : ∀ j, U 0 j = if j = 17 then -6 else if j = 15 then R.1 else V 0 j := fun j => by rw [← hU, zwr_ne (by decide), zwr_same, k30, f3]
    have u129 : ∀ j, U 129 j = if j = 3 then V 129 3 + 1 else V 129 j := fun j => by rw [← hU, zwr_same, zwr_ne (by decide), e129]
    have u56 : U 56 1 = 0 := by rw [← hU, zwr_ne (by decide), zwr_ne (by decide), k36, if_pos rfl]
    have e132 := uR 132 (by decide) (by decide) (by decide) (by decide) (by decide)
    have e130 := uR 130 (by decide) (by decide) (by decide) (by decide) (by decide)
    refine c164 (b := b) (m := m) hS hB (fun j hj => by rw [uR 136 (by decide) (by decide) (by decide) (by decide) (by decide)]; exact h.wd j hj) (fun j j1 j2 => by rw [uR 137 (by decide) (by decide) (by decide) (by decide) (by decide)]; exact hC j j1 j2) (by rw [e130, hm]) (by rw [e132]; exact h.ok) (fun W n' w1 w2 w3 w4 w5 w6 => ?_)
    rw [e132, hR] at w6
    rcases w6 with ⟨w6, -⟩ | ⟨-, w6⟩
    · exact absurd w6 f1
    · have w19 : zwr W 130 13 (W 130 19) 130 19 = R.1 := by rw [zwr_same, if_neg (by decide), w6]
      have w131 : zwr W 130 13 (W 130 19) 131 = V 131 := by rw [zwr_ne (by decide), w1 131 (by decide) (by decide) (by decide), uR 131 (by decide) (by decide) (by decide) (by decide) (by decide)]
      rw [b164_125 hS, c171n hS (by rw [w19]; exact f1)]
      simp only [Option.bind_some, zpush0]
      rw [b164_137, if_pos rfl, b164_140 hS, c151_3 hS (by rw [w131]; exact m3.2), w131, w6]
      simp only [Option.bind_some, zpush0]
      rw [b164_146]
      obtain ⟨Z, hZ⟩ : ∃ Z, zwr (zwr (zwr W 130 13 R.1) 130 0 (-6)) 131 6 (V 131 6 + 1) = Z := ⟨_, rfl⟩
      rw [hZ]
      have zr : ∀ r, r ≠ 130 → r ≠ 131 → r ≠ 135 → ¬ (139 ≤ r ∧ r ≤ 141) → Z r = U r := fun r q1 q2 q3 q4 => by rw [← hZ, zwr_ne q2, zwr_ne q1, zwr_ne q1, w1 r q1 q3 q4]
      have z131 : ∀ j, Z 131 j = if j = 6 then V 131 6 + 1 else V 131 j := fun j => by rw [← hZ, zwr_same, zwr_ne (by decide), zwr_ne (by decide), w1 131 (by decide) (by decide) (by decide), uR 131 (by decide) (by decide) (by decide) (by decide) (by decide)]
      have z130 : ∀ j, Z 130 j = if j = 0 then -6 else if j = 13 then R.1 else W 130 j := fun j => by rw [← hZ, zwr_ne (by decide), zwr_same, zwr_same]
      have zw : ∀ j, j = 1 ∨ j = 2 ∨ j = 8 → Z 130 j = V 130 j := fun j hj => by rw [z130, if_neg (by omega), if_neg (by omega), w2 j (by omega) (by omega) (by omega) (by omega) (by omega) (by omega), e130]
      have z12 : Z 130 12 = 0 := by rw [z130, if_neg (by decide), if_neg (by decide), w3]
      refine zwp_ret ⟨⟨_, rfl, rfl⟩, zJ_same h (fun r hr => ?_) ?_ ?_ ?_ ?_⟩
      · unfold zkeep at hr
        rw [zr r (by omega) (by omega) (by omega) (by omega), uR r (by omega) (by omega) (by omega) (by omega) (by omega)]
      · exact ⟨by rw [zr 56 (by decide) (by decide) (by decide) (by decide), u56, z12], by rw [z12]; decide, fun j q1 q2 => by rw [z12] at q2; omega⟩
      · unfold zSc
        rw [zw 8 (by decide), zw 1 (by decide), zw 2 (by decide), z130 0, if_pos rfl, z130 13, if_neg (by decide), if_pos rfl, zr 0 (by decide) (by decide) (by decide) (by decide), zr 129 (by decide) (by decide) (by decide) (by decide), u0 15, u0 16, u0 17, u0 14, z131 1, z131 2, z131 5, z131 6, u129 0, u129 1, u129 2, u129 3]
        simp
        omega
      · rw [zr 0 (by decide) (by decide) (by decide) (by decide), u0, if_neg (by decide), if_neg (by decide)]; exact id
      · rw [zw 1 (by decide), zw 2 (by decide)]; exact id
end TABLES2
