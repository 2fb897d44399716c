/-! the law's start comes to step 0 -/
section START2
variable {V V1 W : zM} {T T1 : zT}
theorem zJ_start (h1 : zHp (fun _ _ => 0) zs1_e T1 V1) (w1 : ∀ r, r < 60 ∨ 70 < r → r ≠ 0 → W r = V1 r) (w2 : ∀ j, j ≠ 14 → W 0 j = V1 0 j) (w3 : W 0 14 = 0) (w4 : zRd W zK0) (w5 : zPT W 65 zK0 (fun _ => True) (fun _ => 0))
    (h : zHp (fun a k => if a < 130 then W a k else 0) zs2_e T V) : zJ 0 T V := by
  have d : ∀ a k : Int, 0 ≤ a → a < 130 → V a k = W a k := fun a k a1 a2 => by rw [zV2 h (by omega) (by omega), if_pos a2]
  have dr : ∀ a : Int, 0 ≤ a → a < 130 → V a = W a := fun a a1 a2 => funext fun k => d a k a1 a2
  have z : ∀ a k : Int, 130 ≤ a → a < 153 → a ≠ 130 → a ≠ 132 → a ≠ 136 → V a k = 0 := fun a k a1 a2 b1 b2 b3 => by rw [zV2 h (by omega) ⟨b1, b2, b3⟩, if_neg (by omega)]
  have nz : ∀ (a k : Int), 130 ≤ a → a < 153 → V a k = zlk zs2_e.2.2 a k 0 := fun a k a1 a2 => by
    rw [h.num k ⟨by omega, by rw [zs2_len]; omega⟩, if_neg (by omega)]
  have k0 : ∀ i, 0 ≤ i → i < 428 → V 132 i = zK0 i := fun i i1 i2 => by
    obtain ⟨j, rfl⟩ : ∃ j : Nat, i = j := ⟨i.toNat, by omega⟩
    rw [nz 132 _ (by decide) (by decide)]
    exact zs2_k0 j (by omega)
  have kc : ∀ i, 0 ≤ i → i < 300 → zkc (V 132) i = zK0 i := fun i i1 i2 => by
    unfold zkc
    rw [if_pos (Or.inl ⟨i1, i2⟩), k0 i i1 (by omega)]
  have f0 : ∀ j, j ≠ 14 → V 0 j = zlk zs1_e.2.2 0 j 0 := fun j hj => by
    rw [d 0 j (by decide) (by decide), w2 j hj, h1.num j ⟨by decide, by rw [zs1_len]; decide⟩]
  have f129 : ∀ j, V 129 j = 0 := fun j => by
    rw [d 129 j (by decide) (by decide), w1 129 (by decide) (by decide)]
    exact zV1 h1 (by decide) (by decide)
  have f131 : ∀ j, V 131 j = 0 := fun j => z 131 j (by decide) (by decide) (by decide) (by decide) (by decide)
  have f130 : ∀ j, V 130 j = zlk zs2_e.2.2 130 j 0 := fun j => nz 130 j (by decide) (by decide)
  have g1 : V 130 1 = 0 := (f130 1).trans (by decide +kernel)
  have g2 : V 130 2 = -1 := (f130 2).trans (by decide +kernel)
  have g12 : V 130 12 = 0 := (f130 12).trans (by decide +kernel)
  have f14 : V 0 14 = 0 := by rw [d 0 14 (by decide) (by decide), w3]
  refine ⟨zs2_str h, zs2_geo h, ?_, zKok_x zK0_ok k0, ?_, ?_, ?_, ?_, ?_, ?_, ?_, ⟨?_, ?_⟩, ?_⟩
  · refine zSR_x (K := zK0) (zSR_congr (V := V1) (fun e e1 e2 => ?_) (zV1_sr h1)) k0
    rw [dr _ (by omega) (by omega), w1 _ (by omega) (by omega)]
  · refine ⟨?_, by rw [g12]; decide, fun j j1 j2 => by rw [g12] at j2; omega⟩
    rw [g12, d 56 1 (by decide) (by decide), w1 56 (by decide) (by decide)]
    exact zV1 h1 (by decide) (by decide)
  · refine ⟨⟨?_, ?_, ?_⟩, ⟨?_, ?_, ?_, ?_⟩, ⟨?_, ?_, ?_, ?_⟩, Or.inl f14, ?_, ?_, by decide⟩
    · rw [f0 15 (by decide), f130 13]; decide +kernel
    · rw [f0 16 (by decide), f130 8]; decide +kernel
    · rw [f0 17 (by decide), f130 0]; decide +kernel
    · rw [f129, f131]
    · rw [f129, f131]
    · rw [f129, f131]
    · rw [f129, f131]
    · rw [f131]; decide
    · rw [f131]; decide
    · rw [f131]; decide
    · rw [f131]; decide
    · rw [g1]; decide
    · rw [g1, g2]; decide
  · exact zRd_k kc (zRd_congr (fun r r1 r2 => dr r (by omega) (by omega)) w4)
  · exact zPT_k kc (zPT_congr (fun e e1 e2 => dr _ (by omega) (by omega)) w5)
  · refine zPL_0 (fun a k a1 a2 => ?_)
    rw [d a k (by omega) (by omega), w1 a (by omega) (by omega)]
    exact zV1 h1 (by omega) (by omega)
  · intro q
    rw [f14] at q
    exact absurd q (by decide)
  · intro q
    rw [g1, g2] at q
    exact absurd q (by decide)
  · exact Or.inl ⟨z 134 0 (by decide) (by decide) (by decide) (by decide) (by decide), (h.pt (a := 55) (k := 0) ⟨by decide, by rw [zs2_len]; decide⟩ rfl).trans (by decide +kernel)⟩
  · exact Or.inl ⟨z 134 1 (by decide) (by decide) (by decide) (by decide) (by decide), (h.pt (a := 55) (k := 1) ⟨by decide, by rw [zs2_len]; decide⟩ rfl).trans (by decide +kernel)⟩
  · intro j hj
    rw [nz 136 _ (by decide) (by decide)]
    exact zs2_wd j hj
end START2
theorem z_begin : zBegin := by
  intro T V hT1 hT2 hp
  have s0 : zsz T = 0 := by unfold zsz; rw [hT1]; rfl
  have h0 : zHp (fun _ _ => 0) ([], [], []) T V := ⟨hT1, hT2, fun i hi => absurd hi (Nat.not_lt_zero _), fun a k a1 a2 => by have a2 : a < ((0 : Nat) : Int) := a2; omega, fun a k a1 a2 => by have a2 : a < ((0 : Nat) : Int) := a2; omega, ⟨fun e he => absurd he List.not_mem_nil, fun e he => absurd he List.not_mem_nil⟩, fun _ _ _ => rfl⟩
  have f1 : zFrx T V (zn T 21 18, zs V (zsz T) (fun _ => 0)) := zFrx_n
  have h1 : zHp (fun _ _ => 0) zs1_0 (zn T 21 18) (zs V (zsz T) (fun _ => 0)) := zHp_n (c := 21) (n := 18) h0
  have o1 : zO (zn T 21 18) (zsz T) 11 := zO_new (by decide)
  rw [s0] at o1 h1 f1
  have e0 := b0_0 (T := T) (V := V)
  rw [s0] at e0
  -- the class
  have c1 : zwp (zcall 1 [(2, 0)] (zn T 21 18) (zs V 0 (fun _ => 0))) fun r T1 W => r = (9, 0) ∧ ∃ V1, zHp (fun _ _ => 0) zs1_e T1 V1 ∧ (∀ r, r < 60 ∨ 70 < r → r ≠ 0 → W r = V1 r) ∧ (∀ j, j ≠ 14 → W 0 j = V1 0 j) ∧ W 0 14 = 0 ∧ zRd W zK0 ∧ zPT W 65 zK0 (fun _ => True) (fun _ => 0) := by
    refine zh1 h1 o1 (fun T1 V1 g => ?_)
    refine zwp_seq (c15_q ⟨V1, g⟩ (zV1_sr g) zK0_ok ⟨zV1 g (by decide) (by decide), zV1 g (by decide) (by decide), zV1 g (by decide) (by decide)⟩ (zPL_0 (fun a k a1 a2 => zV1 g (by omega) (by omega)))) ?_
    rintro r T2 W ⟨rfl, rfl, i1, i2, i3, i4, i5⟩
    simp only [zpush9]
    rw [b1_169]
    exact zwp_ret ⟨rfl, V1, g, i1, i2, i3, i4, i5⟩
  obtain ⟨r1, T1, W, q1, rfl, V1, g1, w1, w2, w3, w4, w5⟩ := c1
  have f2 := fr_zcall q1
  have s1 : zsz T1 = 130 := by rw [g1.sz, zs1_len]; rfl
  have f3 : zFrx T1 W (zn T1 22 38, zs W (zsz T1) (fun _ => 0)) := zFrx_n
  have o3 : zO (zn T1 22 38) (zsz T1) 12 := zO_new (by decide)
  -- the reference
  have h2 : zHp (fun a k => if a < 130 then W a k else 0) (zs1_e.1, zs1_e.2.1, []) T1 W := by
    refine ⟨g1.1, g1.2.1, g1.2.2.1, g1.2.2.2.1, fun a k a1 a2 => ?_, ⟨g1.2.2.2.2.2.1.1, fun e he => absurd he List.not_mem_nil⟩, fun a k ha => ?_⟩
    · have a2 : a < (zs1_e.1.length : Int) := a2
      rw [zs1_len] at a2
      show W a k = if a < 130 then W a k else 0
      rw [if_pos (by omega)]
    · have ha : (zs1_e.1.length : Int) ≤ a := ha
      rw [zs1_len] at ha
      show (if a < 130 then W a k else 0) = 0
      rw [if_neg (by omega)]
  have h3 : zHp (fun a k => if a < 130 then W a k else 0) zs2_0 (zn T1 22 38) (zs W (zsz T1) (fun _ => 0)) := zHp_n (c := 22) (n := 38) h2
  rw [s1] at o3 h3 f3
  obtain ⟨r2, T2, V2, q2, rfl, g2⟩ := zh148 h3 o3
  have f4 := fr_zcall q2
  refine ⟨T2, V2, ?_, zJ_start g1 w1 w2 w3 w4 w5 g2, zFrx_tr f1 (zFrx_tr f2 (zFrx_tr f3 f4))⟩
  rw [e0, b0_3 (by decide), q1]
  simp only [Option.bind_some, zpush9]
  rw [b0_7, s1, b0_11 (by decide), q2]
  simp only [Option.bind_some, zpush9]
  rw [b0_15]
