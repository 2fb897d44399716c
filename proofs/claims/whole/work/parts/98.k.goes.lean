/-! the reference: goesOn, whole -/
noncomputable def zH2 (V : zM) (K : Int → Int) (a : Int) (A : Int → Int → Prop) (r : Nat) (e w : Int) : Int := zfo zoc 0 (zGs V K a A r (V 148 (224 * e + w)) e w) 27
noncomputable def zH1 (V : zM) (K : Int → Int) (a : Int) (A : Int → Int → Prop) (W : Int) (r : Nat) (e : Int) : Int := zfo zoc 0 (zH2 V K a A r e) W.toNat
section GOES2
variable {T : zT} {V : zM} {K : Int → Int} {a U W : Int} {A : Int → Int → Prop}
theorem zGs_0 {r : Nat} {e w : Int} : zfo zoc 0 (zGs V K a A r 0 e w) 27 = 0 := by
  refine zfo_zz zoc_mo fun s _ _ => ?_
  unfold zGs
  have : zfo zoc 0 (zGb V K a A r 0 e w s) 27 = 0 := by
    refine zfo_zz zoc_mo fun y _ _ => ?_
    unfold zGb
    rw [Int.zero_mul, Int.zero_mul]
    by_cases c1 : zdel K a 1 w y ≠ -1
    · rw [zif_t c1]
      by_cases c2 : 0 < V 150 (s * 27 + y)
      · rw [zif_t c2]; decide
      · rw [zif_f c2]
    · rw [zif_f c1]
  rw [this]
  by_cases c : zdel K a 0 e s ≠ -1
  · rw [zif_t c]
  · rw [zif_f c]
theorem c220 (hS : zStr T) (hU : V 147 0 = U ∧ 0 ≤ U ∧ U ≤ 224) (hW : V 147 1 = W ∧ 0 ≤ W ∧ W ≤ 224) (hb : zCb V 148 U W) (h0 : ∀ q y, 0 ≤ q → q < U → 0 ≤ y → y < 27 → V 145 ((224 * 0 + q) * 27 + y) = zdel K a 0 q y ∧ (zdel K a 0 q y = -1 ∨ (0 ≤ zdel K a 0 q y ∧ zdel K a 0 q y < U))) (h1 : ∀ q y, 0 ≤ q → q < W → 0 ≤ y → y < 27 → V 145 ((224 * 1 + q) * 27 + y) = zdel K a 1 q y ∧ (zdel K a 1 q y = -1 ∨ (0 ≤ zdel K a 1 q y ∧ zdel K a 1 q y < W))) (hsr : ∀ p, 0 ≤ p → p < 729 → 0 ≤ V 150 p ∧ V 150 p ≤ 128) : zwp (zcall 220 [(2, 130)] T V) fun r T' V' => r = (9, 0) ∧ T' = T ∧ (∀ r, r ≠ 148 → r ≠ 149 → V' r = V r) ∧ zCb V' 148 U W ∧ ∀ r : Nat, (∀ p, 0 ≤ p → p < 729 → V 150 p = zct K (A (r : Int)) p) → zN2 V' 148 K a A U W r = zN2 V 148 K a A U W (r + 1) := by
  obtain ⟨Post, hPost⟩ : ∃ Post : zV → zT → zM → Prop, Post = fun r T' V' => r = (9, 0) ∧ T' = T ∧ (∀ r, r ≠ 148 → r ≠ 149 → V' r = V r) ∧ zCb V' 148 U W ∧ ∀ r : Nat, (∀ p, 0 ≤ p → p < 729 → V 150 p = zct K (A (r : Int)) p) → zN2 V' 148 K a A U W r = zN2 V 148 K a A U W (r + 1) := ⟨_, rfl⟩
  rw [← hPost, e220, b220_0]
  -- at the end
  have last : ∀ V1 x1 v2 v3 v4 v5 v6 v7 v8 v9 v10, (∀ r, r ≠ 149 → V1 r = V r) → zCb V1 149 U W → (∀ r : Nat, zN2 V1 149 K a A U W r = zfo zoc 0 (zH1 V K a A W r) U.toNat) → zwp (ev 220 257 [(2, 130), (0, x1), v2, v3, v4, v5, v6, v7, v8, v9, v10] [] T V1) Post := by
    intro V1 x1 v2 v3 v4 v5 v6 v7 v8 v9 v10 g1 g2 g3
    obtain ⟨r, T', V', e1, e2, e3, e4, e5⟩ := c220c (V := V1) (x1 := x1) (v2 := v2) (v3 := v3) (v4 := v4) (v5 := v5) (v6 := v6) (v7 := v7) (v8 := v8) (v9 := v9) (v10 := v10) hS (by rw [g1 147 (by decide)]; exact hU) (by rw [g1 147 (by decide)]; exact hW)
    refine ⟨r, T', V', e1, ?_⟩
    rw [hPost]
    refine ⟨e2, e3, fun r r1 r2 => by rw [e4 r r1, g1 r r2], fun e w e1 e2 w1 w2 => by rw [e5 e w e1 e2 w1 w2]; exact g2 e w e1 e2 w1 w2, fun r hr => ?_⟩
    have s1 : zN2 V' 148 K a A U W r = zN2 V1 149 K a A U W r := by
      unfold zN2
      refine zfo_congr fun e e1 e2 => ?_
      unfold zNi
      refine zfo_congr fun w w1 w2 => ?_
      rw [e5 e w e1 (by omega) w1 (by omega)]
    rw [s1, g3 r]
    unfold zN2
    refine zfo_congr fun e e1 e2 => ?_
    unfold zNi zH1
    refine zfo_congr fun w w1 w2 => ?_
    exact zGs_all hr (hb e w e1 (by omega) w1 (by omega)).1
  refine c220z hS hU hW ?_
  intro V1 v2 g1 g2
  rw [b220_49]
  refine zup (α := zM × zV × zV × zV × zV × zV × zV × zV × zV × zV) (fun i s => (∀ r, r ≠ 149 → s.1 r = V r) ∧ zCb s.1 149 U W ∧ ∀ r : Nat, zN2 s.1 149 K a A U W r = zfo zoc 0 (zH1 V K a A W r) i.toNat) (fun i s => zwp (ev 220 51 [(2, 130), (0, i), s.2.1, s.2.2.1, s.2.2.2.1, s.2.2.2.2.1, s.2.2.2.2.2.1, s.2.2.2.2.2.2.1, s.2.2.2.2.2.2.2.1, s.2.2.2.2.2.2.2.2.1, s.2.2.2.2.2.2.2.2.2] [] T s.1) Post) (lo := 0) (hi := U) hU.2.1 ?_ ?_ (V1, v2, (9, 0), (9, 0), (9, 0), (9, 0), (9, 0), (9, 0), (9, 0), (9, 0)) ⟨g1, fun e w e1 e2 w1 w2 => by show 0 ≤ V1 149 _ ∧ V1 149 _ ≤ _; rw [g2 e w e1 e2 w1 w2]; decide, fun r => ?_⟩
  · rintro ⟨V2, v2, v3, v4, v5, v6, v7, v8, v9, v10⟩ ⟨g1, g2, g3⟩
    replace g1 : ∀ r, r ≠ 149 → V2 r = V r := g1
    show zwp (ev 220 51 [(2, 130), (0, U), v2, v3, v4, v5, v6, v7, v8, v9, v10] [] T V2) Post
    rw [b220_51 hS, g1 147 (by decide), hU.1, if_pos (by omega)]
    exact last V2 _ _ _ _ _ _ _ _ _ _ g1 g2 g3
  · rintro i ⟨V2, v2, v3, v4, v5, v6, v7, v8, v9, v10⟩ i1 i2 ⟨g1, g2, g3⟩ next
    replace g1 : ∀ r, r ≠ 149 → V2 r = V r := g1
    replace g2 : zCb V2 149 U W := g2
    replace g3 : ∀ r : Nat, zN2 V2 149 K a A U W r = zfo zoc 0 (zH1 V K a A W r) i.toNat := g3
    show zwp (ev 220 51 [(2, 130), (0, i), v2, v3, v4, v5, v6, v7, v8, v9, v10] [] T V2) Post
    rw [b220_51 hS, g1 147 (by decide), hU.1, if_neg (by omega), b220_61]
    refine zup (α := zM × zV × zV × zV × zV × zV × zV × zV × zV) (fun j s => (∀ r, r ≠ 149 → s.1 r = V r) ∧ zCb s.1 149 U W ∧ ∀ r : Nat, zN2 s.1 149 K a A U W r = zoc (zfo zoc 0 (zH1 V K a A W r) i.toNat) (zfo zoc 0 (zH2 V K a A r i) j.toNat)) (fun j s => zwp (ev 220 63 [(2, 130), (0, i), (0, j), s.2.1, s.2.2.1, s.2.2.2.1, s.2.2.2.2.1, s.2.2.2.2.2.1, s.2.2.2.2.2.2.1, s.2.2.2.2.2.2.2.1, s.2.2.2.2.2.2.2.2] [] T s.1) Post) (lo := 0) (hi := W) hW.2.1 ?_ ?_ (V2, v3, v4, v5, v6, v7, v8, v9, v10) ⟨g1, g2, fun r => ?_⟩
    · rintro ⟨V3, v3, v4, v5, v6, v7, v8, v9, v10⟩ ⟨k1, k2, k3⟩
      replace k1 : ∀ r, r ≠ 149 → V3 r = V r := k1
      show zwp (ev 220 63 [(2, 130), (0, i), (0, W), v3, v4, v5, v6, v7, v8, v9, v10] [] T V3) Post
      rw [b220_63 hS, k1 147 (by decide), hW.1, if_pos (by omega), b220_251 (by omega)]
      refine next (V3, _, _, _, _, _, _, _, _, _) ⟨k1, k2, fun r => ?_⟩
      rw [zfo_s i1]
      exact k3 r
    · rintro j ⟨V3, v3, v4, v5, v6, v7, v8, v9, v10⟩ j1 j2 ⟨k1, k2, k3⟩ next2
      replace k1 : ∀ r, r ≠ 149 → V3 r = V r := k1
      replace k2 : zCb V3 149 U W := k2
      replace k3 : ∀ r : Nat, zN2 V3 149 K a A U W r = zoc (zfo zoc 0 (zH1 V K a A W r) i.toNat) (zfo zoc 0 (zH2 V K a A r i) j.toNat) := k3
      show zwp (ev 220 63 [(2, 130), (0, i), (0, j), v3, v4, v5, v6, v7, v8, v9, v10] [] T V3) Post
      rw [b220_63 hS, k1 147 (by decide), hW.1, if_neg (by omega), b220_73 hS (by omega) (by omega) (by omega), k1 148 (by decide)]
      by_cases c : V 148 (224 * i + j) = 0
      · rw [if_pos c, b220_92, b220_245 (by omega)]
        refine next2 (V3, _, _, _, _, _, _, _, _) ⟨k1, k2, fun r => ?_⟩
        rw [zfo_s j1, show zH2 V K a A r i j = 0 by unfold zH2; rw [c, zGs_0], zfo_z zoc_mo]
        exact k3 r
      · rw [if_neg c, b220_95]
        refine c220_a (S := fun r => zoc (zfo zoc 0 (zH1 V K a A W r) i.toNat) (zfo zoc 0 (zH2 V K a A r i) j.toNat)) hS hW.2 hU.2 ⟨i1, i2⟩ ⟨j1, j2⟩ (hb i j i1 i2 j1 j2) h0 h1 hsr ?_ V3 _ _ _ _ _ k1 k2 (fun r => ⟨k3 r, by rw [zoc_mo.1, zfo_z zoc_mo]⟩)
        intro V4 v5 v6 v7 v8 v9 v10 m1 m2 m3
        rw [b220_245 (by omega)]
        refine next2 (V4, _, _, _, _, _, _, _, _) ⟨m1, m2, fun r => ?_⟩
        show zN2 V4 149 K a A U W r = _
        rw [m3 r, zfo_s j1, ← zoc_mo.1]
        rfl
    · show zN2 V2 149 K a A U W r = zoc (zfo zoc 0 (zH1 V K a A W r) i.toNat) 0
      rw [zfo_z zoc_mo, g3 r]
  · show zN2 V1 149 K a A U W r = 0
    unfold zN2
    refine zfo_zz zoc_mo fun e e1 e2 => ?_
    unfold zNi
    refine zfo_zz zoc_mo fun w w1 w2 => ?_
    rw [g2 e w e1 (by omega) w1 (by omega), Int.zero_mul]
    decide
end GOES2
