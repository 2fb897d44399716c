/-! the reference: goesOn, its main loop -/
noncomputable def zNi (V : zM) (row : Int) (K : Int → Int) (a : Int) (A : Int → Int → Prop) (W : Int) (r : Nat) (e : Int) : Int := zfo zoc 0 (fun w => min 1000000000000 (V row (224 * e + w) * zW K a A r e w)) W.toNat
noncomputable def zN2 (V : zM) (row : Int) (K : Int → Int) (a : Int) (A : Int → Int → Prop) (U W : Int) (r : Nat) : Int := zfo zoc 0 (zNi V row K a A W r) U.toNat
def zCb (V : zM) (row U W : Int) : Prop := ∀ e w, 0 ≤ e → e < U → 0 ≤ w → w < W → 0 ≤ V row (224 * e + w) ∧ V row (224 * e + w) ≤ 1000000000000
section MAIN
variable {T : zT} {V : zM} {K : Int → Int} {a U W : Int} {A : Int → Int → Prop} {Post : zV → zT → zM → Prop}
theorem zN2_u {row e w d : Int} (hb : zCb V row U W) (hW : W ≤ 224) (he : 0 ≤ e ∧ e < U) (hw : 0 ≤ w ∧ w < W) (hd : 0 ≤ d) (r : Nat) : zN2 (zwr V row (224 * e + w) (min 1000000000000 (V row (224 * e + w) + d))) row K a A U W r = zoc (zN2 V row K a A U W r) (min 1000000000000 (d * zW K a A r e w)) := by
  unfold zN2
  refine zfo_upd zoc_mo he.1 (by omega) (fun e' h1 h2 h3 => ?_) ?_
  · unfold zNi
    refine zfo_congr fun w' g1 g2 => ?_
    rw [zwr_same, if_neg (by omega)]
  · unfold zNi
    refine zfo_upd zoc_mo hw.1 (by omega) (fun w' g1 g2 g3 => ?_) ?_
    · rw [zwr_same, if_neg (by omega)]
    · rw [zwr_same, if_pos rfl]
      exact zcnt_take (hb e w he.1 he.2 hw.1 hw.2).1 hd (zW_pos K a A r e w)
noncomputable def zGb (V : zM) (K : Int → Int) (a : Int) (A : Int → Int → Prop) (r : Nat) (c e w s y : Int) : Int := zif (zdel K a 1 w y ≠ -1) (zif (0 < V 150 (s * 27 + y)) (min 1000000000000 (c * V 150 (s * 27 + y) * zW K a A r (zdel K a 0 e s) (zdel K a 1 w y))) 0) 0
theorem c220_b {V0 : zM} {e w c s : Int} {S : Nat → Int} (hS : zStr T) (hW : 0 ≤ W ∧ W ≤ 224) (hU : 0 ≤ U ∧ U ≤ 224) (he : 0 ≤ e ∧ e < U) (hw : 0 ≤ w ∧ w < W) (hc : 0 ≤ c ∧ c ≤ 1000000000000) (hs : 0 ≤ s ∧ s < 27) (hto : 0 ≤ zdel K a 0 e s ∧ zdel K a 0 e s < U) (h1 : ∀ q y, 0 ≤ q → q < W → 0 ≤ y → y < 27 → V0 145 ((224 * 1 + q) * 27 + y) = zdel K a 1 q y ∧ (zdel K a 1 q y = -1 ∨ (0 ≤ zdel K a 1 q y ∧ zdel K a 1 q y < W))) (hsr : ∀ p, 0 ≤ p → p < 729 → 0 ≤ V0 150 p ∧ V0 150 p ≤ 128)
    (kont : ∀ V v8 v9 v10, (∀ r, r ≠ 149 → V r = V0 r) → zCb V 149 U W → (∀ r : Nat, zN2 V 149 K a A U W r = zoc (S r) (zfo zoc 0 (zGb V0 K a A r c e w s) 27)) → zwp (ev 220 239 [(2, 130), (0, e), (0, w), (1, c), (9, 0), (0, s), (0, zdel K a 0 e s), (0, 27), v8, v9, v10] [] T V) Post) :
    ∀ V v8 v9 v10, (∀ r, r ≠ 149 → V r = V0 r) → zCb V 149 U W → (∀ r : Nat, zN2 V 149 K a A U W r = S r ∧ zoc (S r) 0 = S r) → zwp (ev 220 127 [(2, 130), (0, e), (0, w), (1, c), (9, 0), (0, s), (0, zdel K a 0 e s), (0, 0), v8, v9, v10] [] T V) Post := by
  intro V v8 v9 v10 g1 g2 g3
  refine zup (α := zM × zV × zV × zV) (fun y s' => (∀ r, r ≠ 149 → s'.1 r = V0 r) ∧ zCb s'.1 149 U W ∧ ∀ r : Nat, zN2 s'.1 149 K a A U W r = zoc (S r) (zfo zoc 0 (zGb V0 K a A r c e w s) y.toNat)) (fun y s' => zwp (ev 220 127 [(2, 130), (0, e), (0, w), (1, c), (9, 0), (0, s), (0, zdel K a 0 e s), (0, y), s'.2.1, s'.2.2.1, s'.2.2.2] [] T s'.1) Post) (lo := 0) (hi := 27) (by decide) ?_ ?_ (V, v8, v9, v10) ⟨g1, g2, fun r => by
    show zN2 V 149 K a A U W r = zoc (S r) 0
    rw [(g3 r).2, (g3 r).1]⟩
  · rintro ⟨V, v8, v9, v10⟩ ⟨g1, g2, g3⟩
    show zwp (ev 220 127 [(2, 130), (0, e), (0, w), (1, c), (9, 0), (0, s), (0, zdel K a 0 e s), (0, 27), v8, v9, v10] [] T V) Post
    rw [b220_127, if_pos (by decide)]
    exact kont V v8 v9 v10 g1 g2 g3
  · rintro y ⟨V, v8, v9, v10⟩ y1 y2 ⟨g1, g2, g3⟩ next
    replace g1 : ∀ r, r ≠ 149 → V r = V0 r := g1
    replace g2 : zCb V 149 U W := g2
    replace g3 : ∀ r : Nat, zN2 V 149 K a A U W r = zoc (S r) (zfo zoc 0 (zGb V0 K a A r c e w s) y.toNat) := g3
    show zwp (ev 220 127 [(2, 130), (0, e), (0, w), (1, c), (9, 0), (0, s), (0, zdel K a 0 e s), (0, y), v8, v9, v10] [] T V) Post
    obtain ⟨d1, d2⟩ := h1 w y hw.1 hw.2 y1 y2
    have q := hsr (s * 27 + y) (by omega) (by omega)
    have eq : 27 * s + y = s * 27 + y := by omega
    have r150 : V 150 = V0 150 := g1 150 (by decide)
    have skip : ∀ _ : Unit, (∀ r : Nat, zGb V0 K a A r c e w s y = 0) → ∀ v9 v10 x8, zwp (ev 220 233 [(2, 130), (0, e), (0, w), (1, c), (9, 0), (0, s), (0, zdel K a 0 e s), (0, y), (0, x8), v9, v10] [] T V) Post := fun _ hz v9 v10 x8 => by
      rw [b220_233 (by omega)]
      refine next (V, _, _, _) ⟨g1, g2, fun r => ?_⟩
      rw [zfo_s y1, hz r, zfo_z zoc_mo]
      exact g3 r
    rw [b220_127, if_neg (by omega), b220_134 hS, c221 hS (Or.inr rfl) (by omega) (by omega), g1 145 (by decide), d1]
    simp only [Option.bind_some, zpush0]
    rw [b220_142]
    by_cases c1 : zdel K a 1 w y = -1
    · rw [if_pos c1]
      exact skip () (fun r => zif_f (fun z => z c1)) _ _ _
    · rw [if_neg c1, b220_150 hS (by omega) (by omega) (by omega), eq, r150]
      by_cases c2 : V0 150 (s * 27 + y) = 0
      · rw [if_pos c2, b220_166]
        refine skip () (fun r => ?_) _ _ _
        unfold zGb
        rw [zif_t c1, zif_f (by omega)]
      · have d3 : 0 ≤ zdel K a 1 w y ∧ zdel K a 1 w y < W := by omega
        have b := g2 (zdel K a 0 e s) (zdel K a 1 w y) hto.1 hto.2 d3.1 d3.2
        have hm : 0 ≤ c * V0 150 (s * 27 + y) ∧ c * V0 150 (s * 27 + y) ≤ 1000000000000 * 128 := ⟨Int.mul_nonneg hc.1 q.1, Int.mul_le_mul hc.2 q.2 q.1 (by omega)⟩
        obtain ⟨m, hme⟩ : ∃ m, c * V0 150 (s * 27 + y) = m := ⟨_, rfl⟩
        rw [hme] at hm
        have fin : ∀ (u : Int), u = min 1000000000000 (V 149 (224 * zdel K a 0 e s + zdel K a 1 w y) + m) → ∀ x9, zwp (ev 220 232 [(2, 130), (0, e), (0, w), (1, c), (9, 0), (0, s), (0, zdel K a 0 e s), (0, y), (0, zdel K a 1 w y), (1, x9), (9, 0)] [(1, u), (0, 224 * zdel K a 0 e s + zdel K a 1 w y), (2, 149)] T V) Post := fun u hu x9 => by
          rw [b220_232 hS (by omega), b220_233 (by omega), hu]
          refine next (_, _, _, _) ⟨fun r hr => by show zwr V 149 _ _ r = _; rw [zwr_ne hr, g1 r hr], fun e' w' e1 e2 w1 w2 => ?_, fun r => ?_⟩
          · show 0 ≤ zwr V 149 _ _ 149 _ ∧ zwr V 149 _ _ 149 _ ≤ _
            rw [zwr_same]
            have := g2 e' w' e1 e2 w1 w2
            by_cases ce : 224 * e' + w' = 224 * zdel K a 0 e s + zdel K a 1 w y
            · rw [if_pos ce]; omega
            · rw [if_neg ce]; exact this
          · show zN2 (zwr V 149 _ _) 149 K a A U W r = _
            rw [zN2_u g2 hW.2 hto d3 hm.1 r, g3 r, zfo_s y1, zoc_mo.1]
            unfold zGb
            rw [zif_t c1, zif_t (by omega), hme]
        have r149 := b
        rw [if_neg c2, b220_169 hS (by omega) (by omega) (by omega) (by omega) (by omega) (by omega) (by rw [eq, r150, hme]; omega) (by rw [eq, r150, hme]; omega), eq, r150, hme]
        by_cases c3 : V 149 (224 * zdel K a 0 e s + zdel K a 1 w y) + m ≤ 1000000000000
        · rw [if_pos c3, b220_230]
          exact fin _ (by omega) _
        · rw [if_neg c3, b220_224]
          exact fin _ (by omega) _
end MAIN
