/-! the reference: goesOn, over the first letters -/
noncomputable def zGs (V : zM) (K : Int → Int) (a : Int) (A : Int → Int → Prop) (r : Nat) (c e w s : Int) : Int := zif (zdel K a 0 e s ≠ -1) (zfo zoc 0 (zGb V K a A r c e w s) 27) 0
section MAIN2
variable {T : zT} {K : Int → Int} {a U W : Int} {A : Int → Int → Prop} {Post : zV → zT → zM → Prop}
theorem c220_a {V0 : zM} {e w c : Int} {S : Nat → Int} (hS : zStr T) (hW : 0 ≤ W ∧ W ≤ 224) (hU : 0 ≤ U ∧ U ≤ 224) (he : 0 ≤ e ∧ e < U) (hw : 0 ≤ w ∧ w < W) (hc : 0 ≤ c ∧ c ≤ 1000000000000) (h0 : ∀ q y, 0 ≤ q → q < U → 0 ≤ y → y < 27 → V0 145 ((224 * 0 + q) * 27 + y) = zdel K a 0 q y ∧ (zdel K a 0 q y = -1 ∨ (0 ≤ zdel K a 0 q y ∧ zdel K a 0 q y < U))) (h1 : ∀ q y, 0 ≤ q → q < W → 0 ≤ y → y < 27 → V0 145 ((224 * 1 + q) * 27 + y) = zdel K a 1 q y ∧ (zdel K a 1 q y = -1 ∨ (0 ≤ zdel K a 1 q y ∧ zdel K a 1 q y < W))) (hsr : ∀ p, 0 ≤ p → p < 729 → 0 ≤ V0 150 p ∧ V0 150 p ≤ 128)
    (kont : ∀ V v5 v6 v7 v8 v9 v10, (∀ r, r ≠ 149 → V r = V0 r) → zCb V 149 U W → (∀ r : Nat, zN2 V 149 K a A U W r = zoc (S r) (zfo zoc 0 (zGs V0 K a A r c e w) 27)) → zwp (ev 220 245 [(2, 130), (0, e), (0, w), (1, c), (9, 0), v5, v6, v7, v8, v9, v10] [] T V) Post) :
    ∀ V v6 v7 v8 v9 v10, (∀ r, r ≠ 149 → V r = V0 r) → zCb V 149 U W → (∀ r : Nat, zN2 V 149 K a A U W r = S r ∧ zoc (S r) 0 = S r) → zwp (ev 220 98 [(2, 130), (0, e), (0, w), (1, c), (9, 0), (0, 0), v6, v7, v8, v9, v10] [] T V) Post := by
  intro V v6 v7 v8 v9 v10 g1 g2 g3
  refine zup (α := zM × zV × zV × zV × zV × zV) (fun y s' => (∀ r, r ≠ 149 → s'.1 r = V0 r) ∧ zCb s'.1 149 U W ∧ ∀ r : Nat, zN2 s'.1 149 K a A U W r = zoc (S r) (zfo zoc 0 (zGs V0 K a A r c e w) y.toNat)) (fun y s' => zwp (ev 220 98 [(2, 130), (0, e), (0, w), (1, c), (9, 0), (0, y), s'.2.1, s'.2.2.1, s'.2.2.2.1, s'.2.2.2.2.1, s'.2.2.2.2.2] [] T s'.1) Post) (lo := 0) (hi := 27) (by decide) ?_ ?_ (V, v6, v7, v8, v9, v10) ⟨g1, g2, fun r => by
    show zN2 V 149 K a A U W r = zoc (S r) 0
    rw [(g3 r).2, (g3 r).1]⟩
  · rintro ⟨V, v6, v7, v8, v9, v10⟩ ⟨g1, g2, g3⟩
    show zwp (ev 220 98 [(2, 130), (0, e), (0, w), (1, c), (9, 0), (0, 27), v6, v7, v8, v9, v10] [] T V) Post
    rw [b220_98, if_pos (by decide)]
    exact kont V _ v6 v7 v8 v9 v10 g1 g2 g3
  · rintro y ⟨V, v6, v7, v8, v9, v10⟩ y1 y2 ⟨g1, g2, g3⟩ next
    replace g1 : ∀ r, r ≠ 149 → V r = V0 r := g1
    replace g2 : zCb V 149 U W := g2
    replace g3 : ∀ r : Nat, zN2 V 149 K a A U W r = zoc (S r) (zfo zoc 0 (zGs V0 K a A r c e w) y.toNat) := g3
    show zwp (ev 220 98 [(2, 130), (0, e), (0, w), (1, c), (9, 0), (0, y), v6, v7, v8, v9, v10] [] T V) Post
    obtain ⟨d1, d2⟩ := h0 e y he.1 he.2 y1 y2
    rw [b220_98, if_neg (by omega), b220_105 hS, c221 hS (Or.inl rfl) (by omega) (by omega), g1 145 (by decide), d1]
    simp only [Option.bind_some, zpush0]
    rw [b220_113]
    by_cases c1 : zdel K a 0 e y = -1
    · rw [if_pos c1, b220_121, b220_239 (by omega)]
      refine next (V, _, _, _, _, _) ⟨g1, g2, fun r => ?_⟩
      rw [zfo_s y1, show zGs V0 K a A r c e w y = 0 from zif_f (fun z => z c1), zfo_z zoc_mo]
      exact g3 r
    · rw [if_neg c1, b220_124]
      refine c220_b (S := fun r => zoc (S r) (zfo zoc 0 (zGs V0 K a A r c e w) y.toNat)) hS hW hU he hw hc ⟨y1, y2⟩ (by omega) h1 hsr ?_ V v8 v9 v10 g1 g2 (fun r => ⟨g3 r, by rw [zoc_mo.1, zfo_z zoc_mo]⟩)
      intro V v8 v9 v10 g1 g2 g3
      rw [b220_239 (by omega)]
      refine next (V, _, _, _, _, _) ⟨g1, g2, fun r => ?_⟩
      show zN2 V 149 K a A U W r = _
      rw [g3 r, zfo_s y1, show zGs V0 K a A r c e w y = zfo zoc 0 (zGb V0 K a A r c e w y) 27 from zif_t c1, ← zoc_mo.1]
/-- all letters of both -/
theorem zGs_all {V0 : zM} {c e w : Int} {r : Nat} (hw : ∀ p, 0 ≤ p → p < 729 → V0 150 p = zct K (A (r : Int)) p) (hc : 0 ≤ c) : zfo zoc 0 (zGs V0 K a A r c e w) 27 = min 1000000000000 (c * zW K a A (r + 1) e w) := by
  have := zStp_cnt (K := K) (a := a) (A := A) (wy := V0 150) (ct := fun _ => 0) (le := fun _ => 0) (sh := fun _ => 0) (n := 0) (r := r) (c := c) (k := 0) (h := 0) (l := 0) (m := 0) (e := e) (w := w) hw hc
  rw [← this]
  rfl
end MAIN2
