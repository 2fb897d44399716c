/-! the reference: leastOf -/
def zChp (V : zM) (K : Int → Int) (i p : Int) : Prop := (∀ s, 0 ≤ s → s < i → zpr K s = p → V 152 p ≤ zcst K s) ∧ (V 152 p = 1000000000 ∨ ∃ s, (0 ≤ s ∧ s < i) ∧ zpr K s = p ∧ V 152 p = zcst K s)
section LEAST
variable {T : zT} {V : zM} {K : Int → Int}
theorem c227 {c e w : Int} (hS : zStr T) (hc : 0 ≤ c ∧ c ≤ 16) (he : 0 ≤ e ∧ e < 224) (hw : 0 ≤ w ∧ w < 224) : zcall 227 [(2, 130), (0, c), (0, e), (0, w)] T V = some ((0, V 151 ((224 * c + e) * 224 + w)), T, V) := by
  rw [e227, b227_0 hS (by omega) (by omega) (by omega) (by omega) (by omega)]
theorem c226 {c e w : Int} {r : Nat} (hS : zStr T) (hW : zKw K) (hk : zcok K) (hs : zSto V K 0) (hc : 0 ≤ c ∧ c ≤ 15) (hr : r ≤ 15) (he : 0 ≤ e ∧ e < zuse K 0 0) (hw : 0 ≤ w ∧ w < zuse K 0 1) (h2 : ∀ p, 0 ≤ p → p < 729 → zChp V K 128 p) (h1 : ∀ e w, 0 ≤ e → e < zuse K 0 0 → 0 ≤ w → w < zuse K 0 1 → V 151 ((224 * (c + 1) + e) * 224 + w) = zL K r e w) : zcall 226 [(2, 130), (0, c), (0, e), (0, w)] T V = some ((0, zL K (r + 1) e w), T, V) := by
  have u0 := zuse_r (a := 0) hW (Or.inl rfl)
  have u1 := zuse_r (a := 0) hW (Or.inr rfl)
  have hd0 : ∀ a, 0 ≤ a → a < 27 → V 145 ((224 * 0 + e) * 27 + a) = zdel K 0 0 e a := fun a a1 a2 => by
    rw [show (224 * 0 + e) * 27 + a = (0 + e) * 27 + a by omega]
    exact (hs.2.2.2.1 e he.1 (by omega)).2 a a1 a2
  have hd1 : ∀ b, 0 ≤ b → b < 27 → V 145 ((224 * 1 + w) * 27 + b) = zdel K 0 1 w b := fun a a1 a2 => by
    rw [show (224 * 1 + w) * 27 + a = (224 + w) * 27 + a by omega]
    exact (hs.2.2.2.2 w hw.1 (by omega)).2 a a1 a2
  have r0 := fun a => zdel_r (a := 0) hW (Or.inl rfl) e a
  have r1 := fun b => zdel_r (a := 0) hW (Or.inr rfl) w b
  have hL := zL_r hk r (by omega)
  have hM := zL_r hk (r + 1) (by omega) e w
  -- a way on
  have cand : ∀ a b, 0 ≤ a → a < 27 → 0 ≤ b → b < 27 → zdel K 0 0 e a ≠ -1 → zdel K 0 1 w b ≠ -1 → V 152 (27 * a + b) ≠ 1000000000 → zL K r (zdel K 0 0 e a) (zdel K 0 1 w b) ≠ 1000000000 → zL K (r + 1) e w ≤ V 152 (27 * a + b) + zL K r (zdel K 0 0 e a) (zdel K 0 1 w b) ∧ (0 ≤ V 152 (27 * a + b) ∧ V 152 (27 * a + b) ≤ 693) ∧ (0 ≤ zL K r (zdel K 0 0 e a) (zdel K 0 1 w b) ∧ zL K r (zdel K 0 0 e a) (zdel K 0 1 w b) ≤ 11088) := fun a b a1 a2 b1 b2 d0 d1 f1 f2 => by
    obtain ⟨-, g⟩ := h2 (27 * a + b) (by omega) (by omega)
    rcases g with g | ⟨s, s1, s2, s3⟩
    · exact absurd g f1
    · have hp := (zpr_x (K := K) (s := s) (x := a) (y := b) ⟨a1, a2⟩ ⟨b1, b2⟩).1 (by omega)
      have cs := zcst_r hk s
      have l := hL (zdel K 0 0 e a) (zdel K 0 1 w b)
      have q := zL_le (K := K) (r := r) (e := e) (w := w) (s := s) s1 (show zon K 0 e w s from ⟨by rw [hp.1]; exact d0, by rw [hp.2]; exact d1⟩) (by rw [hp.1, hp.2]; exact f2)
      rw [hp.1, hp.2] at q
      refine ⟨by omega, by omega, l.1, ?_⟩
      rcases l.2 with l | l
      · exact absurd l f2
      · omega
  have last : ∀ x, x ≤ 1000000000 → zL K (r + 1) e w ≤ x → (∀ a b, 0 ≤ a → a < 27 → 0 ≤ b → b < 27 → zdel K 0 0 e a ≠ -1 → zdel K 0 1 w b ≠ -1 → V 152 (27 * a + b) ≠ 1000000000 → zL K r (zdel K 0 0 e a) (zdel K 0 1 w b) ≠ 1000000000 → x ≤ V 152 (27 * a + b) + zL K r (zdel K 0 0 e a) (zdel K 0 1 w b)) → x = zL K (r + 1) e w := fun x x1 x2 x3 => by
    by_cases c : zL K (r + 1) e w = 1000000000
    · omega
    · obtain ⟨s, s1, s2, s3, s4⟩ := zL_at c
      have g0 := zsgn_r K 0 s
      have g1 := zsgn_r K 1 s
      have pp : zpr K s = 27 * zsgn K 0 s + zsgn K 1 s := by unfold zpr; omega
      have f := (h2 (27 * zsgn K 0 s + zsgn K 1 s) (by omega) (by omega)).1 s s1.1 s1.2 pp
      have cs := zcst_r hk s
      have q := x3 (zsgn K 0 s) (zsgn K 1 s) g0.1 (by omega) g1.1 (by omega) s2.1 s2.2 (by omega) s3
      omega
  rw [e226, b226_0]
  refine zup (α := Int × zV × zV × zV × zV) (fun a s => (s.1 ≤ 1000000000 ∧ zL K (r + 1) e w ≤ s.1) ∧ ∀ x y, 0 ≤ x → x < a → 0 ≤ y → y < 27 → zdel K 0 0 e x ≠ -1 → zdel K 0 1 w y ≠ -1 → V 152 (27 * x + y) ≠ 1000000000 → zL K r (zdel K 0 0 e x) (zdel K 0 1 w y) ≠ 1000000000 → s.1 ≤ V 152 (27 * x + y) + zL K r (zdel K 0 0 e x) (zdel K 0 1 w y)) (fun a s => ev 226 8 [(2, 130), (0, c), (0, e), (0, w), (0, s.1), (0, a), s.2.1, s.2.2.1, s.2.2.2.1, s.2.2.2.2] [] T V = some ((0, zL K (r + 1) e w), T, V)) (lo := 0) (hi := 27) (by decide) ?_ ?_ (1000000000, (9, 0), (9, 0), (9, 0), (9, 0)) ⟨⟨by decide, by show zL K (r + 1) e w ≤ 1000000000; omega⟩, fun x y x1 x2 => by omega⟩
  · rintro ⟨x, v6, v7, v8, v9⟩ ⟨⟨i1, i2⟩, i3⟩
    show ev 226 8 [(2, 130), (0, c), (0, e), (0, w), (0, x), (0, 27), v6, v7, v8, v9] [] T V = _
    rw [b226_8, if_pos (by decide), b226_151, last x i1 i2 i3]
  · rintro a ⟨x, v6, v7, v8, v9⟩ a1 a2 ⟨⟨i1, i2⟩, i3⟩ next
    show ev 226 8 [(2, 130), (0, c), (0, e), (0, w), (0, x), (0, a), v6, v7, v8, v9] [] T V = _
    replace i1 : x ≤ 1000000000 := i1
    replace i2 : zL K (r + 1) e w ≤ x := i2
    rw [b226_8, if_neg (by omega), b226_15 hS, c221 hS (Or.inl rfl) (by omega) (by omega)]
    simp only [Option.bind_some, zpush0]
    rw [b226_23, hd0 a a1 a2]
    by_cases d0 : zdel K 0 0 e a = -1
    · rw [b226_28, if_neg (by decide), b226_35, if_pos d0, b226_145 (by omega)]
      refine next (x, _, _, _, _) ⟨⟨i1, i2⟩, fun y z y1 y2 z1 z2 q => ?_⟩
      by_cases cy : y = a
      · rw [cy] at q; exact absurd d0 q
      · exact i3 y z y1 (by omega) z1 z2 q
    · have e0 : 0 ≤ zdel K 0 0 e a ∧ zdel K 0 0 e a < zuse K 0 0 := by
        rcases r0 a with q | q
        · exact absurd q d0
        · exact q
      refine zup (α := Int × zV × zV) (fun b s => (s.1 ≤ 1000000000 ∧ zL K (r + 1) e w ≤ s.1) ∧ ∀ x y, 0 ≤ x → 0 ≤ y → y < 27 → (x < a ∨ (x = a ∧ y < b)) → zdel K 0 0 e x ≠ -1 → zdel K 0 1 w y ≠ -1 → V 152 (27 * x + y) ≠ 1000000000 → zL K r (zdel K 0 0 e x) (zdel K 0 1 w y) ≠ 1000000000 → s.1 ≤ V 152 (27 * x + y) + zL K r (zdel K 0 0 e x) (zdel K 0 1 w y)) (fun b s => ev 226 28 [(2, 130), (0, c), (0, e), (0, w), (0, s.1), (0, a), (0, zdel K 0 0 e a), (0, b), s.2.1, s.2.2] [] T V = some ((0, zL K (r + 1) e w), T, V)) (lo := 0) (hi := 27) (by decide) ?_ ?_ (x, v8, v9) ⟨⟨i1, i2⟩, fun x y x1 y1 y2 q => i3 x y x1 (by omega) y1 y2⟩
      · rintro ⟨x, v8, v9⟩ ⟨⟨j1, j2⟩, j3⟩
        show ev 226 28 [(2, 130), (0, c), (0, e), (0, w), (0, x), (0, a), (0, zdel K 0 0 e a), (0, 27), v8, v9] [] T V = _
        rw [b226_28, if_pos (by decide), b226_145 (by omega)]
        exact next (x, _, _, _, _) ⟨⟨j1, j2⟩, fun y z y1 y2 z1 z2 => j3 y z y1 z1 z2 (by omega)⟩
      · rintro b ⟨x, v8, v9⟩ b1 b2 ⟨⟨j1, j2⟩, j3⟩ next2
        show ev 226 28 [(2, 130), (0, c), (0, e), (0, w), (0, x), (0, a), (0, zdel K 0 0 e a), (0, b), v8, v9] [] T V = _
        replace j1 : x ≤ 1000000000 := j1
        replace j2 : zL K (r + 1) e w ≤ x := j2
        rw [b226_28, if_neg (by omega), b226_35, if_neg d0, b226_41 hS, c221 hS (Or.inr rfl) (by omega) (by omega)]
        simp only [Option.bind_some, zpush0]
        rw [b226_49, hd1 b b1 b2]
        have skip : ∀ v9, (zdel K 0 1 w b ≠ -1 → V 152 (27 * a + b) ≠ 1000000000 → zL K r (zdel K 0 0 e a) (zdel K 0 1 w b) ≠ 1000000000 → x ≤ V 152 (27 * a + b) + zL K r (zdel K 0 0 e a) (zdel K 0 1 w b)) → ev 226 139 [(2, 130), (0, c), (0, e), (0, w), (0, x), (0, a), (0, zdel K 0 0 e a), (0, b), (0, zdel K 0 1 w b), v9] [] T V = some ((0, zL K (r + 1) e w), T, V) := fun v9 no => by
          rw [b226_139 (by omega)]
          refine next2 (x, _, _) ⟨⟨j1, j2⟩, fun y z y1 z1 z2 q f0 f1 f2 f3 => ?_⟩
          by_cases cy : y = a ∧ z = b
          · obtain ⟨rfl, rfl⟩ := cy
            exact no f1 f2 f3
          · exact j3 y z y1 z1 z2 (by omega) f0 f1 f2 f3
        by_cases d1 : zdel K 0 1 w b = -1
        · rw [if_pos d1]; exact skip _ (fun q => absurd d1 q)
        · have e1 : 0 ≤ zdel K 0 1 w b ∧ zdel K 0 1 w b < zuse K 0 1 := by
            rcases r1 b with q | q
            · exact absurd q d1
            · exact q
          rw [if_neg d1, b226_57 hS (by omega) (by omega) (by omega)]
          by_cases f1 : V 152 (27 * a + b) = 1000000000
          · rw [if_pos f1]; exact skip _ (fun _ q => absurd f1 q)
          · rw [if_neg f1, b226_76 hS (by omega), c227 hS (by omega) (by omega) (by omega), h1 _ _ e0.1 e0.2 e1.1 e1.2]
            simp only [Option.bind_some, zpush0]
            rw [b226_87]
            by_cases f2 : zL K r (zdel K 0 0 e a) (zdel K 0 1 w b) = 1000000000
            · rw [if_pos f2, b226_93]; exact skip _ (fun _ _ q => absurd f2 q)
            · obtain ⟨k1, k2, k3⟩ := cand a b a1 a2 b1 b2 d0 d1 f1 f2
              rw [if_neg f2, b226_96 hS (by omega) (by omega) (by omega) (by omega), c227 hS (by omega) (by omega) (by omega), h1 _ _ e0.1 e0.2 e1.1 e1.2]
              simp only [Option.bind_some, zpush0]
              rw [b226_120 (by omega)]
              by_cases f3 : x ≤ V 152 (27 * a + b) + zL K r (zdel K 0 0 e a) (zdel K 0 1 w b)
              · rw [if_pos f3, b226_135, b226_137]
                exact skip _ (fun _ _ _ => f3)
              · rw [if_neg f3, b226_130, b226_137, b226_139 (by omega)]
                refine next2 (_, _, _) ⟨⟨by omega, k1⟩, fun y z y1 z1 z2 q g0 g1 g2 g3 => ?_⟩
                show V 152 (27 * a + b) + zL K r (zdel K 0 0 e a) (zdel K 0 1 w b) ≤ _
                by_cases cy : y = a ∧ z = b
                · rw [cy.1, cy.2]; omega
                · have := j3 y z y1 z1 z2 (by omega) g0 g1 g2 g3
                  replace this : x ≤ V 152 (27 * y + z) + zL K r (zdel K 0 0 e y) (zdel K 0 1 w z) := this
                  omega
end LEAST
