/-! the reference: laysSteps, nothing laid yet -/
/-- rows 145, 146 but the tongue's own part -/
def zLo (V V' : zM) (f : Int) : Prop := (∀ r, r ≠ 145 → r ≠ 146 → V' r = V r) ∧ (∀ j, j < f ∨ f + 224 ≤ j → V' 146 j = V 146 j) ∧ ∀ j, j < f * 27 ∨ (f + 224) * 27 ≤ j → V' 145 j = V 145 j
section LAYS
variable {T : zT} {V : zM} {Q : zV → zT → zM → Prop}
theorem c212z {t mn f : Int} (hS : zStr T) (hf : f = 0 ∨ f = 224) (kont : ∀ V' v5, zLo V V' f → (∀ k, 0 ≤ k → k < 224 → V' 146 (f + k) = 0 ∧ ∀ s, 0 ≤ s → s < 27 → V' 145 ((f + k) * 27 + s) = -1) → zwp (ev 212 105 [(2, 130), (0, t), (0, mn), (0, f), (0, 224), v5, (9, 0), (9, 0), (9, 0)] [] T V') Q) : zwp (ev 212 49 [(2, 130), (0, t), (0, mn), (0, f), (0, 0), (9, 0), (9, 0), (9, 0), (9, 0)] [] T V) Q := by
  refine zup (α := zM × zV) (fun i s => zLo V s.1 f ∧ ∀ k, 0 ≤ k → k < i → s.1 146 (f + k) = 0 ∧ ∀ y, 0 ≤ y → y < 27 → s.1 145 ((f + k) * 27 + y) = -1) (fun i s => zwp (ev 212 49 [(2, 130), (0, t), (0, mn), (0, f), (0, i), s.2, (9, 0), (9, 0), (9, 0)] [] T s.1) Q) (lo := 0) (hi := 224) (by decide) ?_ ?_ (V, (9, 0)) ⟨⟨fun _ _ _ => rfl, fun _ _ => rfl, fun _ _ => rfl⟩, fun k k1 k2 => by omega⟩
  · rintro ⟨V1, v⟩ ⟨v1, v2⟩
    show zwp (ev 212 49 [(2, 130), (0, t), (0, mn), (0, f), (0, 224), v, (9, 0), (9, 0), (9, 0)] [] T V1) Q
    rw [b212_49, if_pos (by decide)]
    exact kont V1 v v1 v2
  · rintro i ⟨V1, v⟩ i1 i2 ⟨v1, v2⟩ next
    replace v1 : zLo V V1 f := v1
    replace v2 : ∀ k, 0 ≤ k → k < i → V1 146 (f + k) = 0 ∧ ∀ y, 0 ≤ y → y < 27 → V1 145 ((f + k) * 27 + y) = -1 := v2
    show zwp (ev 212 49 [(2, 130), (0, t), (0, mn), (0, f), (0, i), v, (9, 0), (9, 0), (9, 0)] [] T V1) Q
    rw [b212_49, if_neg (by omega), b212_57 hS (by omega) (by omega)]
    refine zup (α := zM) (fun j V' => zLo V V' f ∧ (∀ k, 0 ≤ k → k < i → V' 146 (f + k) = 0 ∧ ∀ y, 0 ≤ y → y < 27 → V' 145 ((f + k) * 27 + y) = -1) ∧ V' 146 (f + i) = 0 ∧ ∀ y, 0 ≤ y → y < j → V' 145 ((f + i) * 27 + y) = -1) (fun j V' => zwp (ev 212 70 [(2, 130), (0, t), (0, mn), (0, f), (0, i), (0, j), (9, 0), (9, 0), (9, 0)] [] T V') Q) (lo := 0) (hi := 27) (by decide) ?_ ?_ (zwr V1 146 (f + i) 0) ?_
    · rintro V2 ⟨w1, w2, w3, w4⟩
      rw [b212_70, if_pos (by decide), b212_99 (by omega)]
      refine next (V2, _) ⟨w1, fun k k1 k2 => ?_⟩
      by_cases c : k = i
      · subst c; exact ⟨w3, w4⟩
      · exact w2 k k1 (by omega)
    · rintro j V2 j1 j2 ⟨⟨w1, w1', w1''⟩, w2, w3, w4⟩ next2
      rw [b212_70, if_neg (by omega), b212_77 hS (by omega) (by omega) (by omega) (by omega) (by omega)]
      refine next2 _ ⟨⟨fun r r1 r2 => by rw [zwr_ne r1, w1 r r1 r2], fun k hk => by rw [zwr_ne (by decide), w1' k hk], fun k hk => by rw [zwr_same, if_neg (by omega), w1'' k hk]⟩, fun k k1 k2 => ⟨by rw [zwr_ne (by decide)]; exact (w2 k k1 k2).1, fun y y1 y2 => ?_⟩, by rw [zwr_ne (by decide)]; exact w3, fun y y1 y2 => ?_⟩
      · rw [zwr_same, if_neg (by omega)]; exact (w2 k k1 k2).2 y y1 y2
      · rw [zwr_same]
        by_cases c : y = j
        · rw [if_pos (by omega)]
        · rw [if_neg (by omega)]; exact w4 y y1 (by omega)
    · obtain ⟨x1, x2, x3⟩ := v1
      refine ⟨⟨fun r r1 r2 => by rw [zwr_ne r2, x1 r r1 r2], fun k hk => by rw [zwr_same, if_neg (by omega), x2 k hk], fun k hk => by rw [zwr_ne (by decide), x3 k hk]⟩, fun k k1 k2 => ⟨by rw [zwr_same, if_neg (by omega)]; exact (v2 k k1 k2).1, fun y y1 y2 => by rw [zwr_ne (by decide)]; exact (v2 k k1 k2).2 y y1 y2⟩, by rw [zwr_same, if_pos rfl], fun y y1 y2 => by omega⟩
end LAYS
