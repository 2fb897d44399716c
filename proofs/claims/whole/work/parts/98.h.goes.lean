/-! the reference: goesOn, its first and last loops -/
section GOES
variable {T : zT} {V : zM}
theorem c220z {U W : Int} {Q : zV → zT → zM → Prop} (hS : zStr T) (hU : V 147 0 = U ∧ 0 ≤ U ∧ U ≤ 224) (hW : V 147 1 = W ∧ 0 ≤ W ∧ W ≤ 224) (kont : ∀ V' v2, (∀ r, r ≠ 149 → V' r = V r) → (∀ e w, 0 ≤ e → e < U → 0 ≤ w → w < W → V' 149 (224 * e + w) = 0) → zwp (ev 220 49 [(2, 130), (0, U), v2, (9, 0), (9, 0), (9, 0), (9, 0), (9, 0), (9, 0), (9, 0), (9, 0)] [] T V') Q) : zwp (ev 220 2 [(2, 130), (0, 0), (9, 0), (9, 0), (9, 0), (9, 0), (9, 0), (9, 0), (9, 0), (9, 0), (9, 0)] [] T V) Q := by
  refine zup (α := zM × zV) (fun i s => (∀ r, r ≠ 149 → s.1 r = V r) ∧ ∀ e w, 0 ≤ e → e < i → 0 ≤ w → w < W → s.1 149 (224 * e + w) = 0) (fun i s => zwp (ev 220 2 [(2, 130), (0, i), s.2, (9, 0), (9, 0), (9, 0), (9, 0), (9, 0), (9, 0), (9, 0), (9, 0)] [] T s.1) Q) (lo := 0) (hi := U) hU.2.1 ?_ ?_ (V, (9, 0)) ⟨fun _ _ => rfl, fun e w e1 e2 => by omega⟩
  · rintro ⟨V1, v⟩ ⟨v1, v2⟩
    replace v1 : ∀ r, r ≠ 149 → V1 r = V r := v1
    show zwp (ev 220 2 [(2, 130), (0, U), v, (9, 0), (9, 0), (9, 0), (9, 0), (9, 0), (9, 0), (9, 0), (9, 0)] [] T V1) Q
    rw [b220_2 hS, v1 147 (by decide), hU.1, if_pos (by omega)]
    exact kont V1 v v1 v2
  · rintro i ⟨V1, v⟩ i1 i2 ⟨v1, v2⟩ next
    replace v1 : ∀ r, r ≠ 149 → V1 r = V r := v1
    replace v2 : ∀ e w, 0 ≤ e → e < i → 0 ≤ w → w < W → V1 149 (224 * e + w) = 0 := v2
    show zwp (ev 220 2 [(2, 130), (0, i), v, (9, 0), (9, 0), (9, 0), (9, 0), (9, 0), (9, 0), (9, 0), (9, 0)] [] T V1) Q
    rw [b220_2 hS, v1 147 (by decide), hU.1, if_neg (by omega), b220_12]
    refine zup (α := zM) (fun j V' => (∀ r, r ≠ 149 → V' r = V r) ∧ ∀ e w, 0 ≤ e → 0 ≤ w → w < W → (e < i ∨ (e = i ∧ w < j)) → V' 149 (224 * e + w) = 0) (fun j V' => zwp (ev 220 14 [(2, 130), (0, i), (0, j), (9, 0), (9, 0), (9, 0), (9, 0), (9, 0), (9, 0), (9, 0), (9, 0)] [] T V') Q) (lo := 0) (hi := W) hW.2.1 ?_ ?_ V1 ⟨v1, fun e w e1 w1 w2 z => v2 e w e1 (by omega) w1 w2⟩
    · rintro V2 ⟨w1, w2⟩
      rw [b220_14 hS, w1 147 (by decide), hW.1, if_pos (by omega), b220_43 (by omega)]
      exact next (V2, _) ⟨w1, fun e w e1 e2 z1 z2 => w2 e w e1 z1 z2 (by omega)⟩
    · rintro j V2 j1 j2 ⟨w1, w2⟩ next2
      rw [b220_14 hS, w1 147 (by decide), hW.1, if_neg (by omega), b220_24 hS (by omega) (by omega) (by omega) (by omega)]
      refine next2 _ ⟨fun r hr => by rw [zwr_ne hr, w1 r hr], fun e w e1 z1 z2 z3 => ?_⟩
      rw [zwr_same]
      by_cases c : 224 * e + w = 224 * i + j
      · rw [if_pos c]
      · rw [if_neg c]; exact w2 e w e1 z1 z2 (by omega)
theorem c220c {U W x1 : Int} {v2 v3 v4 v5 v6 v7 v8 v9 v10 : zV} (hS : zStr T) (hU : V 147 0 = U ∧ 0 ≤ U ∧ U ≤ 224) (hW : V 147 1 = W ∧ 0 ≤ W ∧ W ≤ 224) : zwp (ev 220 257 [(2, 130), (0, x1), v2, v3, v4, v5, v6, v7, v8, v9, v10] [] T V) fun r T' V' => r = (9, 0) ∧ T' = T ∧ (∀ r, r ≠ 148 → V' r = V r) ∧ ∀ e w, 0 ≤ e → e < U → 0 ≤ w → w < W → V' 148 (224 * e + w) = V 149 (224 * e + w) := by
  rw [b220_257]
  refine zup (α := zM × zV) (fun i s => (∀ r, r ≠ 148 → s.1 r = V r) ∧ ∀ e w, 0 ≤ e → e < i → 0 ≤ w → w < W → s.1 148 (224 * e + w) = V 149 (224 * e + w)) (fun i s => zwp (ev 220 259 [(2, 130), (0, i), s.2, v3, v4, v5, v6, v7, v8, v9, v10] [] T s.1) fun r T' V' => r = (9, 0) ∧ T' = T ∧ (∀ r, r ≠ 148 → V' r = V r) ∧ ∀ e w, 0 ≤ e → e < U → 0 ≤ w → w < W → V' 148 (224 * e + w) = V 149 (224 * e + w)) (lo := 0) (hi := U) hU.2.1 ?_ ?_ (V, v2) ⟨fun _ _ => rfl, fun e w e1 e2 => by omega⟩
  · rintro ⟨V1, v⟩ ⟨v1, v2⟩
    replace v1 : ∀ r, r ≠ 148 → V1 r = V r := v1
    show zwp (ev 220 259 [(2, 130), (0, U), v, v3, v4, v5, v6, v7, v8, v9, v10] [] T V1) _
    rw [b220_259 hS, v1 147 (by decide), hU.1, if_pos (by omega), b220_317]
    exact zwp_ret ⟨rfl, rfl, v1, v2⟩
  · rintro i ⟨V1, v⟩ i1 i2 ⟨v1, v2⟩ next
    replace v1 : ∀ r, r ≠ 148 → V1 r = V r := v1
    replace v2 : ∀ e w, 0 ≤ e → e < i → 0 ≤ w → w < W → V1 148 (224 * e + w) = V 149 (224 * e + w) := v2
    show zwp (ev 220 259 [(2, 130), (0, i), v, v3, v4, v5, v6, v7, v8, v9, v10] [] T V1) _
    rw [b220_259 hS, v1 147 (by decide), hU.1, if_neg (by omega), b220_269]
    refine zup (α := zM) (fun j V' => (∀ r, r ≠ 148 → V' r = V r) ∧ ∀ e w, 0 ≤ e → 0 ≤ w → w < W → (e < i ∨ (e = i ∧ w < j)) → V' 148 (224 * e + w) = V 149 (224 * e + w)) (fun j V' => zwp (ev 220 271 [(2, 130), (0, i), (0, j), v3, v4, v5, v6, v7, v8, v9, v10] [] T V') fun r T' V' => r = (9, 0) ∧ T' = T ∧ (∀ r, r ≠ 148 → V' r = V r) ∧ ∀ e w, 0 ≤ e → e < U → 0 ≤ w → w < W → V' 148 (224 * e + w) = V 149 (224 * e + w)) (lo := 0) (hi := W) hW.2.1 ?_ ?_ V1 ⟨v1, fun e w e1 w1 w2 z => v2 e w e1 (by omega) w1 w2⟩
    · rintro V2 ⟨w1, w2⟩
      rw [b220_271 hS, w1 147 (by decide), hW.1, if_pos (by omega), b220_311 (by omega)]
      exact next (V2, _) ⟨w1, fun e w e1 e2 z1 z2 => w2 e w e1 z1 z2 (by omega)⟩
    · rintro j V2 j1 j2 ⟨w1, w2⟩ next2
      rw [b220_271 hS, w1 147 (by decide), hW.1, if_neg (by omega), b220_281 hS (by omega) (by omega) (by omega) (by omega)]
      refine next2 _ ⟨fun r hr => by rw [zwr_ne hr, w1 r hr], fun e w e1 z1 z2 z3 => ?_⟩
      rw [zwr_same]
      by_cases c : 224 * e + w = 224 * i + j
      · rw [if_pos c, w1 149 (by decide), c]
      · rw [if_neg c]; exact w2 e w e1 z1 z2 (by omega)
end GOES
