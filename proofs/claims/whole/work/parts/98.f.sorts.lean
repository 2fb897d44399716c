/-! the reference: sorts, starts -/
section SORTS
variable {T : zT} {V : zM} {K : Int → Int}
theorem c221 {t q s : Int} (hS : zStr T) (ht : t = 0 ∨ t = 1) (hq : 0 ≤ q ∧ q < 224) (hs : 0 ≤ s ∧ s < 27) : zcall 221 [(2, 130), (0, t), (0, q), (0, s)] T V = some ((0, V 145 ((224 * t + q) * 27 + s)), T, V) := by
  rw [e221, b221_0 hS (by omega) (by omega) (by omega) (by omega) (by omega)]
theorem c218 (hS : zStr T) (h0 : ∀ s, 0 ≤ s → s < 128 → V 142 s = zsgn K 0 s ∧ V 143 s = zsgn K 1 s) : zwp (zcall 218 [(2, 130)] T V) fun r T' V' => r = (9, 0) ∧ T' = T ∧ (∀ r, r ≠ 150 → V' r = V r) ∧ ∀ p, 0 ≤ p → p < 729 → V' 150 p = zct K (fun _ => True) p := by
  rw [e218, b218_0]
  refine zup (α := zM) (fun i V' => (∀ r, r ≠ 150 → V' r = V r) ∧ ∀ p, 0 ≤ p → p < i → V' 150 p = 0) (fun i V' => zwp (ev 218 2 [(2, 130), (0, i)] [] T V') fun r T' V' => r = (9, 0) ∧ T' = T ∧ (∀ r, r ≠ 150 → V' r = V r) ∧ ∀ p, 0 ≤ p → p < 729 → V' 150 p = zct K (fun _ => True) p) (lo := 0) (hi := 729) (by decide) ?_ ?_ V ⟨fun _ _ => rfl, fun p p1 p2 => by omega⟩
  · rintro V1 ⟨v1, v2⟩
    rw [b218_2, if_pos (by decide), b218_22]
    refine zup (α := zM) (fun i V' => (∀ r, r ≠ 150 → V' r = V r) ∧ ∀ p, 0 ≤ p → p < 729 → V' 150 p = zcnt (fun s => True ∧ zpr K s = p) i.toNat) (fun i V' => zwp (ev 218 24 [(2, 130), (0, i)] [] T V') fun r T' V' => r = (9, 0) ∧ T' = T ∧ (∀ r, r ≠ 150 → V' r = V r) ∧ ∀ p, 0 ≤ p → p < 729 → V' 150 p = zct K (fun _ => True) p) (lo := 0) (hi := 128) (by decide) ?_ ?_ V1 ⟨v1, fun p p1 p2 => by rw [v2 p p1 p2]; rfl⟩
    · rintro V2 ⟨w1, w2⟩
      rw [b218_24, if_pos (by decide), b218_62]
      exact zwp_ret ⟨rfl, rfl, w1, w2⟩
    · rintro i V2 i1 i2 ⟨w1, w2⟩ next
      have a := h0 i i1 i2
      have r0 := zsgn_r K 0 i
      have r1 := zsgn_r K 1 i
      have e1 : V2 142 i = zsgn K 0 i := by rw [w1 142 (by decide)]; exact a.1
      have e2 : V2 143 i = zsgn K 1 i := by rw [w1 143 (by decide)]; exact a.2
      have ep : 27 * zsgn K 0 i + zsgn K 1 i = zpr K i := by unfold zpr; omega
      have rp : 0 ≤ zpr K i ∧ zpr K i < 729 := by omega
      have c0 := zcnt_r (fun s => True ∧ zpr K s = zpr K i) i.toNat
      rw [b218_24, if_neg (by omega), b218_31 hS (by omega) (by rw [e1]; omega) (by rw [e1, e2]; omega) (by rw [e1, e2]; omega) (by rw [e1, e2, ep, w2 _ rp.1 rp.2]; omega) (by omega), e1, e2, ep]
      refine next _ ⟨fun r hr => by rw [zwr_ne hr, w1 r hr], fun p p1 p2 => ?_⟩
      rw [zwr_same, zcnt_s i1]
      by_cases c : p = zpr K i
      · rw [if_pos c, c, w2 _ rp.1 rp.2, zif_t ⟨trivial, rfl⟩]
      · rw [if_neg c, w2 p p1 p2, zif_f (fun z => c z.2.symm), Int.add_zero]
  · rintro i V1 i1 i2 ⟨v1, v2⟩ next
    rw [b218_2, if_neg (by omega), b218_9 hS (by omega) (by omega)]
    refine next _ ⟨fun r hr => by rw [zwr_ne hr, v1 r hr], fun p p1 p2 => ?_⟩
    rw [zwr_same]
    by_cases c : p = i
    · rw [if_pos c]
    · rw [if_neg c]; exact v2 p p1 (by omega)
theorem c219 {U W : Int} (hS : zStr T) (hU : V 147 0 = U ∧ 0 ≤ U ∧ U ≤ 224) (hW : V 147 1 = W ∧ 0 ≤ W ∧ W ≤ 224) : zwp (zcall 219 [(2, 130)] T V) fun r T' V' => r = (9, 0) ∧ T' = T ∧ (∀ r, r ≠ 148 → V' r = V r) ∧ ∀ e w, 0 ≤ e → e < U → 0 ≤ w → w < W → V' 148 (224 * e + w) = if e = 0 ∧ w = 0 then 1 else 0 := by
  rw [e219, b219_0]
  refine zup (α := zM × zV) (fun i s => (∀ r, r ≠ 148 → s.1 r = V r) ∧ ∀ e w, 0 ≤ e → e < i → 0 ≤ w → w < W → s.1 148 (224 * e + w) = if e = 0 ∧ w = 0 then 1 else 0) (fun i s => zwp (ev 219 2 [(2, 130), (0, i), s.2] [] T s.1) fun r T' V' => r = (9, 0) ∧ T' = T ∧ (∀ r, r ≠ 148 → V' r = V r) ∧ ∀ e w, 0 ≤ e → e < U → 0 ≤ w → w < W → V' 148 (224 * e + w) = if e = 0 ∧ w = 0 then 1 else 0) (lo := 0) (hi := U) hU.2.1 ?_ ?_ (V, (9, 0)) ⟨fun _ _ => rfl, fun e w e1 e2 => by omega⟩
  · rintro ⟨V1, v⟩ ⟨v1, v2⟩
    replace v1 : ∀ r, r ≠ 148 → V1 r = V r := v1
    show zwp (ev 219 2 [(2, 130), (0, U), v] [] T V1) _
    rw [b219_2 hS, v1 147 (by decide), hU.1, if_pos (by omega), b219_61]
    exact zwp_ret ⟨rfl, rfl, v1, v2⟩
  · rintro i ⟨V1, v⟩ i1 i2 ⟨v1, v2⟩ next
    replace v1 : ∀ r, r ≠ 148 → V1 r = V r := v1
    replace v2 : ∀ e w, 0 ≤ e → e < i → 0 ≤ w → w < W → V1 148 (224 * e + w) = if e = 0 ∧ w = 0 then 1 else 0 := v2
    show zwp (ev 219 2 [(2, 130), (0, i), v] [] T V1) _
    rw [b219_2 hS, v1 147 (by decide), hU.1, if_neg (by omega), b219_12]
    refine zup (α := zM) (fun j V' => (∀ r, r ≠ 148 → V' r = V r) ∧ ∀ e w, 0 ≤ e → 0 ≤ w → w < W → (e < i ∨ (e = i ∧ w < j)) → V' 148 (224 * e + w) = if e = 0 ∧ w = 0 then 1 else 0) (fun j V' => zwp (ev 219 14 [(2, 130), (0, i), (0, j)] [] T V') fun r T' V' => r = (9, 0) ∧ T' = T ∧ (∀ r, r ≠ 148 → V' r = V r) ∧ ∀ e w, 0 ≤ e → e < U → 0 ≤ w → w < W → V' 148 (224 * e + w) = if e = 0 ∧ w = 0 then 1 else 0) (lo := 0) (hi := W) hW.2.1 ?_ ?_ V1 ⟨v1, fun e w e1 w1 w2 z => v2 e w e1 (by omega) w1 w2⟩
    · rintro V2 ⟨w1, w2⟩
      rw [b219_14 hS, w1 147 (by decide), hW.1, if_pos (by omega), b219_55 (by omega)]
      exact next (V2, _) ⟨w1, fun e w e1 e2 z1 z2 => w2 e w e1 z1 z2 (by omega)⟩
    · rintro j V2 j1 j2 ⟨w1, w2⟩ next2
      have fin : ∀ y, y = (if i = 0 ∧ j = 0 then 1 else 0) → zwp (ev 219 48 [(2, 130), (0, i), (0, j)] [(1, y), (0, 224 * i + j), (2, 148)] T V2) fun r T' V' => r = (9, 0) ∧ T' = T ∧ (∀ r, r ≠ 148 → V' r = V r) ∧ ∀ e w, 0 ≤ e → e < U → 0 ≤ w → w < W → V' 148 (224 * e + w) = if e = 0 ∧ w = 0 then 1 else 0 := fun y hy => by
        rw [b219_48 hS (by omega) (by omega)]
        refine next2 _ ⟨fun r hr => by rw [zwr_ne hr, w1 r hr], fun e w e1 z1 z2 z3 => ?_⟩
        rw [zwr_same]
        by_cases c : 224 * e + w = 224 * i + j
        · have ce : e = i ∧ w = j := by omega
          rw [if_pos c, ce.1, ce.2, hy]
        · rw [if_neg c]; exact w2 e w e1 z1 z2 (by omega)
      rw [b219_14 hS, w1 147 (by decide), hW.1, if_neg (by omega), b219_24 hS (by omega) (by omega)]
      by_cases c1 : i = 0
      · rw [if_pos c1, b219_39]
        by_cases c2 : j = 0
        · rw [if_pos c2, b219_43]; exact fin 1 (by rw [if_pos ⟨c1, c2⟩])
        · rw [if_neg c2, b219_47]; exact fin 0 (by rw [if_neg (fun z => c2 z.2)])
      · rw [if_neg c1, b219_47]; exact fin 0 (by rw [if_neg (fun z => c1 z.1)])
end SORTS
