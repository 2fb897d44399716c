/-! the reference: start and end of a walk -/
section TELLS
variable {T : zT} {V : zM} {K : Int → Int} {a U W : Int} {A : Int → Int → Prop}
theorem zN2_0 (hU : 0 < U) (hW : 0 < W ∧ W ≤ 224) (h : ∀ e w, 0 ≤ e → e < U → 0 ≤ w → w < W → V 148 (224 * e + w) = if e = 0 ∧ w = 0 then 1 else 0) (r : Nat) : zN2 V 148 K a A U W r = min 1000000000000 (zW K a A r 0 0) := by
  obtain ⟨Z, hZ⟩ : ∃ Z : zM, Z = zs V 148 (fun _ => 0) := ⟨_, rfl⟩
  have z0 : ∀ j, Z 148 j = 0 := fun j => by rw [hZ]; unfold zs; rw [if_pos rfl]
  have b : zCb Z 148 U W := fun e w _ _ _ _ => by rw [z0]; decide
  have u := zN2_u (V := Z) (K := K) (a := a) (A := A) (row := 148) (e := 0) (w := 0) (d := 1) b hW.2 ⟨by decide, hU⟩ ⟨by decide, hW.1⟩ (by decide) r
  have e0 : zN2 Z 148 K a A U W r = 0 := by
    unfold zN2
    refine zfo_zz zoc_mo fun e e1 e2 => ?_
    unfold zNi
    refine zfo_zz zoc_mo fun w w1 w2 => ?_
    rw [z0, Int.zero_mul]; decide
  have e1 : zN2 V 148 K a A U W r = zN2 (zwr Z 148 (224 * 0 + 0) (min 1000000000000 (Z 148 (224 * 0 + 0) + 1))) 148 K a A U W r := by
    unfold zN2
    refine zfo_congr fun e g1 g2 => ?_
    unfold zNi
    refine zfo_congr fun w w1 w2 => ?_
    rw [h e w g1 (by omega) w1 (by omega), zwr_same, z0, z0]
    by_cases c : e = 0 ∧ w = 0
    · rw [if_pos c, if_pos (by omega)]; rfl
    · rw [if_neg c, if_neg (by omega)]
  rw [e1, u, e0, Int.one_mul]
  have := zW_pos K a A r 0 0
  unfold zoc
  omega
theorem zN2_e (hs : zSto V K a) (hU : 0 ≤ U ∧ U ≤ 224) (hW : 0 ≤ W ∧ W ≤ 224) (hb : zCb V 148 U W) : zN2 V 148 K a A U W 0 = min 1000000000000 (zsum (zcl V W) U.toNat) := by
  obtain ⟨s1, s2, s3, s4, s5⟩ := hs
  have c1 : ∀ e w, 0 ≤ e → e < U → 0 ≤ w → w < W → V 148 (224 * e + w) * zW K a A 0 e w = zcl1 V e w := fun e w e1 e2 w1 w2 => by
    have f1 := (s4 e e1 (by omega)).1
    have f2 := (s5 w w1 (by omega)).1
    rw [Int.zero_add] at f1
    rw [zW]
    unfold zcl1
    rw [f1, f2]
    by_cases a1 : zfin K a 0 e
    · by_cases a2 : zfin K a 1 w
      · rw [zif_t ⟨a1, a2⟩, zif_t (by rw [zif_t a1, zif_t a2]; decide), Int.mul_one]
      · rw [zif_f (fun z => a2 z.2), zif_f (fun z => z.2 (zif_f a2)), Int.mul_zero]
    · rw [zif_f (fun z => a1 z.1), zif_f (fun z => z.1 (zif_f a1)), Int.mul_zero]
  have c2 : ∀ e w, 0 ≤ e → e < U → 0 ≤ w → w < W → 0 ≤ zcl1 V e w := fun e w e1 e2 w1 w2 => by
    rw [← c1 e w e1 e2 w1 w2]
    exact Int.mul_nonneg (hb e w e1 e2 w1 w2).1 (zW_pos K a A 0 e w)
  unfold zN2
  have i1 : ∀ e : Int, 0 ≤ e → e < U.toNat → zNi V 148 K a A W 0 e = (fun e => min 1000000000000 (zcl V W e)) e := fun e e1 e2 => by
    unfold zNi
    rw [zfo_congr (g := fun w => min 1000000000000 (zcl1 V e w)) (fun w w1 w2 => by rw [c1 e w e1 (by omega) w1 (by omega)])]
    exact zfo_cnt (fun l l1 l2 => c2 e l e1 (by omega) l1 (by omega))
  rw [zfo_congr i1]
  exact zfo_cnt (fun e e1 e2 => zsum_pos (fun w w1 w2 => c2 e w e1 (by omega) w1 (by omega)))
end TELLS
