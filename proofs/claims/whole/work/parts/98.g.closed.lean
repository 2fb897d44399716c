/-! the reference: closed -/
theorem zsum_b {f : Int → Int} {B : Int} {n : Nat} (h : ∀ l : Int, 0 ≤ l → l < n → 0 ≤ f l ∧ f l ≤ B) : 0 ≤ zsum f n ∧ zsum f n ≤ B * n := by
  induction n with
  | zero => exact ⟨Int.le_refl _, by simp [zsum]⟩
  | succ n ih =>
    have i := ih (fun l h1 h2 => h l h1 (by omega))
    have j := h n (by omega) (by omega)
    rw [zsum]
    have e : B * ((n + 1 : Nat) : Int) = B * n + B := by rw [Int.natCast_add, Int.mul_add]; simp
    omega
theorem zsum_i {f : Int → Int} {i : Int} (h : 0 ≤ i) : zsum f (i + 1).toNat = zsum f i.toNat + f i := by
  obtain ⟨n, rfl⟩ := Int.eq_ofNat_of_zero_le h
  rfl
noncomputable def zcl1 (V : zM) (e w : Int) : Int := zif (V 146 e ≠ 0 ∧ V 146 (224 + w) ≠ 0) (V 148 (224 * e + w)) 0
noncomputable def zcl (V : zM) (W e : Int) : Int := zsum (zcl1 V e) W.toNat
section CLOSED
variable {T : zT} {V : zM}
theorem c222 {U W : Int} (hS : zStr T) (hU : V 147 0 = U ∧ 0 ≤ U ∧ U ≤ 224) (hW : V 147 1 = W ∧ 0 ≤ W ∧ W ≤ 224) (hb : ∀ e w, 0 ≤ e → e < U → 0 ≤ w → w < W → 0 ≤ V 148 (224 * e + w) ∧ V 148 (224 * e + w) ≤ 1000000000000) : zcall 222 [(2, 130)] T V = some ((1, min 1000000000000 (zsum (zcl V W) U.toNat)), T, V) := by
  have b1 : ∀ e, 0 ≤ e → e < U → ∀ l : Int, 0 ≤ l → l < W → 0 ≤ zcl1 V e l ∧ zcl1 V e l ≤ 1000000000000 := fun e e1 e2 l l1 l2 => by
    have := hb e l e1 e2 l1 l2
    unfold zcl1
    by_cases c : V 146 e ≠ 0 ∧ V 146 (224 + l) ≠ 0
    · rw [zif_t c]; exact this
    · rw [zif_f c]; decide
  have b2 : ∀ e, 0 ≤ e → e < U → ∀ j, 0 ≤ j → j ≤ W → 0 ≤ zsum (zcl1 V e) j.toNat ∧ zsum (zcl1 V e) j.toNat ≤ 1000000000000 * 224 := fun e e1 e2 j j1 j2 => by
    have := zsum_b (f := zcl1 V e) (B := 1000000000000) (n := j.toNat) (fun l l1 l2 => b1 e e1 e2 l l1 (by omega))
    omega
  have b3 : ∀ i, 0 ≤ i → i ≤ U → 0 ≤ zsum (zcl V W) i.toNat ∧ zsum (zcl V W) i.toNat ≤ 1000000000000 * 224 * 224 := fun i i1 i2 => by
    have := zsum_b (f := zcl V W) (B := 1000000000000 * 224) (n := i.toNat) (fun l l1 l2 => b2 l l1 (by omega) W (by omega) (by omega))
    omega
  rw [e222, b222_0]
  refine zup (α := zV) (fun _ _ => True) (fun i v => ev 222 4 [(2, 130), (1, zsum (zcl V W) i.toNat), (9, 0), (0, i), v] [] T V = some ((1, min 1000000000000 (zsum (zcl V W) U.toNat)), T, V)) (lo := 0) (hi := U) hU.2.1 ?_ ?_ (9, 0) trivial
  · intro v _
    rw [b222_4 hS, hU.1, if_pos (by omega), b222_79]
    by_cases c : zsum (zcl V W) U.toNat ≤ 1000000000000
    · rw [if_pos c, b222_93, b222_94, show min 1000000000000 (zsum (zcl V W) U.toNat) = zsum (zcl V W) U.toNat by omega]
    · rw [if_neg c, b222_87, b222_94, show min 1000000000000 (zsum (zcl V W) U.toNat) = 1000000000000 by omega]
  · intro i v i1 i2 _ next
    rw [b222_4 hS, hU.1, if_neg (by omega), b222_14]
    have inner := zfor (fun j => ev 222 17 [(2, 130), (1, zsum (zcl V W) i.toNat + zsum (zcl1 V i) j.toNat), (9, 0), (0, i), (0, j)] [] T V) (lo := 0) (hi := W) hW.2.1 (fun j j1 j2 => by
      show ev 222 17 [(2, 130), (1, zsum (zcl V W) i.toNat + zsum (zcl1 V i) j.toNat), (9, 0), (0, i), (0, j)] [] T V = ev 222 17 [(2, 130), (1, zsum (zcl V W) i.toNat + zsum (zcl1 V i) (j + 1).toNat), (9, 0), (0, i), (0, (j + 1))] [] T V
      have q1 := b3 i i1 (by omega)
      have q2 := b2 i i1 i2 j j1 (by omega)
      have q3 := hb i j i1 i2 j1 j2
      rw [b222_17 hS, hW.1, if_neg (by omega), b222_28 hS (by omega), zsum_i j1]
      by_cases c1 : V 146 i = 0
      · rw [if_pos c1, b222_67 (by omega), show zcl1 V i j = 0 from zif_f (fun z => z.1 c1), Int.add_zero]
      · rw [if_neg c1, b222_37 hS (by omega) (by omega)]
        by_cases c2 : V 146 (224 + j) = 0
        · rw [if_pos c2, b222_67 (by omega), show zcl1 V i j = 0 from zif_f (fun z => z.2 c2), Int.add_zero]
        · rw [if_neg c2, b222_51 hS (by omega) (by omega) (by omega) (by omega), b222_67 (by omega), show zcl1 V i j = V 148 (224 * i + j) from zif_t ⟨c1, c2⟩, Int.add_assoc])
    have inner' : ev 222 17 [(2, 130), (1, zsum (zcl V W) i.toNat), (9, 0), (0, i), (0, 0)] [] T V = ev 222 17 [(2, 130), (1, zsum (zcl V W) i.toNat + zcl V W i), (9, 0), (0, i), (0, W)] [] T V := by
      have e0 : zsum (zcl V W) i.toNat + zsum (zcl1 V i) (0 : Int).toNat = zsum (zcl V W) i.toNat := Int.add_zero _
      rw [e0] at inner
      exact inner
    rw [inner', b222_17 hS, hW.1, if_pos (by omega), b222_73 (by omega), ← zsum_i i1]
    exact next _ trivial
end CLOSED
