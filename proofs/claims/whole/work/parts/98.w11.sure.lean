/-! sure -/
theorem z127 {j : Nat} (hj : j < 7) : zbt 127 j := by
  have : j = 0 ∨ j = 1 ∨ j = 2 ∨ j = 3 ∨ j = 4 ∨ j = 5 ∨ j = 6 := by omega
  rcases this with rfl | rfl | rfl | rfl | rfl | rfl | rfl <;> unfold zbt <;> decide
theorem zmk_lo {s : Int} {j : Nat} (hs : 0 ≤ s ∧ s < 128) (hj : j < 7) : zbt (zmk s) j ↔ zbt s j := by
  unfold zmk
  rw [zor_bt (by omega)]
  refine ⟨fun z => z.elim id (fun z => ?_), Or.inl⟩
  rw [← zbt_mod hj, show (zand 127 (zxor s (-1))) * 128 % 2 ^ 7 = 0 by omega] at z
  exact absurd z zbt_z
theorem zmk_hi {s : Int} {j : Nat} (hs : 0 ≤ s ∧ s < 128) (hj : j < 7) : zbt (zmk s) (7 + j) ↔ ¬ zbt s j := by
  unfold zmk
  rw [zor_bt (by omega), ← zbt_shr (x := (zand 127 (zxor s (-1))) * 128), show (zand 127 (zxor s (-1))) * 128 / 2 ^ 7 = zand 127 (zxor s (-1)) by omega, zand_bt (by omega), zxor_bt (by omega)]
  exact ⟨fun z => z.elim (fun z => absurd z (zbt_big hs.1 (k := 7) (by omega) (by omega))) (fun z => z.2), fun z => Or.inr ⟨z127 hj, z⟩⟩
/-- a wall has the stroke there or not -/
theorem zW_two {K : Int → Int} {a : Int} {A : Int → Int → Prop} {P : Int → Prop} {r0 : Int} (r : Nat) : ∀ e w, 0 < zW K a A r e w → 0 < zW K a (fun c s => A c s ∧ (c = r0 → P s)) r e w ∨ 0 < zW K a (fun c s => A c s ∧ (c = r0 → ¬ P s)) r e w := by
  induction r with
  | zero => intro e w h; rw [zW] at h; left; rw [zW]; exact h
  | succ r ih =>
    intro e w h
    obtain ⟨s, s1, s2, s3, s4⟩ := zW_gt.1 h
    by_cases c : (r : Int) = r0
    · by_cases p : P s
      · left
        refine zW_gt.2 ⟨s, s1, ⟨s2, fun _ => p⟩, s3, ?_⟩
        rw [zW_congr (A := fun c s => A c s ∧ (c = r0 → P s)) (B := A) (fun c' s' c1 c2 _ _ => ⟨fun z => z.1, fun z => ⟨z, fun y => by omega⟩⟩)]
        exact s4
      · right
        refine zW_gt.2 ⟨s, s1, ⟨s2, fun _ => p⟩, s3, ?_⟩
        rw [zW_congr (A := fun c s => A c s ∧ (c = r0 → ¬ P s)) (B := A) (fun c' s' c1 c2 _ _ => ⟨fun z => z.1, fun z => ⟨z, fun y => by omega⟩⟩)]
        exact s4
    · rcases ih _ _ s4 with z | z
      · exact Or.inl (zW_gt.2 ⟨s, s1, ⟨s2, fun y => absurd y c⟩, s3, z⟩)
      · exact Or.inr (zW_gt.2 ⟨s, s1, ⟨s2, fun y => absurd y c⟩, s3, z⟩)
theorem zand_z (s : Int) : zand s 0 = 0 := (zand_ey (x := s) (y := 0) (k := 7) (by decide) (by decide) (by decide)).2 (fun j _ z => absurd z zbt_z)
section SURE
variable {n : Int} {T : zT} {V : zM}
theorem zB_can {K K' : Int → Int} {N cell : Int} {j : Nat} (hj : j < 7) : zW K' 1 (zBl K N cell 0 j) N.toNat 0 0 = zW K' 1 (zAm K N cell (j : Int) 1) N.toNat 0 0 := zW_congr (fun c s c1 c2 s1 s2 => by
  unfold zBl zAl zAm
  rw [Int.toNat_natCast, zmk_lo ⟨s1, s2⟩ hj]
  exact ⟨fun z => ⟨z.1.1, fun y => ⟨fun _ => rfl, fun _ => z.2 y⟩⟩, fun z => ⟨⟨z.1, fun _ => zand_z s⟩, fun y => (z.2 y).2 rfl⟩⟩) 0 0
theorem zB_not {K K' : Int → Int} {N cell : Int} {j : Nat} (hj : j < 7) : zW K' 1 (zBl K N cell 0 (7 + j)) N.toNat 0 0 = zW K' 1 (zAm K N cell (j : Int) 0) N.toNat 0 0 := zW_congr (fun c s c1 c2 s1 s2 => by
  unfold zBl zAl zAm
  rw [Int.toNat_natCast, zmk_hi ⟨s1, s2⟩ hj]
  exact ⟨fun z => ⟨z.1.1, fun y => ⟨fun q => absurd q (z.2 y), fun q => absurd q (by decide)⟩⟩, fun z => ⟨⟨z.1, fun _ => zand_z s⟩, fun y q => absurd ((z.2 y).1 q) (by decide)⟩⟩) 0 0
theorem zA_two {K K' : Int → Int} {N cell : Int} {j : Nat} (hN : 0 ≤ N) (h : 0 < zW K' 1 (zAl K N cell 0) N.toNat 0 0) : 0 < zW K' 1 (zAm K N cell (j : Int) 1) N.toNat 0 0 ∨ 0 < zW K' 1 (zAm K N cell (j : Int) 0) N.toNat 0 0 := by
  rcases zW_two (P := fun s => zbt s j) (r0 := N - 1 - cell) _ _ _ h with z | z
  · left
    rw [zW_congr (A := zAm K N cell (j : Int) 1) (B := fun c s => zAl K N cell 0 c s ∧ (c = N - 1 - cell → zbt s j)) (fun c s c1 c2 s1 s2 => by
      unfold zAl zAm
      rw [Int.toNat_natCast]
      exact ⟨fun z => ⟨⟨z.1, fun _ => zand_z s⟩, fun y => (z.2 (by omega)).2 rfl⟩, fun z => ⟨z.1.1, fun y => ⟨fun _ => rfl, fun _ => z.2 (by omega)⟩⟩⟩)]
    exact z
  · right
    rw [zW_congr (A := zAm K N cell (j : Int) 0) (B := fun c s => zAl K N cell 0 c s ∧ (c = N - 1 - cell → ¬ zbt s j)) (fun c s c1 c2 s1 s2 => by
      unfold zAl zAm
      rw [Int.toNat_natCast]
      exact ⟨fun z => ⟨⟨z.1, fun _ => zand_z s⟩, fun y q => absurd ((z.2 (by omega)).1 q) (by decide)⟩, fun z => ⟨z.1.1, fun y => ⟨fun q => absurd q (z.2 (by omega)), fun q => absurd q (by decide)⟩⟩⟩)]
    exact z
/-- the loop of the reference -/
theorem c233 {x1 x2 : Int} (hS : zStr T) (hK : zKok (V 132)) (h1 : 0 ≤ x1 ∧ x1 < V 132 427) (h2 : 0 ≤ x2 ∧ x2 ≤ 2) (V0 : zM) (e0 : (∀ r, r ≠ 130 → ¬ (142 ≤ r ∧ r ≤ 150) → V0 r = V r) ∧ ∀ j, j ≠ 31 → V0 130 j = V 130 j) : zwp (ev 233 33 [(2, 130), (0, x1), (0, x2), (0, 0), (0, 0), (9, 0), (9, 0)] [] T V0) fun r T' V' => (∃ x, r = (0, x) ∧ (0 ≤ x ∧ x < 128) ∧ ∀ j : Nat, j < 7 → (zbt x j ↔ zbt (V 132 (316 + x1)) j ∧ ((x2 = 0 ∧ ¬ 0 < zW (zkc (V 132)) 1 (zAm (V 132) (V 132 427) x1 (j : Int) 0) (V 132 427).toNat 0 0) ∨ (x2 = 1 ∧ ¬ 0 < zW (zkc (V 132)) 1 (zAm (V 132) (V 132 427) x1 (j : Int) 1) (V 132 427).toNat 0 0) ∨ (x2 = 2 ∧ 0 < zW (zkc (V 132)) 1 (zAm (V 132) (V 132 427) x1 (j : Int) 1) (V 132 427).toNat 0 0 ∧ 0 < zW (zkc (V 132)) 1 (zAm (V 132) (V 132 427) x1 (j : Int) 0) (V 132 427).toNat 0 0)))) ∧ T' = T ∧ (∀ r, r ≠ 130 → ¬ (142 ≤ r ∧ r ≤ 150) → V' r = V r) ∧ ∀ j, j ≠ 31 → V' 130 j = V 130 j := by
  have hn := hK.n
  obtain ⟨can, hcan⟩ : ∃ can : Int → Prop, ∀ j, (can j ↔ 0 < zW (zkc (V 132)) 1 (zAm (V 132) (V 132 427) x1 j 1) (V 132 427).toNat 0 0) := ⟨_, fun _ => Iff.rfl⟩
  obtain ⟨cnt, hcnt⟩ : ∃ cnt : Int → Prop, ∀ j, (cnt j ↔ 0 < zW (zkc (V 132)) 1 (zAm (V 132) (V 132 427) x1 j 0) (V 132 427).toNat 0 0) := ⟨_, fun _ => Iff.rfl⟩
  simp only [← hcan, ← hcnt]
  obtain ⟨D, hD⟩ : ∃ D : Int → Prop, ∀ j, (D j ↔ ((x2 = 0 ∧ ¬ cnt j) ∨ (x2 = 1 ∧ ¬ can j) ∨ (x2 = 2 ∧ can j ∧ cnt j))) := ⟨_, fun _ => Iff.rfl⟩
  simp only [← hD]
  refine zup (α := zM × Int × zV × zV) (fun k s => ((∀ r, r ≠ 130 → ¬ (142 ≤ r ∧ r ≤ 150) → s.1 r = V r) ∧ ∀ j, j ≠ 31 → s.1 130 j = V 130 j) ∧ (0 ≤ s.2.1 ∧ s.2.1 < 128) ∧ ∀ j : Nat, j < 7 → (zbt s.2.1 j ↔ (j : Int) < k ∧ zbt (V 132 (316 + x1)) j ∧ D (j : Int))) (fun k s => zwp (ev 233 33 [(2, 130), (0, x1), (0, x2), (0, s.2.1), (0, k), s.2.2.1, s.2.2.2] [] T s.1) fun r T' V' => (∃ x, r = (0, x) ∧ (0 ≤ x ∧ x < 128) ∧ ∀ j : Nat, j < 7 → (zbt x j ↔ zbt (V 132 (316 + x1)) j ∧ D (j : Int))) ∧ T' = T ∧ (∀ r, r ≠ 130 → ¬ (142 ≤ r ∧ r ≤ 150) → V' r = V r) ∧ ∀ j, j ≠ 31 → V' 130 j = V 130 j) (lo := 0) (hi := 7) (by decide) ?_ ?_ (V0, 0, (9, 0), (9, 0)) ⟨e0, by show (0 : Int) ≤ 0 ∧ (0 : Int) < 128; decide, fun j hj => ⟨fun z => absurd z zbt_z, fun z => by omega⟩⟩
  · rintro ⟨V1, b, v5, v6⟩ ⟨g1, g2, g3⟩
    show zwp (ev 233 33 [(2, 130), (0, x1), (0, x2), (0, b), (0, 7), v5, v6] [] T V1) _
    rw [b233_33, if_pos (by decide), b233_152]
    refine zwp_ret ⟨⟨b, rfl, g2, fun j hj => ?_⟩, rfl, g1.1, g1.2⟩
    have := g3 j hj
    replace this : zbt b j ↔ (j : Int) < 7 ∧ zbt (V 132 (316 + x1)) j ∧ D (j : Int) := this
    rw [this]
    exact ⟨fun z => z.2, fun z => ⟨by omega, z⟩⟩
  · rintro k ⟨V1, b, v5, v6⟩ k1 k2 ⟨g1, g2, g3⟩ next
    show zwp (ev 233 33 [(2, 130), (0, x1), (0, x2), (0, b), (0, k), v5, v6] [] T V1) _
    replace g1 : (∀ r, r ≠ 130 → ¬ (142 ≤ r ∧ r ≤ 150) → V1 r = V r) ∧ ∀ j, j ≠ 31 → V1 130 j = V 130 j := g1
    replace g2 : 0 ≤ b ∧ b < 128 := g2
    replace g3 : ∀ j : Nat, j < 7 → (zbt b j ↔ (j : Int) < k ∧ zbt (V 132 (316 + x1)) j ∧ D (j : Int)) := g3
    have e : V1 132 = V 132 := g1.1 132 (by decide) (by decide)
    have kk : ((k.toNat : Nat) : Int) = k := by omega
    rw [b233_33, if_neg (by omega), b233_40 hS (by omega) (by omega) (by omega), e, zand_1]
    have skip : ∀ (W : zM) (v5 v6 : zV), ((∀ r, r ≠ 130 → ¬ (142 ≤ r ∧ r ≤ 150) → W r = V r) ∧ ∀ j, j ≠ 31 → W 130 j = V 130 j) → ∀ b', (0 ≤ b' ∧ b' < 128) → (∀ j : Nat, j < 7 → (zbt b' j ↔ zbt b j ∨ ((j : Int) = k ∧ zbt (V 132 (316 + x1)) j ∧ D k))) → zwp (ev 233 146 [(2, 130), (0, x1), (0, x2), (0, b'), (0, k), v5, v6] [] T W) fun r T' V' => (∃ x, r = (0, x) ∧ (0 ≤ x ∧ x < 128) ∧ ∀ j : Nat, j < 7 → (zbt x j ↔ zbt (V 132 (316 + x1)) j ∧ D (j : Int))) ∧ T' = T ∧ (∀ r, r ≠ 130 → ¬ (142 ≤ r ∧ r ≤ 150) → V' r = V r) ∧ ∀ j, j ≠ 31 → V' 130 j = V 130 j := fun W v5 v6 w b' r' q => by
      rw [b233_146 (by omega)]
      refine next (W, b', v5, v6) ⟨w, r', fun j hj => ?_⟩
      show zbt b' j ↔ _
      rw [q j hj, g3 j hj]
      constructor
      · rintro (⟨z1, z2, z3⟩ | ⟨z1, z2, z3⟩)
        · exact ⟨by omega, z2, z3⟩
        · exact ⟨by omega, z2, by rw [z1]; exact z3⟩
      · rintro ⟨z1, z2, z3⟩
        by_cases c : (j : Int) = k
        · exact Or.inr ⟨c, z2, by rw [← c]; exact z3⟩
        · exact Or.inl ⟨by omega, z2, z3⟩
    by_cases c : V 132 (316 + x1) / 2 ^ k.toNat % 2 = 0
    · rw [if_pos c, b233_58]
      refine skip V1 _ _ g1 b g2 (fun j hj => ⟨Or.inl, fun z => z.elim id (fun z => ?_)⟩)
      have zz := z.2.1
      rw [show j = k.toNat by omega] at zz
      unfold zbt at zz
      omega
    · have cb : zbt (V 132 (316 + x1)) k.toNat := by unfold zbt; omega
      obtain ⟨r2, T2, V2, b1, b2, b3, b4, b5⟩ := c231 (V := V1) (cell := x1) (k := k) (there := 1) hS (by rw [e]; exact hK) (by omega) (Or.inr rfl)
      subst b2
      rw [b3] at b1
      have e2 : V2 132 = V 132 := by rw [b4 132 (by decide) (by decide), e]
      obtain ⟨r3, T3, V3, d1, d2, d3, d4, d5⟩ := c231 (V := V2) (cell := x1) (k := k) (there := 0) hS (by rw [e2]; exact hK) (by omega) (Or.inl rfl)
      subst d2
      rw [d3] at d1
      rw [e] at b1
      rw [e2] at d1
      have p1 := zW_pos (zkc (V 132)) 1 (zAm (V 132) (V 132 427) x1 k 1) (V 132 427).toNat 0 0
      have p2 := zW_pos (zkc (V 132)) 1 (zAm (V 132) (V 132 427) x1 k 0) (V 132 427).toNat 0 0
      have w3 : (∀ r, r ≠ 130 → ¬ (142 ≤ r ∧ r ≤ 150) → V3 r = V r) ∧ ∀ j, j ≠ 31 → V3 130 j = V 130 j := ⟨fun r r1 r2 => by rw [d4 r r1 r2, b4 r r1 r2, g1.1 r r1 r2], fun j hj => by rw [d5 j hj, b5 j hj, g1.2 j hj]⟩
      have pk : (0 : Int) < 2 ^ k.toNat := zp2 _
      have p7 : (2 : Int) ^ k.toNat < 128 := by
        have := Nat.pow_lt_pow_right (a := 2) (n := 7) (m := k.toNat) (by decide) (by omega)
        exact_mod_cast this
      have fin : ∀ y6, (∀ x5, ((x5 = 1 ∧ can k) ∨ (x5 = 0 ∧ ¬ can k)) → ((y6 = 1 ∧ cnt k) ∨ (y6 = 0 ∧ ¬ cnt k)) → zwp (ev 233 99 [(2, 130), (0, x1), (0, x2), (0, b), (0, k), (0, x5), v6] [(0, y6)] T V3) fun r T' V' => (∃ x, r = (0, x) ∧ (0 ≤ x ∧ x < 128) ∧ ∀ j : Nat, j < 7 → (zbt x j ↔ zbt (V 132 (316 + x1)) j ∧ D (j : Int))) ∧ T' = T ∧ (∀ r, r ≠ 130 → ¬ (142 ≤ r ∧ r ≤ 150) → V' r = V r) ∧ ∀ j, j ≠ 31 → V' 130 j = V 130 j) := fun y6 x5 hx hy => by
        have yes : D k → zwp (ev 233 136 [(2, 130), (0, x1), (0, x2), (0, b), (0, k), (0, x5), (0, y6)] [(0, b)] T V3) fun r T' V' => (∃ x, r = (0, x) ∧ (0 ≤ x ∧ x < 128) ∧ ∀ j : Nat, j < 7 → (zbt x j ↔ zbt (V 132 (316 + x1)) j ∧ D (j : Int))) ∧ T' = T ∧ (∀ r, r ≠ 130 → ¬ (142 ≤ r ∧ r ≤ 150) → V' r = V r) ∧ ∀ j, j ≠ 31 → V' 130 j = V 130 j := fun dk => by
          rw [b233_136 (by omega), b233_144]
          refine skip V3 _ _ w3 _ (zor_n (k := 7) (by decide) g2.1 g2.2 (by omega) p7) (fun j hj => ?_)
          rw [zor_bt (by omega), zbt_p2]
          constructor
          · rintro (z | z)
            · exact Or.inl z
            · exact Or.inr ⟨by omega, by rw [← z]; exact cb, dk⟩
          · rintro (z | z)
            · exact Or.inl z
            · exact Or.inr (by omega)
        have no : ¬ D k → zwp (ev 233 143 [(2, 130), (0, x1), (0, x2), (0, b), (0, k), (0, x5), (0, y6)] [(0, b)] T V3) fun r T' V' => (∃ x, r = (0, x) ∧ (0 ≤ x ∧ x < 128) ∧ ∀ j : Nat, j < 7 → (zbt x j ↔ zbt (V 132 (316 + x1)) j ∧ D (j : Int))) ∧ T' = T ∧ (∀ r, r ≠ 130 → ¬ (142 ≤ r ∧ r ≤ 150) → V' r = V r) ∧ ∀ j, j ≠ 31 → V' 130 j = V 130 j := fun dk => by
          rw [b233_143, b233_144, zor_0 (by omega)]
          exact skip V3 _ _ w3 b g2 (fun j hj => ⟨Or.inl, fun z => z.elim id (fun z => absurd z.2.2 dk)⟩)
        have hDk := hD k
        rw [b233_99]
        rcases hx with ⟨rfl, hx⟩ | ⟨rfl, hx⟩ <;> rcases hy with ⟨rfl, hy⟩ | ⟨rfl, hy⟩
        · by_cases q0 : x2 = 0
          · rw [if_pos q0, b233_106, if_neg (by decide), b233_111, if_neg (by omega), b233_121, if_neg (by omega)]
            exact no (fun z => by rcases hDk.1 z with z | z | z; exact z.2 hy; omega; omega)
          · rw [if_neg q0, b233_111]
            by_cases q1 : x2 = 1
            · rw [if_pos q1, b233_116, if_neg (by decide), b233_121, if_neg (by omega)]
              exact no (fun z => by rcases hDk.1 z with z | z | z; omega; exact z.2 hx; omega)
            · rw [if_neg q1, b233_121, if_pos (by omega), b233_126, if_neg (by decide), b233_131, if_neg (by decide)]
              exact yes (hDk.2 (Or.inr (Or.inr ⟨by omega, hx, hy⟩)))
        · by_cases q0 : x2 = 0
          · rw [if_pos q0, b233_106, if_pos rfl]
            exact yes (hDk.2 (Or.inl ⟨q0, hy⟩))
          · rw [if_neg q0, b233_111]
            by_cases q1 : x2 = 1
            · rw [if_pos q1, b233_116, if_neg (by decide), b233_121, if_neg (by omega)]
              exact no (fun z => by rcases hDk.1 z with z | z | z; omega; exact z.2 hx; omega)
            · rw [if_neg q1, b233_121, if_pos (by omega), b233_126, if_neg (by decide), b233_131, if_pos rfl]
              exact no (fun z => by rcases hDk.1 z with z | z | z; omega; omega; exact hy z.2.2)
        · by_cases q0 : x2 = 0
          · rw [if_pos q0, b233_106, if_neg (by decide), b233_111, if_neg (by omega), b233_121, if_neg (by omega)]
            exact no (fun z => by rcases hDk.1 z with z | z | z; exact z.2 hy; omega; omega)
          · rw [if_neg q0, b233_111]
            by_cases q1 : x2 = 1
            · rw [if_pos q1, b233_116, if_pos rfl]
              exact yes (hDk.2 (Or.inr (Or.inl ⟨q1, hx⟩)))
            · rw [if_neg q1, b233_121, if_pos (by omega), b233_126, if_pos rfl]
              exact no (fun z => by rcases hDk.1 z with z | z | z; omega; omega; exact hx z.2.1)
        · by_cases q0 : x2 = 0
          · rw [if_pos q0, b233_106, if_pos rfl]
            exact yes (hDk.2 (Or.inl ⟨q0, hy⟩))
          · rw [if_neg q0, b233_111]
            by_cases q1 : x2 = 1
            · rw [if_pos q1, b233_116, if_pos rfl]
              exact yes (hDk.2 (Or.inr (Or.inl ⟨q1, hx⟩)))
            · rw [if_neg q1, b233_121, if_pos (by omega), b233_126, if_pos rfl]
              exact no (fun z => by rcases hDk.1 z with z | z | z; omega; omega; exact hx z.2.1)
      have mid : ∀ x5, ((x5 = 1 ∧ can k) ∨ (x5 = 0 ∧ ¬ can k)) → zwp (ev 233 79 [(2, 130), (0, x1), (0, x2), (0, b), (0, k), v5, v6] [(0, x5)] T V2) fun r T' V' => (∃ x, r = (0, x) ∧ (0 ≤ x ∧ x < 128) ∧ ∀ j : Nat, j < 7 → (zbt x j ↔ zbt (V 132 (316 + x1)) j ∧ D (j : Int))) ∧ T' = T ∧ (∀ r, r ≠ 130 → ¬ (142 ≤ r ∧ r ≤ 150) → V' r = V r) ∧ ∀ j, j ≠ 31 → V' 130 j = V 130 j := fun x5 hx => by
        rw [b233_79 hS, d1]
        simp only [Option.bind_some, zpush1]
        rw [b233_89]
        by_cases c2 : cnt k
        · have := (hcnt k).1 c2
          rw [if_neg (by omega), b233_94]
          exact fin 1 x5 hx (Or.inl ⟨rfl, c2⟩)
        · have : ¬ 0 < zW (zkc (V 132)) 1 (zAm (V 132) (V 132 427) x1 k 0) (V 132 427).toNat 0 0 := fun z => c2 ((hcnt k).2 z)
          rw [if_pos (by omega), b233_98]
          exact fin 0 x5 hx (Or.inr ⟨rfl, c2⟩)
      rw [if_neg c, b233_61 hS, b1]
      simp only [Option.bind_some, zpush1]
      rw [b233_69]
      by_cases c1 : can k
      · have := (hcan k).1 c1
        rw [if_neg (by omega), b233_74]
        exact mid 1 (Or.inl ⟨rfl, c1⟩)
      · have : ¬ 0 < zW (zkc (V 132)) 1 (zAm (V 132) (V 132 427) x1 k 1) (V 132 427).toNat 0 0 := fun z => c1 ((hcan k).2 z)
        rw [if_pos (by omega), b233_78]
        exact mid 0 (Or.inr ⟨rfl, c1⟩)
end SURE
