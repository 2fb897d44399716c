/-! tells, lengths: both sides -/
def zMt (V0 V : zM) (K : Int → Int) (c : Int) : Prop := zWm V0 V K 0 ∧ (∀ p, 0 ≤ p → p < 729 → V 150 p = zct K (fun _ => True) p) ∧ ∀ r : Nat, zN2 V 148 K 0 (fun _ _ => True) (zuse K 0 0) (zuse K 0 1) r = min 1000000000000 (zW K 0 (fun _ _ => True) (c.toNat + r) 0 0)
section TELLS3
variable {n : Int} {T : zT} {V : zM}
/-- starts, over what laysStories has laid -/
theorem c219w {V0 : zM} {K : Int → Int} {a : Int} (hS : zStr T) (hW : zKw K) (h1 : ∀ r, r ≠ 130 → ¬ (142 ≤ r ∧ r ≤ 150) → V r = V0 r) (h2 : ∀ j, j ≠ 31 → V 130 j = V0 130 j) (h3 : zSto V K a) : zwp (zcall 219 [(2, 130)] T V) fun r T' V' => r = (9, 0) ∧ T' = T ∧ zWm V0 V' K a ∧ (∀ r, r ≠ 148 → V' r = V r) ∧ ∀ (A : Int → Int → Prop) (r : Nat), zN2 V' 148 K a A (zuse K a 0) (zuse K a 1) r = min 1000000000000 (zW K a A r 0 0) := by
  have u0 := zuse_r (a := a) hW (Or.inl rfl)
  have u1 := zuse_r (a := a) hW (Or.inr rfl)
  obtain ⟨r, T', V', e1, e2, e3, e4, e5⟩ := c219 (V := V) (U := zuse K a 0) (W := zuse K a 1) hS ⟨h3.2.1, by omega, u0.2⟩ ⟨h3.2.2.1, by omega, u1.2⟩
  refine ⟨r, T', V', e1, e2, e3, ⟨fun r r1 r2 => by rw [e4 r (by omega), h1 r r1 r2], fun j hj => by rw [e4 130 (by decide), h2 j hj], zSto_congr h3 (by rw [e4 130 (by decide)]) (e4 _ (by decide)) (e4 _ (by decide)) (e4 _ (by decide)), fun e w e1 e2 w1 w2 => ?_⟩, e4, fun A r => zN2_0 (by omega) (by omega) e5 r⟩
  rw [e5 e w e1 e2 w1 w2]
  by_cases c : e = 0 ∧ w = 0
  · rw [if_pos c]; decide
  · rw [if_neg c]; decide
theorem c222w {V0 : zM} {K : Int → Int} {a : Int} (A : Int → Int → Prop) (hS : zStr T) (hW : zKw K) (h : zWm V0 V K a) : zcall 222 [(2, 130)] T V = some ((1, zN2 V 148 K a A (zuse K a 0) (zuse K a 1) 0), T, V) := by
  have u0 := zuse_r (a := a) hW (Or.inl rfl)
  have u1 := zuse_r (a := a) hW (Or.inr rfl)
  obtain ⟨h1, h2, h3, h4⟩ := h
  rw [zN2_e h3 (by omega) (by omega) h4]
  exact c222 hS ⟨h3.2.1, by omega, u0.2⟩ ⟨h3.2.2.1, by omega, u1.2⟩ h4
theorem zMt_0 (hS : zStr T) (hK : zKok (V 132)) : ∃ V1 V2 V3, zcall 211 [(2, 130), (0, 0)] T V = some ((9, 0), T, V1) ∧ zcall 218 [(2, 130)] T V1 = some ((9, 0), T, V2) ∧ zcall 219 [(2, 130)] T V2 = some ((9, 0), T, V3) ∧ zMt V V3 (zkc (V 132)) 0 := by
  obtain ⟨r1, T1, V1, a1, a2, a3, a4, a5, a6, a7⟩ := c211 (V := V) (a := 0) hS hK (Or.inl rfl)
  subst a2; subst a3
  obtain ⟨r2, T2, V2, b1, b2, b3, b4, b5⟩ := c218 (V := V1) hS a7
  subst b2; subst b3
  obtain ⟨r3, T3, V3, c1, c2, c3, c4, c5, c6⟩ := c219w (V := V2) (V0 := V) (K := zkc (V 132)) (a := 0) hS (zKw_of hK) (fun r r1 r2 => by rw [b4 r (by omega), a4 r r1 (by omega)]) (fun j hj => by rw [b4 130 (by decide), a5 j hj]) (zSto_congr a6 (by rw [b4 130 (by decide)]) (b4 _ (by decide)) (b4 _ (by decide)) (b4 _ (by decide)))
  subst c2; subst c3
  refine ⟨V1, V2, V3, a1, b1, c1, c4, fun p p1 p2 => by rw [c5 150 (by decide)]; exact b5 p p1 p2, fun r => ?_⟩
  rw [c6, show (0 : Int).toNat + r = r by omega]
theorem zMt_s {V0 : zM} {K : Int → Int} {c : Int} (hS : zStr T) (hW : zKw K) (hc : 0 ≤ c) (h : zMt V0 V K c) : zwp (zcall 220 [(2, 130)] T V) fun r T' V' => r = (9, 0) ∧ T' = T ∧ zMt V0 V' K (c + 1) := by
  obtain ⟨h1, h2, h3⟩ := h
  obtain ⟨r, T', V', e1, e2, e3, e4, e5, e6⟩ := c220w (A := fun _ _ => True) hS hW h1 (fun p p1 p2 => by rw [h2 p p1 p2]; exact zct_r _ _ _)
  refine ⟨r, T', V', e1, e2, e3, e4, fun p p1 p2 => by rw [e5 150 (by decide) (by decide)]; exact h2 p p1 p2, fun r => ?_⟩
  rw [e6 r h2, h3 (r + 1), show c.toNat + (r + 1) = (c + 1).toNat + r by omega]
theorem zMt_e {V0 : zM} {K : Int → Int} {c : Int} (hS : zStr T) (hW : zKw K) (h : zMt V0 V K c) : zcall 222 [(2, 130)] T V = some ((1, min 1000000000000 (zW K 0 (fun _ _ => True) c.toNat 0 0)), T, V) := by
  rw [c222w (fun _ _ => True) hS hW h.1, h.2.2 0, Nat.add_zero]
theorem c210 (hS : zStr T) (hK : zKok (V 132)) : zwp (zcall 210 [(2, 130)] T V) fun r T' V' => r = (1, min 1000000000000 (zW (zkc (V 132)) 0 (fun _ _ => True) (V 132 427).toNat 0 0)) ∧ T' = T ∧ (∀ r, r ≠ 130 → ¬ (142 ≤ r ∧ r ≤ 150) → V' r = V r) ∧ ∀ j, j ≠ 31 → V' 130 j = V 130 j := by
  obtain ⟨V1, V2, V3, a1, a2, a3, h0⟩ := zMt_0 hS hK
  have hn := hK.n
  rw [e210, b210_0 hS, a1]
  simp only [Option.bind_some, zpush9]
  rw [b210_5 hS, a2]
  simp only [Option.bind_some, zpush9]
  rw [b210_9 hS, a3]
  simp only [Option.bind_some, zpush9]
  rw [b210_13]
  refine zup (α := zM) (fun i V' => zMt V V' (zkc (V 132)) i) (fun i V' => zwp (ev 210 15 [(2, 130), (0, i)] [] T V') fun r T' V' => r = (1, min 1000000000000 (zW (zkc (V 132)) 0 (fun _ _ => True) (V 132 427).toNat 0 0)) ∧ T' = T ∧ (∀ r, r ≠ 130 → ¬ (142 ≤ r ∧ r ≤ 150) → V' r = V r) ∧ ∀ j, j ≠ 31 → V' 130 j = V 130 j) (lo := 0) (hi := V 132 427) (by omega) ?_ ?_ V3 h0
  · intro V4 h4
    have e : V4 132 = V 132 := h4.1.1 132 (by decide) (by decide)
    rw [b210_15 hS, e, if_pos (by omega), b210_37 hS, zMt_e hS (zKw_of hK) h4]
    simp only [Option.bind_some, zpush1]
    rw [b210_41]
    exact zwp_ret ⟨rfl, rfl, h4.1.1, h4.1.2.1⟩
  · intro i V4 i1 i2 h4 next
    have e : V4 132 = V 132 := h4.1.1 132 (by decide) (by decide)
    obtain ⟨r, T', V5, d1, d2, d3, d4⟩ := zMt_s hS (zKw_of hK) i1 h4
    subst d2; subst d3
    rw [b210_15 hS, e, if_neg (by omega), b210_27 hS, d1]
    simp only [Option.bind_some, zpush9]
    rw [b210_31 (by omega)]
    exact next V5 d4
theorem k_tells (h : zJ n T V) (hn : n < 1000) : zSame 1 100 210 [] n T V := by
  have hS := h.str
  obtain ⟨r1, T1, V1, a1, a2, a3, a4, -⟩ := c101 h
  subst a2
  have hS1 := a3.str
  have n1 := a3.ok.n
  have e1 := a3.sr.n
  unfold zSame
  rw [e100, b100_0 hS, a1]
  simp only [Option.bind_some, zpush9]
  rw [b100_4 hS1 (by omega)]
  refine zwp_ret ?_
  obtain ⟨r2, T2, V2, b1, b2, b3, b4, b5⟩ := c210 (V := V1) hS1 a3.ok
  subst b2; subst b3
  rw [b1]
  have t := (a3.tl a4 (V1 132 427).toNat (by omega) (by omega)).1
  have en : (((V1 132 427).toNat : Nat) : Int) = V1 132 427 := by omega
  rw [en] at t
  refine zwp_ret ⟨⟨_, rfl, by rw [e1, t]⟩, zJ_md a3 hn (fun r => ?_) (fun j hj => b5 j (by omega))⟩
  by_cases c : r = 130
  · exact Or.inr (Or.inr (Or.inr (Or.inl c)))
  · by_cases c2 : 142 ≤ r ∧ r ≤ 150
    · exact Or.inl (by omega)
    · exact Or.inr (Or.inr (Or.inr (Or.inr (b4 r c c2))))
/-- the i-th with p, or how many -/
noncomputable def zLen (p : Int → Prop) (i : Int) : Nat → Int → Int → Int
  | 0, w, _ => if i = -1 then w else -1
  | k + 1, w, x => zif (p x) (if w = i then x else zLen p i k (w + 1) (x + 1)) (zLen p i k w (x + 1))
theorem zLen_congr {p q : Int → Prop} {i : Int} : ∀ (k : Nat) (w x : Int), (∀ y, x ≤ y → y < x + k → (p y ↔ q y)) → zLen p i k w x = zLen q i k w x
  | 0, _, _, _ => rfl
  | k + 1, w, x, h => by
    rw [zLen, zLen, zLen_congr k (w + 1) (x + 1) (fun y h1 h2 => h y (by omega) (by omega)), zLen_congr k w (x + 1) (fun y h1 h2 => h y (by omega) (by omega))]
    exact zif_congr (h x (by omega) (by omega)) (fun _ => rfl) (fun _ => rfl)
theorem zLen_neg {p : Int → Prop} {i : Int} (hi : i < -1) : ∀ (k : Nat) (w x : Int), 0 ≤ w → zLen p i k w x = -1
  | 0, _, _, _ => by rw [zLen, if_neg (by omega)]
  | k + 1, w, x, h => by
    rw [zLen, if_neg (by omega), zLen_neg hi k (w + 1) (x + 1) (by omega), zLen_neg hi k w (x + 1) h]
    by_cases c : p x
    · rw [zif_t c]
    · rw [zif_f c]
theorem c122 {i : Int} (hS : zStr T) : ev 122 8 [(2, 0), (0, i), (0, 0), (0, 1)] [] T V = some ((0, zLen (fun y => 0 < V 115 y) i 16 0 1), T, V) := by
  refine zup (α := Int) (fun x w => 0 ≤ w ∧ w ≤ x) (fun x w => ev 122 8 [(2, 0), (0, i), (0, w), (0, x)] [] T V = some ((0, zLen (fun y => 0 < V 115 y) i (17 - x).toNat w x), T, V)) (lo := 1) (hi := 17) (by decide) ?_ ?_ 0 (by decide)
  · intro w _
    rw [b122_8, if_pos (by decide), b122_44, show ((17 : Int) - 17).toNat = 0 by decide, zLen]
    by_cases c : i = -1
    · rw [if_pos c, if_pos c, b122_49, b122_54]
    · rw [if_neg c, if_neg c, b122_53, b122_54]
  · intro x w x1 x2 hw next
    rw [b122_8, if_neg (by omega), b122_14 hS (by omega), show (17 - x).toNat = (17 - (x + 1)).toNat + 1 by omega, zLen]
    by_cases c : V 115 x ≤ 0
    · rw [if_pos c, b122_38 (by omega), zif_f (by omega)]
      exact next w (by omega)
    · rw [if_neg c, b122_28, zif_t (by omega)]
      by_cases c2 : w = i
      · rw [if_pos c2, if_pos c2, b122_33]
      · rw [if_neg c2, if_neg c2, b122_35 (by omega), b122_38 (by omega)]
        exact next (w + 1) (by omega)
theorem c223 {i : Int} (hS : zStr T) (hK : zKok (V 132)) : zwp (zcall 223 [(2, 130), (0, i)] T V) fun r T' V' => r = (0, zLen (fun y => 0 < zW (zkc (V 132)) 0 (fun _ _ => True) y.toNat 0 0) i 16 0 1) ∧ T' = T ∧ (∀ r, r ≠ 130 → ¬ (142 ≤ r ∧ r ≤ 150) → V' r = V r) ∧ ∀ j, j ≠ 31 → V' 130 j = V 130 j := by
  rw [e223, b223_0]
  by_cases ci : -1 ≤ i
  · rw [if_pos ci]
    obtain ⟨V1, V2, V3, a1, a2, a3, h0⟩ := zMt_0 hS hK
    rw [b223_7 hS, a1]
    simp only [Option.bind_some, zpush9]
    rw [b223_12 hS, a2]
    simp only [Option.bind_some, zpush9]
    rw [b223_16 hS, a3]
    simp only [Option.bind_some, zpush9]
    rw [b223_20]
    refine zup (α := zM × Int) (fun x s => zMt V s.1 (zkc (V 132)) (x - 1) ∧ 0 ≤ s.2 ∧ s.2 ≤ x) (fun x s => zwp (ev 223 24 [(2, 130), (0, i), (0, s.2), (0, x)] [] T s.1) fun r T' V' => r = (0, zLen (fun y => 0 < zW (zkc (V 132)) 0 (fun _ _ => True) y.toNat 0 0) i (17 - x).toNat s.2 x) ∧ T' = T ∧ (∀ r, r ≠ 130 → ¬ (142 ≤ r ∧ r ≤ 150) → V' r = V r) ∧ ∀ j, j ≠ 31 → V' 130 j = V 130 j) (lo := 1) (hi := 17) (by decide) ?_ ?_ (V3, 0) ⟨by show zMt V V3 (zkc (V 132)) (1 - 1); rw [show (1 : Int) - 1 = 0 by decide]; exact h0, by show (0 : Int) ≤ 0; decide, by show (0 : Int) ≤ 1; decide⟩
    · rintro ⟨V4, w⟩ ⟨h4, -, -⟩
      show zwp (ev 223 24 [(2, 130), (0, i), (0, w), (0, 17)] [] T V4) _
      replace h4 : zMt V V4 (zkc (V 132)) (17 - 1) := h4
      rw [b223_24, if_pos (by decide), b223_62, show ((17 : Int) - 17).toNat = 0 by decide]
      by_cases c : i = -1
      · rw [if_pos c, b223_67, b223_72]
        exact zwp_ret ⟨by rw [zLen, if_pos c], rfl, h4.1.1, h4.1.2.1⟩
      · rw [if_neg c, b223_71, b223_72]
        exact zwp_ret ⟨by rw [zLen, if_neg c], rfl, h4.1.1, h4.1.2.1⟩
    · rintro x ⟨V4, w⟩ x1 x2 ⟨h4, w1, w2⟩ next
      show zwp (ev 223 24 [(2, 130), (0, i), (0, w), (0, x)] [] T V4) _
      replace h4 : zMt V V4 (zkc (V 132)) (x - 1) := h4
      replace w1 : 0 ≤ w := w1
      replace w2 : w ≤ x := w2
      obtain ⟨r, T', V5, d1, d2, d3, d4⟩ := zMt_s hS (zKw_of hK) (by omega) h4
      subst d2; subst d3
      rw [show x - 1 + 1 = x by omega] at d4
      have z0 := zW_pos (zkc (V 132)) 0 (fun _ _ => True) x.toNat 0 0
      rw [b223_24, if_neg (by omega), b223_30 hS, d1]
      simp only [Option.bind_some, zpush9]
      rw [b223_34 hS, zMt_e hS (zKw_of hK) d4]
      simp only [Option.bind_some, zpush1]
      rw [b223_38, show (17 - x).toNat = (17 - (x + 1)).toNat + 1 by omega, zLen]
      have d5 : zMt V V5 (zkc (V 132)) (x + 1 - 1) := by rw [show x + 1 - 1 = x by omega]; exact d4
      by_cases c : 0 < zW (zkc (V 132)) 0 (fun _ _ => True) x.toNat 0 0
      · rw [if_neg (by omega), b223_46, zif_t c]
        by_cases c2 : w = i
        · rw [if_pos c2, if_pos c2, b223_51]
          exact zwp_ret ⟨rfl, rfl, d4.1.1, d4.1.2.1⟩
        · rw [if_neg c2, if_neg c2, b223_53 (by omega), b223_56 (by omega)]
          exact next (V5, w + 1) ⟨d5, by show 0 ≤ w + 1; omega, by show w + 1 ≤ x + 1; omega⟩
      · rw [if_pos (by omega), b223_43, b223_56 (by omega), zif_f c]
        exact next (V5, w) ⟨d5, w1, by show w ≤ x + 1; omega⟩
  · rw [if_neg ci, b223_5]
    exact zwp_ret ⟨by rw [zLen_neg (by omega) _ _ _ (by decide)], rfl, fun _ _ _ => rfl, fun _ _ => rfl⟩
theorem k_lengths {x1 : Int} (h : zJ n T V) (hn : n < 1000) : zSame 0 122 223 [(0, x1)] n T V := by
  have hS := h.str
  obtain ⟨r1, T1, V1, a1, a2, a3, a4, -⟩ := c101 h
  subst a2
  have hS1 := a3.str
  unfold zSame
  rw [e122, b122_0 hS, a1]
  simp only [Option.bind_some, zpush9]
  rw [b122_4, c122 hS1]
  refine zwp_ret ?_
  obtain ⟨r2, T2, V2, b1, b2, b3, b4, b5⟩ := c223 (i := x1) (V := V1) hS1 a3.ok
  subst b2; subst b3
  rw [b1]
  refine zwp_ret ⟨⟨_, rfl, ?_⟩, zJ_md a3 hn (fun r => ?_) (fun j hj => b5 j (by omega))⟩
  · rw [zLen_congr 16 0 1 (p := fun y => 0 < V1 115 y) (q := fun y => 0 < zW (zkc (V1 132)) 0 (fun _ _ => True) y.toNat 0 0)]
    intro y y1 y2
    have t := (a3.tl a4 y.toNat (by omega) (by omega)).1
    have en : ((y.toNat : Nat) : Int) = y := by omega
    rw [en] at t
    have z0 := zW_pos (zkc (V1 132)) 0 (fun _ _ => True) y.toNat 0 0
    show 0 < V1 115 y ↔ 0 < zW (zkc (V1 132)) 0 (fun _ _ => True) y.toNat 0 0
    omega
  · by_cases c : r = 130
    · exact Or.inr (Or.inr (Or.inr (Or.inl c)))
    · by_cases c2 : 142 ≤ r ∧ r ≤ 150
      · exact Or.inl (by omega)
      · exact Or.inr (Or.inr (Or.inr (Or.inr (b4 r c c2))))
end TELLS3
