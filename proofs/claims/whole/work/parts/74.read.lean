/-! readings: costs, what is seen, kinds -/
theorem zcs_hi {K : Int → Int} {s : Int} {i : Nat} (h0 : 0 ≤ s) (h : s < 2 ^ i) : ∀ k : Nat, zcs K s (i + k) = zcs K s i := by
  intro k
  induction k with
  | zero => rfl
  | succ k ih =>
    rw [show i + (k + 1) = (i + k) + 1 from rfl, zcs, ih]
    have := zbt_big (x := s) (j := i + k) h0 h (by omega)
    unfold zbt at this
    rw [if_neg this, Int.add_zero]
theorem zseen_hi {K : Int → Int} {s : Int} {i : Nat} (h0 : 0 ≤ s) (h : s < 2 ^ i) : ∀ k : Nat, zseen K s (i + k) = zseen K s i := by
  intro k
  induction k with
  | zero => rfl
  | succ k ih =>
    rw [show i + (k + 1) = (i + k) + 1 from rfl, zseen, ih]
    have := zbt_big (x := s) (j := i + k) h0 h (by omega)
    unfold zbt at this
    rw [if_neg this]
theorem zbt_add {s : Int} {i j : Nat} (h : j < i) : zbt (2 ^ i + s) j ↔ zbt s j := by
  have e : (2 ^ i + s) % 2 ^ i = s % 2 ^ i := by rw [Int.add_emod, Int.emod_self, Int.zero_add, Int.emod_emod]
  rw [← zbt_mod (x := 2 ^ i + s) h, e, zbt_mod h]
theorem zbt_top {s : Int} {i : Nat} (h0 : 0 ≤ s) (h : s < 2 ^ i) : zbt (2 ^ i + s) i := by
  unfold zbt
  have := zp2 i
  have e : (2 ^ i + s) / 2 ^ i = 1 := by
    rw [Int.ediv_eq_iff_of_pos this]; omega
  rw [e]
  decide
theorem zcs_lo {K : Int → Int} {s : Int} {i : Nat} : ∀ k : Nat, k ≤ i → zcs K (2 ^ i + s) k = zcs K s k := by
  intro k hk
  induction k with
  | zero => rfl
  | succ k ih =>
    rw [zcs, zcs, ih (by omega)]
    have := zbt_add (s := s) (i := i) (j := k) (by omega)
    unfold zbt at this
    simp only [this]
theorem zseen_lo {K : Int → Int} {s : Int} {i : Nat} : ∀ k : Nat, k ≤ i → zseen K (2 ^ i + s) k = zseen K s k := by
  intro k hk
  induction k with
  | zero => rfl
  | succ k ih =>
    rw [zseen, zseen, ih (by omega)]
    have := zbt_add (s := s) (i := i) (j := k) (by omega)
    unfold zbt at this
    simp only [this]
theorem zcst_bit {K : Int → Int} {s : Int} {i : Nat} (hi : i < 7) (h0 : 0 ≤ s) (h : s < 2 ^ i) : zcst K (2 ^ i + s) = zcst K s + K (293 + (i : Int)) := by
  unfold zcst
  have h2 : 2 ^ i + s < 2 ^ (i + 1) := by rw [Int.pow_succ]; omega
  have h1 := zp2 i
  have e1 := zcs_hi (K := K) (s := 2 ^ i + s) (i := i + 1) (by omega) h2 (6 - i)
  have e2 := zcs_hi (K := K) (s := s) (i := i) h0 h (7 - i)
  rw [show i + 1 + (6 - i) = 7 by omega] at e1
  rw [show i + (7 - i) = 7 by omega] at e2
  have ht := zbt_top h0 h
  unfold zbt at ht
  rw [e1, e2, zcs, zcs_lo i (Nat.le_refl i), if_pos ht]
theorem zseen_bit {K : Int → Int} {s : Int} {i : Nat} (hi : i < 7) (h0 : 0 ≤ s) (h : s < 2 ^ i) : zseen K (2 ^ i + s) 7 = zor (zseen K s 7) (2 ^ (K (286 + (i : Int))).toNat) := by
  have h2 : 2 ^ i + s < 2 ^ (i + 1) := by rw [Int.pow_succ]; omega
  have h1 := zp2 i
  have e1 := zseen_hi (K := K) (s := 2 ^ i + s) (i := i + 1) (by omega) h2 (6 - i)
  have e2 := zseen_hi (K := K) (s := s) (i := i) h0 h (7 - i)
  rw [show i + 1 + (6 - i) = 7 by omega] at e1
  rw [show i + (7 - i) = 7 by omega] at e2
  have ht := zbt_top h0 h
  unfold zbt at ht
  rw [e1, e2, zseen, zseen_lo i (Nat.le_refl i), if_pos ht]
theorem zcst_0 {K : Int → Int} : zcst K 0 = 0 := by
  unfold zcst
  have := zcs_hi (K := K) (s := 0) (i := 0) (by decide) (by decide) 7
  exact this
theorem zseen_0 {K : Int → Int} : zseen K 0 7 = 0 := by
  have := zseen_hi (K := K) (s := 0) (i := 0) (by decide) (by decide) 7
  exact this
/-- the least letter above l that fits -/
noncomputable def zab0 (K : Int → Int) (t s : Int) (l : Int) : Int := zif (zlst (fun x => l ≤ x ∧ zfit K t s x) 26 < 26) (zlst (fun x => l ≤ x ∧ zfit K t s x) 26) 26
theorem zab_26 {K : Int → Int} {t s : Int} : zlst (fun x => 26 ≤ x ∧ zfit K t s x) 26 = 26 := zlst_u ⟨by decide, by decide⟩ (fun h => by omega) (fun l h1 h2 h3 => by have := h3.1; omega)
theorem zab_0 {K : Int → Int} {t s : Int} : zlst (fun x => 0 ≤ x ∧ zfit K t s x) 26 = zsgn K t s := zlst_congr fun l h1 h2 => ⟨fun h => h.2, fun h => ⟨h1, h⟩⟩
theorem zab_s {K : Int → Int} {t s l : Int} (h : 0 ≤ l ∧ l < 26) : zlst (fun x => l ≤ x ∧ zfit K t s x) 26 = zif (zfit K t s l) l (zlst (fun x => l + 1 ≤ x ∧ zfit K t s x) 26) := by
  by_cases g : zfit K t s l
  · rw [zif_t g]
    exact zlst_u ⟨h.1, by omega⟩ (fun _ => ⟨Int.le_refl l, g⟩) (fun x h1 h2 h3 => by have := h3.1; omega)
  · rw [zif_f g]
    refine zlst_congr fun x h1 h2 => ⟨fun q => ⟨?_, q.2⟩, fun q => ⟨by omega, q.2⟩⟩
    have : x ≠ l := fun e => g (e ▸ q.2)
    omega
section READ
variable {T : zT} {V : zM}
theorem c18 {b n x : Int} (h : zAr T b 0 n) (hn : 0 ≤ n ∧ n ≤ 100000) : zcall 18 [(2, b), (0, x)] T V = some ((9, 0), T, zs V b (fun j => if 0 ≤ j ∧ j < n then x else V b j)) := by
  have key := zfor (fun i => ev 18 5 [(2, b), (0, x), (0, i), (0, n)] [] T (zs V b (fun j => if 0 ≤ j ∧ j < i then x else V b j))) (lo := 0) (hi := n) hn.1 (fun i h1 h2 => by
    show ev 18 5 _ _ _ _ = ev 18 5 _ _ _ _
    rw [b18_5, if_neg (by omega), b18_10 h ⟨h1, h2⟩ (by omega), zwr_zs]
    congr 2
    funext j
    (repeat' split) <;> first | rfl | (exfalso; omega))
  have e0 : zs V b (fun j => if 0 ≤ j ∧ j < 0 then x else V b j) = V := by
    have : (fun j => if 0 ≤ j ∧ j < 0 then x else V b j) = V b := by
      funext j
      rw [if_neg (by omega)]
    rw [this, zs_id]
  rw [e18, b18_0 h]
  have k0 := key
  simp only [e0] at k0
  rw [k0, b18_5, if_pos (by omega), b18_20]
/-- the kinds of a tongue -/
theorem c17 {b q k t : Int} {K : Int → Int} (h : zTongue T b) (hq : zAr T q 0 128) (hk : zAr T k 0 128) (hd : ¬ (b ≤ k ∧ k ≤ b + 7) ∧ q ≠ k) (hT : zTg V b K t) (hK : zKok K) (ht : 0 ≤ t ∧ t ≤ 1) (hs : ∀ s, 0 ≤ s → s < 128 → V q s = zsee K t s) : zwp (zcall 17 [(2, b), (2, q), (2, k)] T V) fun r T' V' => r = (9, 0) ∧ T' = T ∧ (∀ r, r ≠ k → V' r = V r) ∧ ∀ s, 0 ≤ s → s < 128 → V' k s = zsgn K t s := by
  have body : ∀ (W : zM) (v4 v5 v6 : zV), ((∀ r, r ≠ k → W r = V r) ∧ ∀ s, 0 ≤ s → s < 128 → W k s = zlst (fun x => 25 + 1 ≤ x ∧ zfit K t s x) 26) → zwp (ev 17 9 [(2, b), (2, q), (2, k), (0, 25), v4, v5, v6] [] T W) fun r T' V' => r = (9, 0) ∧ T' = T ∧ (∀ r, r ≠ k → V' r = V r) ∧ ∀ s, 0 ≤ s → s < 128 → V' k s = zsgn K t s := by
    intro W v4 v5 v6 hW
    refine zdn (α := zM × zV × zV × zV) (fun l a => (∀ r, r ≠ k → a.1 r = V r) ∧ ∀ s, 0 ≤ s → s < 128 → a.1 k s = zlst (fun x => l + 1 ≤ x ∧ zfit K t s x) 26) (fun l a => zwp (ev 17 9 [(2, b), (2, q), (2, k), (0, l), a.2.1, a.2.2.1, a.2.2.2] [] T a.1) fun r T' V' => r = (9, 0) ∧ T' = T ∧ (∀ r, r ≠ k → V' r = V r) ∧ ∀ s, 0 ≤ s → s < 128 → V' k s = zsgn K t s) (lo := -1) (hi := 25) (by decide) ?_ ?_ (W, v4, v5, v6) hW
    · intro a ha
      show zwp (ev 17 9 _ _ _ _) _
      rw [b17_9, if_pos (by decide), b17_80]
      exact zwp_ret ⟨rfl, rfl, ha.1, fun s s1 s2 => (ha.2 s s1 s2).trans zab_0⟩
    · intro l a l1 l2 ha next
      show zwp (ev 17 9 _ _ _ _) _
      have eb1 : a.1 (b + 1) = V (b + 1) := ha.1 _ (by omega)
      have eb2 : a.1 (b + 2) = V (b + 2) := ha.1 _ (by omega)
      have em := hT.must (l := l) (by omega) (by omega)
      have hl := hK.let (t := t) (l := l) ht.1 ht.2 (by omega) (by omega)
      rw [b17_9, if_neg (by omega), b17_13 h, c19 h (by omega), eb1]
      simp only [Option.bind_some, zpush0]
      rw [b17_18]
      by_cases g : K (3 * (26 * t + l)) = 1
      · rw [if_pos g] at em
        have hl2 := hl.2 g
        have en := hT.mnot (l := l) (by omega) (by omega) g
        rw [show (if V (b + 1) l ≠ 0 then (1 : Int) else 0) = 1 from if_pos (by omega), if_neg (by decide), b17_21 h (by omega), eb1, eb2, em, en]
        have inner := zup (α := zM) (fun i W => (∀ r, r ≠ k → W r = V r) ∧ (∀ s, 0 ≤ s → s < i → W k s = zlst (fun x => l ≤ x ∧ zfit K t s x) 26) ∧ ∀ s, i ≤ s → s < 128 → W k s = zlst (fun x => l + 1 ≤ x ∧ zfit K t s x) 26) (fun i W => zwp (ev 17 43 [(2, b), (2, q), (2, k), (0, l), (0, K (3 * (26 * t + l) + 1)), (0, zor (K (3 * (26 * t + l) + 1)) (K (3 * (26 * t + l) + 2))), (0, i)] [] T W) fun r T' V' => r = (9, 0) ∧ T' = T ∧ (∀ r, r ≠ k → V' r = V r) ∧ ∀ s, 0 ≤ s → s < 128 → V' k s = zsgn K t s) (lo := 0) (hi := 128) (by decide) (by
          intro W hW
          show zwp (ev 17 43 _ _ _ _) _
          rw [b17_43, if_pos (by decide), b17_74 (by omega)]
          have := next (W, (0, K (3 * (26 * t + l) + 1)), (0, zor (K (3 * (26 * t + l) + 1)) (K (3 * (26 * t + l) + 2))), (0, 128)) ⟨hW.1, fun s s1 s2 => by rw [show l - 1 + 1 = l by omega]; exact hW.2.1 s s1 s2⟩
          exact this) (by
          intro i W i1 i2 hW next2
          show zwp (ev 17 43 _ _ _ _) _
          rw [b17_43, if_neg (by omega), b17_51 hq (by omega), hW.1 q (by omega), hs i i1 i2]
          have key : zand (zsee K t i) (zor (K (3 * (26 * t + l) + 1)) (K (3 * (26 * t + l) + 2))) = K (3 * (26 * t + l) + 1) ↔ zfit K t i l := by
            rw [zask (by omega) (by omega) hl2.2.2]
            unfold zfit
            exact ⟨fun q => ⟨g, q⟩, fun q => q.2⟩
          by_cases c : zfit K t i l
          · rw [if_pos (key.2 c), b17_63 hk (by omega), b17_68 (by omega)]
            refine next2 _ ⟨fun r hr => by rw [zwr_ne hr, hW.1 r hr], fun s s1 s2 => ?_, fun s s1 s2 => ?_⟩
            · rw [zwr_same]
              by_cases e : s = i
              · subst e
                rw [if_pos rfl, zab_s (by omega), zif_t c]
              · rw [if_neg e]; exact hW.2.1 s s1 (by omega)
            · rw [zwr_same, if_neg (by omega)]; exact hW.2.2 s (by omega) s2
          · rw [if_neg (fun q => c (key.1 q)), b17_68 (by omega)]
            refine next2 _ ⟨hW.1, fun s s1 s2 => ?_, fun s s1 s2 => hW.2.2 s (by omega) s2⟩
            by_cases e : s = i
            · subst e
              rw [hW.2.2 s (by omega) i2, zab_s (l := l) (by omega), zif_f c]
            · exact hW.2.1 s s1 (by omega))
        exact inner a.1 ⟨ha.1, fun s s1 s2 => by omega, fun s s1 s2 => ha.2 s s1 s2⟩
      · rw [if_neg g] at em
        rw [show (if V (b + 1) l ≠ 0 then (1 : Int) else 0) = 0 from if_neg (by omega), if_pos rfl, b17_74 (by omega)]
        have := next a ⟨ha.1, fun s s1 s2 => by
          rw [ha.2 s s1 s2, show l - 1 + 1 = l by omega, zab_s (l := l) (by omega), zif_f (fun c => g c.1)]⟩
        exact this
  rw [e17, b17_0, c18 hk (by decide)]
  simp only [Option.bind_some, zpush9]
  rw [b17_6]
  exact body _ _ _ _ ⟨fun r hr => zsr_ne hr, fun s s1 s2 => by
    rw [zsr_same]
    show (if 0 ≤ s ∧ s < 128 then (26 : Int) else _) = zlst (fun x => 25 + 1 ≤ x ∧ zfit K t s x) 26
    rw [if_pos ⟨s1, s2⟩]
    exact zab_26.symm⟩
end READ
theorem zKok.cok {K : Int → Int} (h : zKok K) : zcok K := fun i g1 g2 => (h.mir g1 g2).2
section READ2
variable {T : zT} {V : zM}
/-- the readings of the state -/
theorem c16 {K : Int → Int} (hS : zStr T) (hR : zSR V 1 K) (hK : zKok K) (h0 : V 62 0 = 0 ∧ V 63 0 = 0 ∧ V 64 0 = 0) : zwp (zcall 16 [(2, 59), (2, 1)] T V) fun r T' V' => r = (9, 0) ∧ T' = T ∧ (∀ r, r < 60 ∨ 64 < r → V' r = V r) ∧ zRd V' K := by
  have hc := hK.cok
  have body : ∀ (W : zM) (v3 v4 : zV), ((∀ r, r < 62 ∨ 64 < r → W r = V r) ∧ ∀ s, 0 ≤ s → s < 2 ^ (0 : Int).toNat → W 62 s = zcst K s ∧ W 63 s = s ∧ W 64 s = zseen K s 7) → zwp (ev 16 2 [(2, 59), (2, 1), (0, 0), v3, v4] [] T W) fun r T' V' => r = (9, 0) ∧ T' = T ∧ (∀ r, r < 60 ∨ 64 < r → V' r = V r) ∧ zRd V' K := by
    intro W v3 v4 hW
    refine zup (α := zM × zV × zV) (fun i a => (∀ r, r < 62 ∨ 64 < r → a.1 r = V r) ∧ ∀ s, 0 ≤ s → s < 2 ^ i.toNat → a.1 62 s = zcst K s ∧ a.1 63 s = s ∧ a.1 64 s = zseen K s 7) (fun i a => zwp (ev 16 2 [(2, 59), (2, 1), (0, i), a.2.1, a.2.2] [] T a.1) fun r T' V' => r = (9, 0) ∧ T' = T ∧ (∀ r, r < 60 ∨ 64 < r → V' r = V r) ∧ zRd V' K) (lo := 0) (hi := 7) (by decide) ?_ ?_ (W, v3, v4) hW
    · intro a ha
      show zwp (ev 16 2 _ _ _ _) _
      have e7 : (2 : Int) ^ (7 : Int).toNat = 128 := by decide
      rw [e7] at ha
      rw [b16_2, if_pos (by decide), b16_96 hS (st1 hS)]
      have s1 := hR.east
      have s2 := hR.west
      have t1 : zTg a.1 (1 + 5) K 0 := zTg_congr (fun d g1 g2 => ha.1 _ (by omega)) s1
      refine zwp_seq (c17 (st6 hS) (sa63 hS) (sa60 hS) (by decide) t1 hK (by decide) (fun s g1 g2 => (ha.2 s g1 g2).2.1)) ?_
      rintro r T1 V1 ⟨rfl, rfl, k1, k2⟩
      simp only [zpush9]
      rw [b16_111 hS (st1 hS)]
      have t2 : zTg V1 (1 + 13) K 1 := zTg_congr (fun d g1 g2 => by rw [k1 _ (by omega), ha.1 _ (by omega)]) s2
      refine zwp_seq (c17 (st14 hS) (sa64 hS) (sa61 hS) (by decide) t2 hK (by decide) (fun s g1 g2 => by rw [k1 64 (by decide)]; exact (ha.2 s g1 g2).2.2)) ?_
      rintro r T2 V2 ⟨rfl, rfl, l1, l2⟩
      simp only [zpush9]
      rw [b16_126]
      refine zwp_ret ⟨rfl, rfl, fun r hr => by rw [l1 r (by omega), k1 r (by omega), ha.1 r (by omega)], fun s g1 g2 => ⟨?_, l2 s g1 g2, ?_⟩, ?_, ?_⟩
      · rw [l1 60 (by decide)]; exact k2 s g1 g2
      · rw [l1 62 (by decide), k1 62 (by decide)]; exact (ha.2 s g1 g2).1
      · rw [l1 63 (by decide), k1 63 (by decide)]; exact (ha.2 0 (by decide) (by decide)).2.1
      · rw [l1 64 (by decide), k1 64 (by decide), (ha.2 0 (by decide) (by decide)).2.2, zseen_0]
    · intro i a i1 i2 ha next
      show zwp (ev 16 2 _ _ _ _) _
      rw [b16_2, if_neg (by omega), b16_8 (by omega)]
      have hp : (2 : Int) ^ i.toNat ≤ 64 ∧ 1 ≤ (2 : Int) ^ i.toNat := by
        have : i = 0 ∨ i = 1 ∨ i = 2 ∨ i = 3 ∨ i = 4 ∨ i = 5 ∨ i = 6 := by omega
        rcases this with e | e | e | e | e | e | e <;> subst e <;> decide
      have ei : ((i.toNat : Nat) : Int) = i := Int.toNat_of_nonneg i1
      have hm := hR.mir i1 i2
      have hk := hK.mir i1 i2
      have inner := zup (α := zM) (fun j W => (∀ r, r < 62 ∨ 64 < r → W r = V r) ∧ ∀ s, 0 ≤ s → s < 2 ^ i.toNat + j → W 62 s = zcst K s ∧ W 63 s = s ∧ W 64 s = zseen K s 7) (fun j W => zwp (ev 16 15 [(2, 59), (2, 1), (0, i), (0, 2 ^ i.toNat), (0, j)] [] T W) fun r T' V' => r = (9, 0) ∧ T' = T ∧ (∀ r, r < 60 ∨ 64 < r → V' r = V r) ∧ zRd V' K) (lo := 0) (hi := 2 ^ i.toNat) (by omega) (by
        intro W hW
        show zwp (ev 16 15 _ _ _ _) _
        rw [b16_15, if_pos (by omega), b16_90 (by omega)]
        exact next (W, (0, 2 ^ i.toNat), (0, 2 ^ i.toNat)) ⟨hW.1, fun s s1 s2 => hW.2 s s1 (by
          rw [show (i + 1).toNat = i.toNat + 1 by omega, Int.pow_succ] at s2
          omega)⟩) (by
        intro j W j1 j2 hW next2
        show zwp (ev 16 15 _ _ _ _) _
        obtain ⟨w1, w2, w3⟩ := hW.2 j j1 (by omega)
        have c1 := zcst_r hc j
        have e5 : W (1 + 4) i = K (293 + i) := by rw [hW.1 _ (by omega)]; exact hm.2
        have e4 : ∀ x y, zwr (zwr W 62 (2 ^ i.toNat + j) x) 63 (2 ^ i.toNat + j) y (1 + 3) i = K (286 + i) + 1 := fun x y => by
          rw [zwr_ne (by decide), zwr_ne (by decide), hW.1 _ (by omega)]; exact hm.1
        have e64 : ∀ x y, zwr (zwr W 62 (2 ^ i.toNat + j) x) 63 (2 ^ i.toNat + j) y 64 j = zseen K j 7 := fun x y => by
          rw [zwr_ne (by decide), zwr_ne (by decide)]; exact w3
        rw [b16_15, if_neg (by omega), b16_21 hS (by omega) (by omega) (st1 hS) (by omega) (by rw [w1, e5]; omega) (by omega) (by rw [e4]; omega) (by rw [e4]; omega) (by omega), e4, e64, w1, e5, show K (286 + i) + 1 - 1 = K (286 + i) by omega]
        have q1 := zcst_bit (K := K) (s := j) (i := i.toNat) (by omega) j1 j2
        have q2 := zseen_bit (K := K) (s := j) (i := i.toNat) (by omega) j1 j2
        rw [ei] at q1 q2
        rw [← q1, ← q2]
        refine next2 _ ⟨fun r hr => by rw [zwr_ne (by omega), zwr_ne (by omega), zwr_ne (by omega)]; exact hW.1 r hr, fun s s1 s2 => ?_⟩
        by_cases e : s = 2 ^ i.toNat + j
        · rw [zwr_ne (r := 62) (by decide), zwr_ne (r := 62) (by decide), zwr_same, if_pos e, zwr_ne (r := 63) (by decide), zwr_same, if_pos e, zwr_same, if_pos e]
          exact ⟨by rw [e], e.symm, by rw [e]⟩
        · rw [zwr_ne (r := 62) (by decide), zwr_ne (r := 62) (by decide), zwr_same, if_neg e, zwr_ne (r := 63) (by decide), zwr_same, if_neg e, zwr_same, if_neg e, zwr_ne (by decide), zwr_ne (by decide), zwr_ne (by decide)]
          exact hW.2 s s1 (by omega))
      exact inner a.1 ⟨ha.1, fun s s1 s2 => ha.2 s s1 (by omega)⟩
  rw [e16, b16_0]
  refine body V _ _ ⟨fun r _ => rfl, fun s s1 s2 => ?_⟩
  have e : s = 0 := by
    have : (2 : Int) ^ (0 : Int).toNat = 1 := by decide
    omega
  subst e
  exact ⟨by rw [h0.1, zcst_0], h0.2.1, by rw [h0.2.2, zseen_0]⟩
end READ2
