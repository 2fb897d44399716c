/-! the best letting -/
section BEST
variable {n : Int} {T : zT} {V : zM}
theorem c140 (h : zJ n T V) : zwp (zcall 140 [(2, 22), (2, 128)] T V) fun r T' V' => r = (9, 0) ∧ T' = T ∧ (∀ r, r ≠ 128 → V' r = V r) ∧ ∀ s, 0 ≤ s → s < 2 ^ (V 132 426).toNat → V' 128 s = zrnt (V 132) (V 132 426) s := by
  have hS := h.str
  have hk := zyok_J h
  have hy : zYr V 22 (V 132) := h.sr.yards
  have a128 : zAr T 128 0 1024 := sa128 hS
  obtain ⟨H, hH⟩ : ∃ H, V 132 426 = H := ⟨_, rfl⟩
  rw [hH] at hk ⊢
  have hk1 := hk.1
  have r0 : zrnt (V 132) H 0 = 0 := by
    unfold zrnt
    rw [zif_f]
    · have := zrsm_hi (K := V 132) (s := 0) (i := 0) (by decide) (by decide) H.toNat
      rw [Nat.zero_add] at this
      exact this
    · rintro ⟨a, c, -, q, -⟩
      exact zbt_z q
  rw [e140, b140_0 a128 (by decide)]
  refine zup (α := zM × zV × zV × zV × zV) (fun i c => (∀ r, r ≠ 128 → c.1 r = V r) ∧ ∀ s, 0 ≤ s → s < 2 ^ i.toNat → c.1 128 s = zrnt (V 132) H s) (fun i c => zwp (ev 140 6 [(2, 22), (2, 128), (0, i), c.2.1, c.2.2.1, c.2.2.2.1, c.2.2.2.2] [] T c.1) fun r T' V' => r = (9, 0) ∧ T' = T ∧ (∀ r, r ≠ 128 → V' r = V r) ∧ ∀ s, 0 ≤ s → s < 2 ^ H.toNat → V' 128 s = zrnt (V 132) H s) (lo := 0) (hi := H) hk1.1 ?_ ?_ (zwr V 128 0 0, (9, 0), (9, 0), (9, 0), (9, 0)) ⟨fun r hr => zwr_ne hr, fun s s1 s2 => ?_⟩
  · intro c hc
    show zwp (ev 140 6 _ _ _ _) _
    rw [b140_6 (st22 hS), if_pos (by rw [hc.1 22 (by decide), hy.1, hH]; omega), b140_96]
    exact zwp_ret ⟨rfl, rfl, hc.1, hc.2⟩
  · intro i c i1 i2 hc next
    show zwp (ev 140 6 _ _ _ _) _
    have ei : ((i.toNat : Nat) : Int) = i := Int.toNat_of_nonneg i1
    have p := zp2_le (H := i) (by omega)
    have p2 := zp2_le (H := i + 1) (by omega)
    have pe : (2 : Int) ^ (i + 1).toNat = 2 ^ i.toNat * 2 := by rw [show (i + 1).toNat = i.toNat + 1 by omega, Int.pow_succ]
    have hyc : zYr c.1 22 (V 132) := zYr_congr (fun d g1 g2 => hc.1 _ (by omega)) hy
    obtain ⟨x, x1, x2, x3⟩ := c137 (V := c.1) (st22 hS) hyc hH hk1.2 ⟨i1, i2⟩
    rw [b140_6 (st22 hS), if_neg (by rw [hc.1 22 (by decide), hy.1, hH]; omega), b140_14 (st22 hS), x1]
    simp only [Option.bind_some, zpush0]
    rw [b140_19 (by omega)]
    refine zup (α := zM × zV) (fun j d => (∀ r, r ≠ 128 → d.1 r = V r) ∧ ∀ s, 0 ≤ s → s < 2 ^ i.toNat + j → d.1 128 s = zrnt (V 132) H s) (fun j d => zwp (ev 140 28 [(2, 22), (2, 128), (0, i), (0, x), (0, 2 ^ i.toNat), (0, j), d.2] [] T d.1) fun r T' V' => r = (9, 0) ∧ T' = T ∧ (∀ r, r ≠ 128 → V' r = V r) ∧ ∀ s, 0 ≤ s → s < 2 ^ H.toNat → V' 128 s = zrnt (V 132) H s) (lo := 0) (hi := 2 ^ i.toNat) (by omega) ?_ ?_ (c.1, c.2.2.2.2) ⟨hc.1, fun s s1 s2 => hc.2 s s1 (by omega)⟩
    · intro d hd
      show zwp (ev 140 28 _ _ _ _) _
      rw [b140_28, if_pos (by omega), b140_90 (by omega)]
      exact next (d.1, (0, x), (0, 2 ^ i.toNat), (0, 2 ^ i.toNat), d.2) ⟨hd.1, fun s s1 s2 => hd.2 s s1 (by omega)⟩
    · intro j d j1 j2 hd next2
      show zwp (ev 140 28 _ _ _ _) _
      have dj := hd.2 j j1 (by omega)
      have rr := zrnt_r hk j
      have ry := hk.2 i i1 (by omega)
      have yd := (hy.2 i i1 (by omega)).2.2.2.2
      have e27 : d.1 (22 + 5) i = V 132 (376 + 5 * i + 4) := by rw [hd.1 _ (by decide)]; exact yd
      have rb := zrnt_bit (K := V 132) (H := H) (s := j) (i := i.toNat) hk (by omega) j1 j2
      rw [ei] at rb
      have wr : ∀ (x6 v : Int), v = zrnt (V 132) H (2 ^ i.toNat + j) → zwp (ev 140 83 [(2, 22), (2, 128), (0, i), (0, x), (0, 2 ^ i.toNat), (0, j), (0, x6)] [(0, v), (0, 2 ^ i.toNat + j), (2, 128)] T d.1) fun r T' V' => r = (9, 0) ∧ T' = T ∧ (∀ r, r ≠ 128 → V' r = V r) ∧ ∀ s, 0 ≤ s → s < 2 ^ H.toNat → V' 128 s = zrnt (V 132) H s := fun x6 v hv => by
        rw [b140_83 a128 (by omega) (by omega)]
        refine next2 (zwr d.1 128 (2 ^ i.toNat + j) v, (0, x6)) ⟨fun r hr => by show zwr _ _ _ _ r = _; rw [zwr_ne hr, hd.1 r hr], fun s s1 s2 => ?_⟩
        show zwr d.1 128 (2 ^ i.toNat + j) v 128 s = _
        rw [zwr_same]
        by_cases e : s = 2 ^ i.toNat + j
        · rw [if_pos e, hv, e]
        · rw [if_neg e]; exact hd.2 s s1 (by omega)
      have clash : zand j x = 0 ↔ ∀ k : Nat, k < i.toNat → ¬ (zbt j k ∧ zmt (V 132) i k) := by
        rw [zand_c, zand_e0 (k := 10) (by decide) x2.1 x2.2]
        constructor
        · intro q k k1 k2
          have k10 : k < 10 := by omega
          exact q k k10 ⟨(x3 k k10).2 ⟨by omega, by omega, k2.2⟩, k2.1⟩
        · intro q k k1 k2
          obtain ⟨z1, z2, z3⟩ := (x3 k k1).1 k2.1
          have : k < i.toNat := Classical.byContradiction fun w => zbt_big j1 j2 (by omega) k2.2
          exact q k this ⟨k2.2, z3⟩
      have no : zrnt (V 132) H (2 ^ i.toNat + j) = -1 → zwp (ev 140 54 [(2, 22), (2, 128), (0, i), (0, x), (0, 2 ^ i.toNat), (0, j), d.2] [] T d.1) fun r T' V' => r = (9, 0) ∧ T' = T ∧ (∀ r, r ≠ 128 → V' r = V r) ∧ ∀ s, 0 ≤ s → s < 2 ^ H.toNat → V' 128 s = zrnt (V 132) H s := fun q => by
        rw [b140_54, b140_55 (by omega), if_pos rfl, b140_82]
        exact wr 0 (-1) q.symm
      rw [b140_28, if_neg (by omega), b140_35 a128 (by omega), dj]
      by_cases g1 : zrnt (V 132) H j = -1
      · rw [if_pos g1]
        exact no (by rw [rb, zif_f (fun q => q.1 g1)])
      · rw [if_neg g1, b140_43]
        by_cases g2 : zand j x = 0
        · rw [if_pos g2, b140_50, b140_55 (by omega), if_neg (by decide), b140_68 a128 (by omega) (st22 hS) (by omega) (by rw [dj, e27]; omega), dj, e27]
          exact wr 1 _ (by rw [rb, zif_t ⟨g1, clash.1 g2⟩])
        · rw [if_neg g2]
          exact no (by rw [rb, zif_f (fun q => g2 (clash.2 q.2))])
  · have e : s = 0 := by
      have : (2 : Int) ^ (0 : Int).toNat = 1 := by decide
      omega
    subst e
    show zwr V 128 0 0 128 0 = _
    rw [zwr_same, if_pos rfl, r0]
/-- the best of those below i: the most, the first that has it, how many have it -/
def zBs (f : Int → Int) (i m b c : Int) : Prop := (∀ s, 0 ≤ s → s < i → f s ≤ m) ∧ ((0 ≤ b ∧ b < i) ∧ f b = m) ∧ (∀ s, 0 ≤ s → s < b → f s < m) ∧ c = zcnt (fun s => f s = m) i.toNat
theorem zBs_u {f : Int → Int} {i m b c m' b' c' : Int} (h : zBs f i m b c) (g : zBs f i m' b' c') : m = m' ∧ b = b' ∧ c = c' := by
  obtain ⟨h1, ⟨h2, h3⟩, h4, h5⟩ := h
  obtain ⟨g1, ⟨g2, g3⟩, g4, g5⟩ := g
  have a1 := h1 b' g2.1 g2.2
  have a2 := g1 b h2.1 h2.2
  have e : m = m' := by omega
  subst e
  have a3 : b = b' := by
    rcases Int.lt_trichotomy b b' with q | q | q
    · have := g4 b h2.1 q; omega
    · exact q
    · have := h4 b' g2.1 q; omega
  exact ⟨rfl, a3, by rw [h5, g5]⟩
theorem zBs_more {f : Int → Int} {i m b c : Int} (i1 : 0 ≤ i) (h : ∀ s, 0 ≤ s → s < i → f s < f i) : zBs f (i + 1) (f i) i 1 := by
  refine ⟨fun s s1 s2 => ?_, ⟨⟨i1, by omega⟩, rfl⟩, h, ?_⟩
  · by_cases e : s = i
    · rw [e]; omega
    · have := h s s1 (by omega); omega
  · rw [zcnt_s i1, zif_t rfl]
    have : zcnt (fun s => f s = f i) i.toNat = 0 := by
      have r := zcnt_r (fun s => f s = f i) i.toNat
      by_cases q : 0 < zcnt (fun s => f s = f i) i.toNat
      · obtain ⟨s, s1, s2⟩ := zcnt_pos.1 q
        have := h s s1.1 (by omega)
        omega
      · omega
    omega
theorem zBs_same {f : Int → Int} {i m b c : Int} (i1 : 0 ≤ i) (h : zBs f i m b c) (e : f i = m) : zBs f (i + 1) m b (c + 1) := by
  obtain ⟨h1, ⟨h2, h3⟩, h4, h5⟩ := h
  refine ⟨fun s s1 s2 => ?_, ⟨by omega, h3⟩, h4, ?_⟩
  · by_cases q : s = i
    · rw [q]; omega
    · exact h1 s s1 (by omega)
  · rw [zcnt_s i1, zif_t e, h5]
theorem zBs_less {f : Int → Int} {i m b c : Int} (i1 : 0 ≤ i) (h : zBs f i m b c) (e : f i < m) : zBs f (i + 1) m b c := by
  obtain ⟨h1, ⟨h2, h3⟩, h4, h5⟩ := h
  refine ⟨fun s s1 s2 => ?_, ⟨by omega, h3⟩, h4, ?_⟩
  · by_cases q : s = i
    · rw [q]; omega
    · exact h1 s s1 (by omega)
  · rw [zcnt_s i1, zif_f (show ¬ f i = m by omega), h5, Int.add_zero]
theorem k_best {x1 : Int} (h : zJ n T V) (hn : n < 1000) : zSame 0 139 240 [(0, x1)] n T V := by
  have hS := h.str
  have hk := zyok_J h
  have hk1 := hk.1
  have p := zp2_le hk1
  have hy : V 22 5 = V 132 426 := h.sr.yards.1
  unfold zSame
  by_cases g : 0 ≤ x1 ∧ x1 ≤ 2
  · obtain ⟨H, hH⟩ : ∃ H, V 132 426 = H := ⟨_, rfl⟩
    rw [hH] at hk hk1 p hy
    obtain ⟨f, hf⟩ : ∃ f, zrnt (V 132) H = f := ⟨_, rfl⟩
    have fr : ∀ s, -1 ≤ f s ∧ f s ≤ 9990 := fun s => by rw [← hf]; exact zrnt_r hk s
    have f0 : f 0 = 0 := by
      rw [← hf]
      unfold zrnt
      rw [zif_f]
      · have := zrsm_hi (K := V 132) (s := 0) (i := 0) (by decide) (by decide) H.toNat
        rw [Nat.zero_add] at this
        exact this
      · rintro ⟨a, c, -, q, -⟩
        exact zbt_z q
    have cls : zwp (zcall 139 [(2, 0), (0, x1)] T V) fun r T' V' => ∃ m b c, zBs f (2 ^ H.toNat) m b c ∧ r = (0, if x1 = 0 then m else if x1 = 1 then b else c) ∧ T' = T ∧ ∀ r, r ≠ 128 → V' r = V r := by
      rw [e139, b139_0, if_neg (by omega), b139_4, if_pos (by omega), b139_11 hS]
      refine zwp_seq (c140 h) ?_
      rintro r T1 W ⟨rfl, rfl, w1, w2⟩
      simp only [zpush9]
      rw [hH, hf] at w2
      have e22 : W 22 5 = H := by rw [w1 22 (by decide), hy]
      rw [b139_25 hS (by omega), e22]
      refine zup (α := Int × Int) (fun i c => (i = 0 ∧ c.1 = 0 ∧ c.2 = 0) ∨ zBs f i (f c.1) c.1 c.2) (fun i c => zwp (ev 139 46 [(2, 0), (0, x1), (0, 2 ^ H.toNat), (0, c.1), (0, c.2), (0, i)] [] T1 W) fun r T' V' => ∃ m b c, zBs f (2 ^ H.toNat) m b c ∧ r = (0, if x1 = 0 then m else if x1 = 1 then b else c) ∧ T' = T1 ∧ ∀ r, r ≠ 128 → V' r = V r) (lo := 0) (hi := 2 ^ H.toNat) (by omega) ?_ ?_ (0, 0) (Or.inl ⟨rfl, rfl, rfl⟩)
      · intro c hc
        show zwp (ev 139 46 _ _ _ _) _
        have hb : zBs f (2 ^ H.toNat) (f c.1) c.1 c.2 := hc.resolve_left (fun q => by omega)
        have cb := hb.2.1.1
        rw [b139_46, if_pos (by omega), b139_99]
        by_cases z0 : x1 = 0
        · rw [if_pos z0, b139_103 hS (by omega), w2 c.1 cb.1 cb.2]
          exact zwp_ret ⟨_, _, _, hb, by rw [if_pos z0], rfl, w1⟩
        · rw [if_neg z0, b139_110]
          by_cases z1 : x1 = 1
          · rw [if_pos z1, b139_115, b139_121]
            exact zwp_ret ⟨_, _, _, hb, by rw [if_neg z0, if_pos z1], rfl, w1⟩
          · rw [if_neg z1, b139_119, b139_121]
            exact zwp_ret ⟨_, _, _, hb, by rw [if_neg z0, if_neg z1], rfl, w1⟩
      · intro i c i1 i2 hc next
        show zwp (ev 139 46 _ _ _ _) _
        have cb : 0 ≤ c.1 ∧ c.1 ≤ i ∧ c.1 < 2 ^ H.toNat ∧ 0 ≤ c.2 ∧ c.2 ≤ 1024 := by
          rcases hc with q | q
          · omega
          · have := q.2.1.1
            have z := zcnt_r (fun s => f s = f c.1) i.toNat
            have := q.2.2.2
            omega
        rw [b139_46, if_neg (by omega), b139_52 hS (by omega) (by omega), w2 i i1 i2, w2 c.1 cb.1 cb.2.2.1]
        by_cases k : f i ≤ f c.1
        · rw [if_pos k, b139_74 hS (by omega) (by omega), w2 i i1 i2, w2 c.1 cb.1 cb.2.2.1]
          by_cases k2 : f i = f c.1
          · rw [if_pos k2, b139_90 (by omega), b139_93 (by omega)]
            refine next (c.1, c.2 + 1) (Or.inr ?_)
            rcases hc with q | q
            · have e1 : c.1 = i := by omega
              have e2 : c.2 + 1 = 1 := by omega
              show zBs f (i + 1) (f c.1) c.1 (c.2 + 1)
              rw [e1, e2]
              exact zBs_more (m := 0) (b := 0) (c := 0) i1 (fun s s1 s2 => by omega)
            · exact zBs_same i1 q k2
          · rw [if_neg k2, b139_93 (by omega)]
            refine next (c.1, c.2) (Or.inr ?_)
            rcases hc with q | q
            · exact absurd (by rw [q.2.1, q.1]) k2
            · exact zBs_less i1 q (show f i < f c.1 by omega)
        · rw [if_neg k, b139_68, b139_74 hS (by omega) (by omega), if_pos rfl, b139_90 (by decide), b139_93 (by omega)]
          refine next (i, 0 + 1) (Or.inr ?_)
          refine zBs_more (m := 0) (b := 0) (c := 0) i1 (fun s s1 s2 => ?_)
          rcases hc with q | q
          · omega
          · have := q.1 s s1 s2; omega
    obtain ⟨r0, T0, V0, e0, m, b, c, hb, rfl, rfl, hr⟩ := zwp_to cls
    rw [e0]
    refine zwp_ret ?_
    have e132 : V0 132 = V 132 := hr 132 (by decide)
    have hk2 : zyok (V0 132) (V0 132 426) := by rw [e132, hH]; exact hk
    rw [e240, b240_0, c150, if_pos g]
    simp only [Option.bind_some, zpush0]
    rw [b240_6, if_neg (by decide), b240_11]
    refine zup (α := Int × Int × Int × zV) (fun i d => (i = 0 ∧ d.1 = 0 ∧ d.2.1 = -1 ∧ d.2.2.1 = 0) ∨ zBs f i d.2.1 d.1 d.2.2.1) (fun i d => zwp (ev 240 21 [(2, 130), (0, x1), (0, d.1), (0, d.2.1), (0, d.2.2.1), (0, i), d.2.2.2] [] T0 V0) fun r' T2 V2 => (∃ x, ((0, if x1 = 0 then m else if x1 = 1 then b else c) : zV) = (0, x) ∧ r' = (0, x)) ∧ zJ (n + 1) T2 V2) (lo := 0) (hi := 2 ^ H.toNat) (by omega) ?_ ?_ (0, -1, 0, (9, 0)) (Or.inl ⟨rfl, rfl, rfl, rfl⟩)
    · intro d hd
      show zwp (ev 240 21 _ _ _ _) _
      have hb2 : zBs f (2 ^ H.toNat) d.2.1 d.1 d.2.2.1 := hd.resolve_left (fun q => by omega)
      obtain ⟨u1, u2, u3⟩ := zBs_u hb hb2
      have hj : zJ (n + 1) T0 V0 := by
        obtain ⟨⟨s1, s2, s3⟩, ⟨s4, s5, s6, s7⟩, s8, s9, s10, s11, s12⟩ := h.sc
        refine zJ_same h (fun r q => hr r (by unfold zkeep at q; omega)) ?_ ?_ ?_ ?_
        · have ht := h.tape
          unfold zTape at ht ⊢
          rw [hr 56 (by decide), hr 57 (by decide), hr 137 (by decide), hr 130 (by decide)]
          exact ht
        · unfold zSc
          rw [hr 0 (by decide), hr 129 (by decide), hr 131 (by decide), hr 130 (by decide)]
          exact ⟨⟨s1, s2, s3⟩, ⟨s4, s5, s6, s7⟩, by omega, s9, by omega, s11, by omega⟩
        · rw [hr 0 (by decide)]; exact id
        · rw [hr 130 (by decide)]; exact id
      rw [b240_21 hS (by have := hk2.1; omega), e132, hH, if_pos (by omega), b240_83]
      by_cases z0 : x1 = 0
      · rw [if_pos z0, b240_87, b240_102]
        exact zwp_ret ⟨⟨_, rfl, by rw [if_pos z0, u1]⟩, hj⟩
      · rw [if_neg z0, b240_91]
        by_cases z1 : x1 = 1
        · rw [if_pos z1, b240_96, b240_102]
          exact zwp_ret ⟨⟨_, rfl, by rw [if_neg z0, if_pos z1, u2]⟩, hj⟩
        · rw [if_neg z1, b240_100, b240_102]
          exact zwp_ret ⟨⟨_, rfl, by rw [if_neg z0, if_neg z1, u3]⟩, hj⟩
    · intro i d i1 i2 hd next
      show zwp (ev 240 21 _ _ _ _) _
      have dr : 0 ≤ d.2.2.1 ∧ d.2.2.1 ≤ 1024 := by
        rcases hd with q | q
        · omega
        · have z := zcnt_r (fun s => f s = d.2.1) i.toNat
          have := q.2.2.2
          omega
      have fi := fr i
      rw [b240_21 hS (by have := hk2.1; omega), e132, hH, if_neg (by omega), b240_36 hS, c237 hS hk2, e132, hH, hf]
      simp only [Option.bind_some, zpush0]
      rw [b240_42]
      by_cases k : f i < d.2.1
      · rw [if_pos k, b240_77 (by omega)]
        refine next (d.1, d.2.1, d.2.2.1, (0, f i)) ?_
        rcases hd with q | q
        · omega
        · exact Or.inr (zBs_less i1 q k)
      · rw [if_neg k, b240_50]
        by_cases k1 : f i = -1
        · have hz : zBs f i d.2.1 d.1 d.2.2.1 := hd.resolve_left (fun q => by
            have : i = 0 := q.1
            subst this
            omega)
          have := hz.1 0 (by decide) (by have := hz.2.1.1; omega)
          omega
        · rw [if_neg k1, b240_59]
          by_cases k2 : f i ≤ d.2.1
          · rw [if_pos k2, b240_74 (by omega), b240_77 (by omega)]
            refine next (d.1, d.2.1, d.2.2.1 + 1, (0, f i)) ?_
            rcases hd with q | q
            · omega
            · exact Or.inr (zBs_same i1 q (show f i = d.2.1 by omega))
          · rw [if_neg k2, b240_65, b240_74 (by decide), b240_77 (by omega)]
            refine next (i, f i, 0 + 1, (0, f i)) (Or.inr ?_)
            refine zBs_more (m := 0) (b := 0) (c := 0) i1 (fun s s1 s2 => ?_)
            rcases hd with q | q
            · omega
            · have := q.1 s s1 s2; omega
  · have c1 : zcall 139 [(2, 0), (0, x1)] T V = some ((0, -1), T, V) := by
      rw [e139, b139_0]
      by_cases q : x1 < 0
      · rw [if_pos q, b139_9]
      · rw [if_neg q, b139_4, if_neg (by omega), b139_9]
    have c2 : zcall 240 [(2, 130), (0, x1)] T V = some ((0, -1), T, V) := by
      rw [e240, b240_0, c150, if_neg g]
      simp only [Option.bind_some, zpush0]
      rw [b240_6, if_pos rfl, b240_9]
    rw [c1]
    refine zwp_ret ?_
    rw [c2]
    exact zwp_ret ⟨⟨_, rfl, rfl⟩, zJ_ok h hn⟩
end BEST
