/-! what is read -/
section READS
variable {n : Int} {T : zT} {V : zM}
theorem c189 {t s : Int} (hS : zStr T) (hK : zKok (V 132)) (ht : 0 ≤ t ∧ t ≤ 1) (hs : 0 ≤ s ∧ s < 128) : zcall 189 [(2, 130), (0, t), (0, s)] T V = some ((0, zsgn (V 132) t s), T, V) := by
  have letters : ∀ v4 : zV, ev 189 51 [(2, 130), (0, t), (0, s), (0, zsee (V 132) t s), v4] [] T V = some ((0, zsgn (V 132) t s), T, V) := by
    intro v4
    rw [b189_51]
    refine zup (α := Unit) (fun l _ => ∀ l', 0 ≤ l' → l' < l → ¬ zfit (V 132) t s l') (fun l _ => ev 189 54 [(2, 130), (0, t), (0, s), (0, zsee (V 132) t s), (0, l)] [] T V = some ((0, zsgn (V 132) t s), T, V)) (lo := 0) (hi := 26) (by decide) ?_ ?_ () (fun l' h1 h2 => by omega)
    · intro _ h
      rw [b189_54, if_pos (by decide), b189_116]
      congr 2
      unfold zsgn
      rw [zlst_u (v := 26) (by omega) (fun q => by omega) h]
    · intro l _ l1 l2 h next
      rw [b189_54, if_neg (by omega), b189_61 hS, c185 hS ht ⟨l1, l2⟩ (by decide)]
      simp only [Option.bind_some, zpush0, Int.add_zero]
      rw [b189_69]
      have skip : ¬ zfit (V 132) t s l → ev 189 110 [(2, 130), (0, t), (0, s), (0, zsee (V 132) t s), (0, l)] [] T V = some ((0, zsgn (V 132) t s), T, V) := fun q => by
        rw [b189_110 (by omega)]
        refine next () (fun l' g1 g2 => ?_)
        by_cases e : l' = l
        · rw [e]; exact q
        · exact h l' g1 (by omega)
      by_cases g1 : V 132 (3 * (26 * t + l)) = 1
      · rw [if_pos g1, b189_73 hS, c185 hS ht ⟨l1, l2⟩ (by decide)]
        simp only [Option.bind_some, zpush0]
        rw [b189_82 hS, c185 hS ht ⟨l1, l2⟩ (by decide)]
        simp only [Option.bind_some, zpush0]
        rw [b189_91]
        by_cases g2 : zand (zsee (V 132) t s) (V 132 (3 * (26 * t + l) + 1)) = V 132 (3 * (26 * t + l) + 1)
        · rw [if_pos g2, b189_94 hS, c185 hS ht ⟨l1, l2⟩ (by decide)]
          simp only [Option.bind_some, zpush0]
          rw [b189_103]
          by_cases g3 : zand (zsee (V 132) t s) (V 132 (3 * (26 * t + l) + 2)) = 0
          · rw [if_pos g3, b189_107]
            congr 2
            unfold zsgn
            rw [zlst_u (v := l) (by omega) (fun _ => ⟨g1, g2, g3⟩) h]
          · rw [if_neg g3]
            exact skip (fun q => g3 q.2.2)
        · rw [if_neg g2]
          exact skip (fun q => g2 q.2.1)
      · rw [if_neg g1]
        exact skip (fun q => g1 q.1)
  rw [e189, b189_0]
  by_cases t1 : t = 1
  · rw [if_pos t1, b189_7]
    have key := zfor (fun k => ev 189 12 [(2, 130), (0, t), (0, s), (0, zseen (V 132) s k.toNat), (0, k)] [] T V) (lo := 0) (hi := 7) (by decide) (fun k h1 h2 => by
      show ev 189 12 _ _ _ _ = ev 189 12 _ _ _ _
      have e : (k + 1).toNat = k.toNat + 1 := by omega
      have ek : ((k.toNat : Nat) : Int) = k := Int.toNat_of_nonneg h1
      have hm := (hK.mir h1 h2).1
      rw [b189_12, if_neg (by omega), b189_19 (by omega), zand_1, e, zseen, ek]
      by_cases g : s / 2 ^ k.toNat % 2 = 1
      · rw [if_pos g, if_pos g, b189_29 hS (by omega) (by omega) (by omega), b189_45 (by omega)]
      · rw [if_neg g, if_neg g, b189_45 (by omega)])
    refine key.trans ?_
    rw [b189_12, if_pos (by decide)]
    have := letters (0, 7)
    unfold zsee at this
    rw [if_neg (by omega)] at this
    exact this
  · rw [if_neg t1]
    have := letters (9, 0)
    unfold zsee at this
    rw [if_pos (by omega)] at this
    exact this
/-- the sign at place i, walking so -/
noncomputable def zrs (K : Int → Int) (t i : Int) : Int := zsgn K t (K (300 + (if t = 0 then i else K 427 - 1 - i)))
theorem zsgn_c {K : Int → Int} {t s : Int} (ht : 0 ≤ t ∧ t ≤ 1) : zsgn (zkc K) t s = zsgn K t s := zsgn_k (fun i g1 g2 => zkc_in (Or.inl ⟨g1, g2⟩)) ht
theorem zcst_c {K : Int → Int} : zcst (zkc K) = zcst K := zcst_k (fun i g1 g2 => zkc_in (Or.inl ⟨g1, g2⟩))
theorem c78J {t s : Int} (h : zJ n T V) (ht : 0 ≤ t ∧ t ≤ 1) (hs : 0 ≤ s ∧ s < 128) : zcall 78 [(2, 59), (0, t), (0, s)] T V = some ((0, zsgn (V 132) t s), T, V) := by
  obtain ⟨r1, r2, r3⟩ := h.rd.1 s hs.1 hs.2
  rw [zsgn_c (by decide)] at r1 r2
  rw [c78 h.str hs]
  have : t = 0 ∨ t = 1 := by omega
  rcases this with e | e
  · subst e; rw [if_pos rfl, r1]
  · subst e; rw [if_neg (by decide), r2]
theorem c81 {t i : Int} (h : zJ n T V) (ht : 0 ≤ t ∧ t ≤ 1) (hi : 0 ≤ i ∧ i < V 132 427) : zcall 81 [(2, 0), (0, t), (0, i)] T V = some ((0, zrs (V 132) t i), T, V) := by
  have hS := h.str
  have hN := h.ok.n
  have e1 := h.sr.n
  have hw : ∀ c, 0 ≤ c → c < 16 → V 2 c = V 132 (300 + c) := fun c g1 g2 => (h.sr.wall g1 g2).1
  unfold zrs
  rw [e81, b81_0]
  by_cases t0 : t = 0
  · rw [if_pos t0, if_pos t0, b81_4, b81_19 hS (by omega), hw _ hi.1 (by omega), c78J h ht (h.ok.wall hi.1 (by omega)).1]
    simp only [Option.bind_some, zpush0]
    rw [b81_37]
  · rw [if_neg t0, if_neg t0, b81_8 hS (by omega) (by omega), e1, b81_19 hS (by omega), hw _ (by omega) (by omega), c78J h ht (h.ok.wall (by omega) (by omega)).1]
    simp only [Option.bind_some, zpush0]
    rw [b81_37]
theorem k_reads {x1 x2 : Int} (h : zJ n T V) (hn : n < 1000) : zSame 0 77 188 [(0, x1), (0, x2)] n T V := by
  have hS := h.str
  unfold zSame
  by_cases g : (x1 = 0 ∨ x1 = 1) ∧ 0 ≤ x2 ∧ x2 < 128
  · have c1 : zcall 77 [(2, 0), (0, x1), (0, x2)] T V = some ((0, if zsgn (V 132) x1 x2 = 26 then -1 else zsgn (V 132) x1 x2), T, V) := by
      rw [e77, b77_0, c72, if_pos g.1]
      simp only [Option.bind_some, zpush0]
      rw [b77_4, if_neg (by decide), b77_7, c29, if_pos g.2]
      simp only [Option.bind_some, zpush0]
      rw [b77_11, if_neg (by decide), b77_16 hS, c78J h (by omega) g.2]
      simp only [Option.bind_some, zpush0]
      rw [b77_25, c79]
      simp only [Option.bind_some, zpush0]
      rw [b77_28]
    have c2 : zcall 188 [(2, 130), (0, x1), (0, x2)] T V = some ((0, if zsgn (V 132) x1 x2 = 26 then -1 else zsgn (V 132) x1 x2), T, V) := by
      rw [e188, b188_0, c183, if_pos g.1]
      simp only [Option.bind_some, zpush0]
      rw [b188_4, if_neg (by decide), b188_7, c150, if_pos (by omega)]
      simp only [Option.bind_some, zpush0]
      rw [b188_14, if_neg (by decide), b188_17 hS, c189 hS h.ok (by omega) g.2]
      simp only [Option.bind_some, zpush0]
      rw [b188_23, c190]
      simp only [Option.bind_some, zpush0]
      rw [b188_26, b188_30]
    rw [c1]
    refine zwp_ret ?_
    rw [c2]
    exact zwp_ret ⟨⟨_, rfl, rfl⟩, zJ_ok h hn⟩
  · have c1 : zcall 77 [(2, 0), (0, x1), (0, x2)] T V = some ((0, -1), T, V) := by
      rw [e77, b77_0, c72]
      simp only [Option.bind_some, zpush0]
      rw [b77_4]
      by_cases g1 : x1 = 0 ∨ x1 = 1
      · rw [if_pos g1, if_neg (by decide), b77_7, c29, if_neg (fun q => g ⟨g1, q⟩)]
        simp only [Option.bind_some, zpush0]
        rw [b77_11, if_pos rfl, b77_14]
      · rw [if_neg g1, if_pos rfl, b77_14]
    have c2 : zcall 188 [(2, 130), (0, x1), (0, x2)] T V = some ((0, -1), T, V) := by
      rw [e188, b188_0, c183]
      simp only [Option.bind_some, zpush0]
      rw [b188_4]
      by_cases g1 : x1 = 0 ∨ x1 = 1
      · rw [if_pos g1, if_neg (by decide), b188_7, c150, if_neg (fun q => g ⟨g1, by omega⟩)]
        simp only [Option.bind_some, zpush0]
        rw [b188_14, if_pos rfl, b188_29, b188_30]
      · rw [if_neg g1, if_pos rfl, b188_29, b188_30]
    rw [c1]
    refine zwp_ret ?_
    rw [c2]
    exact zwp_ret ⟨⟨_, rfl, rfl⟩, zJ_ok h hn⟩
theorem c191s {t i : Int} (h : zJ n T V) (ht : 0 ≤ t ∧ t ≤ 1) (hi : 0 ≤ i ∧ i < V 132 427) : (0 ≤ 300 + (if t = 0 then i else V 132 427 - 1 - i) ∧ 300 + (if t = 0 then i else V 132 427 - 1 - i) < 316) ∧ (0 ≤ V 132 (300 + (if t = 0 then i else V 132 427 - 1 - i)) ∧ V 132 (300 + (if t = 0 then i else V 132 427 - 1 - i)) < 128) := by
  have hN := h.ok.n
  split
  · exact ⟨by omega, (h.ok.wall (by omega) (by omega)).1⟩
  · exact ⟨by omega, (h.ok.wall (by omega) (by omega)).1⟩
theorem k_read {x1 x2 : Int} (h : zJ n T V) (hn : n < 1000) : zSame 0 80 191 [(0, x1), (0, x2)] n T V := by
  have hS := h.str
  have hN := h.ok.n
  have e1 := h.sr.n
  unfold zSame
  by_cases g : (x1 = 0 ∨ x1 = 1) ∧ 0 ≤ x2 ∧ x2 < V 132 427
  · have c1 : zcall 80 [(2, 0), (0, x1), (0, x2)] T V = some ((0, if zrs (V 132) x1 x2 = 26 then -1 else zrs (V 132) x1 x2), T, V) := by
      rw [e80, b80_0, c72, if_pos g.1]
      simp only [Option.bind_some, zpush0]
      rw [b80_4, if_neg (by decide), b80_7 hS, c28 (st1 hS), e1, if_pos g.2]
      simp only [Option.bind_some, zpush0]
      rw [b80_15, if_neg (by decide), b80_20 hS, c81 h (by omega) g.2]
      simp only [Option.bind_some, zpush0]
      rw [b80_26, c79]
      simp only [Option.bind_some, zpush0]
      rw [b80_29]
    have c2 : zcall 191 [(2, 130), (0, x1), (0, x2)] T V = some ((0, if zrs (V 132) x1 x2 = 26 then -1 else zrs (V 132) x1 x2), T, V) := by
      have q := c191s h (t := x1) (i := x2) (by omega) g.2
      rw [e191, b191_0, c183, if_pos g.1]
      simp only [Option.bind_some, zpush0]
      rw [b191_4, if_neg (by decide), b191_7 hS, c157 hS (by omega), if_pos g.2]
      simp only [Option.bind_some, zpush0]
      rw [b191_12, if_neg (by decide), b191_15 hS, c192 hS (by omega) (by omega)]
      simp only [Option.bind_some, zpush0]
      rw [b191_30 hS (by omega) (by omega), c189 hS h.ok (by omega) q.2]
      simp only [Option.bind_some, zpush0]
      rw [b191_35, c190]
      simp only [Option.bind_some, zpush0]
      rw [b191_38, b191_42]
      rfl
    rw [c1]
    refine zwp_ret ?_
    rw [c2]
    exact zwp_ret ⟨⟨_, rfl, rfl⟩, zJ_ok h hn⟩
  · have c1 : zcall 80 [(2, 0), (0, x1), (0, x2)] T V = some ((0, -1), T, V) := by
      rw [e80, b80_0, c72]
      simp only [Option.bind_some, zpush0]
      rw [b80_4]
      by_cases g1 : x1 = 0 ∨ x1 = 1
      · rw [if_pos g1, if_neg (by decide), b80_7 hS, c28 (st1 hS), e1, if_neg (fun q => g ⟨g1, q⟩)]
        simp only [Option.bind_some, zpush0]
        rw [b80_15, if_pos rfl, b80_18]
      · rw [if_neg g1, if_pos rfl, b80_18]
    have c2 : zcall 191 [(2, 130), (0, x1), (0, x2)] T V = some ((0, -1), T, V) := by
      rw [e191, b191_0, c183]
      simp only [Option.bind_some, zpush0]
      rw [b191_4]
      by_cases g1 : x1 = 0 ∨ x1 = 1
      · rw [if_pos g1, if_neg (by decide), b191_7 hS, c157 hS (by omega), if_neg (fun q => g ⟨g1, q⟩)]
        simp only [Option.bind_some, zpush0]
        rw [b191_12, if_pos rfl, b191_41, b191_42]
      · rw [if_neg g1, if_pos rfl, b191_41, b191_42]
    rw [c1]
    refine zwp_ret ?_
    rw [c2]
    exact zwp_ret ⟨⟨_, rfl, rfl⟩, zJ_ok h hn⟩
/-- a word stands there -/
def zwa (K : Int → Int) (t f w k : Int) : Prop := K (156 + 8 * (8 * t + w) + (2 + k)) = zrs K t (f + k)
def zisw (K : Int → Int) (t f e : Int) : Prop := ∃ w, (0 ≤ w ∧ w < K (284 + t)) ∧ zwl K t w = e - f ∧ ∀ k, 0 ≤ k → k < e - f → zwa K t f w k
theorem c84 {t b w f : Int} (h : zJ n T V) (ht : 0 ≤ t ∧ t ≤ 1) (hb : b = if t = 0 then 6 else 14) (hw : 0 ≤ w ∧ w < V 132 (284 + t)) (hf : 0 ≤ f ∧ f + zwl (V 132) t w ≤ V 132 427) : zcall 84 [(2, 0), (0, t), (0, w), (0, f)] T V = some ((0, zif (∀ k, 0 ≤ k → k < zwl (V 132) t w → zwa (V 132) t f w k) 1 0), T, V) := by
  have hS := h.str
  have hN := h.ok.n
  have hm := (h.ok.many ht.1 ht.2).1
  have hr := h.ok.wrd ht.1 ht.2 hw.1 hw.2
  have hb2 : zTongue T b ∧ V (b + 4) w = zwl (V 132) t w ∧ ∀ i, 0 ≤ i → i < 6 → V (b + 5) (w * 6 + i) = V 132 (156 + 8 * (8 * t + w) + (2 + i)) := by
    have : t = 0 ∨ t = 1 := by omega
    rcases this with e | e
    · subst e
      rw [hb, if_pos rfl]
      exact ⟨st6 hS, h.sr.east.len hw.1 (by omega), fun i i1 i2 => h.sr.east.ltr hw.1 (by omega) i1 i2⟩
    · subst e
      rw [hb, if_neg (by decide)]
      exact ⟨st14 hS, h.sr.west.len hw.1 (by omega), fun i i1 i2 => h.sr.west.ltr hw.1 (by omega) i1 i2⟩
  obtain ⟨b1, b2, b3⟩ := hb2
  rw [e84, b84_0 hS, c74 (st1 hS)]
  simp only [Option.bind_some, zpush2]
  rw [b84_8, show (if t = 0 then 1 + 5 else 1 + 13 : Int) = b by rw [hb]; rfl]
  have hwl : zwl (V 132) t w = V 132 (156 + 8 * (8 * t + w) + 1) := rfl
  refine zup (α := Unit) (fun k _ => ∀ k', 0 ≤ k' → k' < k → zwa (V 132) t f w k') (fun k _ => ev 84 13 [(2, 0), (0, t), (0, w), (0, f), (2, b), (0, k)] [] T V = some ((0, zif (∀ k, 0 ≤ k → k < zwl (V 132) t w → zwa (V 132) t f w k) 1 0), T, V)) (lo := 0) (hi := zwl (V 132) t w) (by omega) ?_ ?_ () (fun k' h1 h2 => by omega)
  · intro _ hk
    rw [b84_13 b1 (by omega), if_pos (by omega), b84_53, zif_t hk]
  · intro k _ k1 k2 hk next
    rw [b84_13 b1 (by omega), if_neg (by omega), b84_25 hS (by omega), c81 h ht (by omega)]
    simp only [Option.bind_some, zpush0]
    rw [b84_34 b1, c76 b1 (by omega) (by omega), b3 k k1 (by omega)]
    simp only [Option.bind_some, zpush0]
    rw [b84_42]
    by_cases g : zrs (V 132) t (f + k) = V 132 (156 + 8 * (8 * t + w) + (2 + k))
    · rw [if_pos g, b84_47 (by omega)]
      refine next () (fun k' g1 g2 => ?_)
      by_cases e : k' = k
      · rw [e]; exact g.symm
      · exact hk k' g1 (by omega)
    · rw [if_neg g, b84_45, zif_f (fun q => g (q k k1 k2).symm)]
theorem c83 {t f e : Int} (h : zJ n T V) (ht : 0 ≤ t ∧ t ≤ 1) (hf : 0 ≤ f ∧ f ≤ e ∧ e ≤ V 132 427) : zcall 83 [(2, 0), (0, t), (0, f), (0, e)] T V = some ((0, zif (zisw (V 132) t f e) 1 0), T, V) := by
  have hS := h.str
  have hN := h.ok.n
  have hm := (h.ok.many ht.1 ht.2).1
  obtain ⟨b, hb⟩ : ∃ b : Int, b = if t = 0 then 6 else 14 := ⟨_, rfl⟩
  have hb2 : zTongue T b ∧ V b 5 = V 132 (284 + t) ∧ ∀ w, 0 ≤ w → w < 8 → V (b + 4) w = zwl (V 132) t w := by
    have : t = 0 ∨ t = 1 := by omega
    rcases this with e | e
    · subst e
      rw [hb, if_pos rfl]
      exact ⟨st6 hS, h.sr.east.words, fun i i1 i2 => h.sr.east.len i1 i2⟩
    · subst e
      rw [hb, if_neg (by decide)]
      exact ⟨st14 hS, h.sr.west.words, fun i i1 i2 => h.sr.west.len i1 i2⟩
  obtain ⟨b1, b2, b3⟩ := hb2
  rw [e83, b83_0 hS, c74 (st1 hS)]
  simp only [Option.bind_some, zpush2]
  rw [b83_8, show (if t = 0 then 1 + 5 else 1 + 13 : Int) = b by rw [hb]; rfl]
  refine zup (α := Unit) (fun w _ => ∀ w', 0 ≤ w' → w' < w → ¬ (zwl (V 132) t w' = e - f ∧ ∀ k, 0 ≤ k → k < e - f → zwa (V 132) t f w' k)) (fun w _ => ev 83 13 [(2, 0), (0, t), (0, f), (0, e), (2, b), (0, w)] [] T V = some ((0, zif (zisw (V 132) t f e) 1 0), T, V)) (lo := 0) (hi := V 132 (284 + t)) hm.1 ?_ ?_ () (fun w' h1 h2 => by omega)
  · intro _ hw
    rw [b83_13 b1, if_pos (by omega), b83_56, zif_f]
    rintro ⟨w, w1, w2⟩
    exact hw w w1.1 w1.2 w2
  · intro w _ w1 w2 hw next
    rw [b83_13 b1, if_neg (by omega), b83_23 b1 (by omega) (by omega), b3 w w1 (by omega)]
    have skip : ¬ (zwl (V 132) t w = e - f ∧ ∀ k, 0 ≤ k → k < e - f → zwa (V 132) t f w k) → ev 83 50 [(2, 0), (0, t), (0, f), (0, e), (2, b), (0, w)] [] T V = some ((0, zif (zisw (V 132) t f e) 1 0), T, V) := fun q => by
      rw [b83_50 (by omega)]
      refine next () (fun w' g1 g2 => ?_)
      by_cases c : w' = w
      · rw [c]; exact q
      · exact hw w' g1 (by omega)
    by_cases g : zwl (V 132) t w = e - f
    · rw [if_pos g, b83_37 hS, c84 h ht hb ⟨w1, w2⟩ (by omega)]
      simp only [Option.bind_some, zpush0]
      rw [b83_45]
      by_cases g2 : ∀ k, 0 ≤ k → k < zwl (V 132) t w → zwa (V 132) t f w k
      · rw [zif_t g2, if_neg (by decide), b83_48, zif_t ⟨w, ⟨w1, w2⟩, g, fun k k1 k2 => g2 k k1 (by omega)⟩]
      · rw [zif_f g2, if_pos rfl]
        exact skip (fun q => g2 (fun k k1 k2 => q.2 k k1 (by omega)))
    · rw [if_neg g]
      exact skip (fun q => g q.1)
theorem c194 {t f e : Int} (h : zJ n T V) (ht : 0 ≤ t ∧ t ≤ 1) (hf : 0 ≤ f ∧ f ≤ e ∧ e ≤ V 132 427) : zcall 194 [(2, 130), (0, t), (0, f), (0, e)] T V = some ((0, zif (zisw (V 132) t f e) 1 0), T, V) := by
  have hS := h.str
  have hN := h.ok.n
  have hm := (h.ok.many ht.1 ht.2).1
  rw [e194, b194_0]
  refine zup (α := zV × zV) (fun w _ => ∀ w', 0 ≤ w' → w' < w → ¬ (zwl (V 132) t w' = e - f ∧ ∀ k, 0 ≤ k → k < e - f → zwa (V 132) t f w' k)) (fun w a => ev 194 3 [(2, 130), (0, t), (0, f), (0, e), (0, w), a.1, a.2] [] T V = some ((0, zif (zisw (V 132) t f e) 1 0), T, V)) (lo := 0) (hi := V 132 (284 + t)) hm.1 ?_ ?_ ((9, 0), (9, 0)) (fun w' h1 h2 => by omega)
  · intro a hw
    rw [b194_3 hS (by omega) (by omega), if_pos (by omega), b194_118, zif_f]
    rintro ⟨w, w1, w2⟩
    exact hw w w1.1 w1.2 w2
  · intro w a w1 w2 hw next
    have hr := h.ok.wrd ht.1 ht.2 w1 w2
    have hwl : zwl (V 132) t w = V 132 (156 + 8 * (8 * t + w) + 1) := rfl
    have fin : ∀ x5 x6, (x5 = zif (zwl (V 132) t w = e - f ∧ ∀ k, 0 ≤ k → k < e - f → zwa (V 132) t f w k) 1 0) → ev 194 105 [(2, 130), (0, t), (0, f), (0, e), (0, w), (0, x5), (0, x6)] [] T V = some ((0, zif (zisw (V 132) t f e) 1 0), T, V) := by
      intro x5 x6 hx
      rw [b194_105]
      by_cases g : zwl (V 132) t w = e - f ∧ ∀ k, 0 ≤ k → k < e - f → zwa (V 132) t f w k
      · rw [zif_t g] at hx
        rw [if_neg (by omega), b194_110, zif_t ⟨w, ⟨w1, w2⟩, g⟩]
      · rw [zif_f g] at hx
        rw [if_pos hx, b194_112 (by omega)]
        refine next ((0, x5), (0, x6)) (fun w' g1 g2 => ?_)
        by_cases c : w' = w
        · rw [c]; exact g
        · exact hw w' g1 (by omega)
    rw [b194_3 hS (by omega) (by omega), if_neg (by omega), b194_18 hS, c187 hS ht (by omega) (by decide), ← hwl]
    simp only [Option.bind_some, zpush0]
    rw [b194_26 (by omega)]
    by_cases g : zwl (V 132) t w = e - f
    · rw [if_pos g, b194_32, b194_37]
      refine zup (α := Unit) (fun k _ => ∀ k', 0 ≤ k' → k' < k → zwa (V 132) t f w k') (fun k _ => ev 194 42 [(2, 130), (0, t), (0, f), (0, e), (0, w), (0, 1), (0, k)] [] T V = some ((0, zif (zisw (V 132) t f e) 1 0), T, V)) (lo := 0) (hi := e - f) (by omega) ?_ ?_ () (fun k' h1 h2 => by omega)
      · intro _ hk
        rw [b194_42 (by omega), if_pos (by omega)]
        exact fin _ _ (zif_t ⟨g, hk⟩).symm
      · intro k _ k1 k2 hk next2
        have q := c191s h (t := t) (i := f + k) ht (by omega)
        rw [b194_42 (by omega), if_neg (by omega), b194_50, if_neg (by decide), b194_55 hS (by omega), c187 hS ht (by omega) (by omega)]
        simp only [Option.bind_some, zpush0]
        rw [b194_66 hS (by omega), c192 hS (by omega) (by omega)]
        simp only [Option.bind_some, zpush0]
        rw [b194_84 hS (by omega) (by omega), c189 hS h.ok ht q.2]
        simp only [Option.bind_some, zpush0]
        rw [b194_89]
        by_cases g2 : zwa (V 132) t f w k
        · rw [if_pos (show V 132 (156 + 8 * (8 * t + w) + (2 + k)) = zsgn (V 132) t (V 132 (300 + if t = 0 then f + k else V 132 427 - 1 - (f + k))) from g2), b194_92, b194_97 (by omega)]
          refine next2 () (fun k' g1 g3 => ?_)
          by_cases c : k' = k
          · rw [c]; exact g2
          · exact hk k' g1 (by omega)
        · rw [if_neg (show ¬ V 132 (156 + 8 * (8 * t + w) + (2 + k)) = zsgn (V 132) t (V 132 (300 + if t = 0 then f + k else V 132 427 - 1 - (f + k))) from g2), b194_96, b194_97 (by omega), b194_42 (by omega)]
          have z : (0 : Int) = zif (zwl (V 132) t w = e - f ∧ ∀ k, 0 ≤ k → k < e - f → zwa (V 132) t f w k) 1 0 := (zif_f (fun q => g2 (q.2 k k1 k2))).symm
          by_cases c : e - f ≤ k + 1
          · rw [if_pos c]; exact fin _ _ z
          · rw [if_neg c, b194_50, if_pos rfl]; exact fin _ _ z
    · rw [if_neg g, b194_36, b194_37, b194_42 (by omega)]
      have z : (0 : Int) = zif (zwl (V 132) t w = e - f ∧ ∀ k, 0 ≤ k → k < e - f → zwa (V 132) t f w k) 1 0 := (zif_f (fun q => g q.1)).symm
      by_cases c : e - f ≤ 0
      · rw [if_pos c]; exact fin _ _ z
      · rw [if_neg c, b194_50, if_pos rfl]; exact fin _ _ z
/-- how many words are spoken -/
noncomputable def zsp (K : Int → Int) (t : Int) : Nat → Int → Int → Int → Int
  | 0, w, _, _ => w
  | f + 1, w, s, i => zif (i = K 427 ∨ zrs K t i = 26) (zif (zisw K t s i) (zsp K t f (w + 1) (i + 1) (i + 1)) 0) (zsp K t f w s (i + 1))
theorem c82 {t : Int} (h : zJ n T V) (ht : 0 ≤ t ∧ t ≤ 1) (f : Nat) : ∀ w s i : Int, 0 ≤ s → s ≤ i → V 132 427 + 1 - i = f → 0 ≤ w → w ≤ i → ev 82 16 [(2, 0), (0, t), (0, w), (0, s), (0, i)] [] T V = some ((0, zsp (V 132) t f w s i), T, V) := by
  have hS := h.str
  have hN := h.ok.n
  have e1 := h.sr.n
  induction f with
  | zero =>
    intro w s i s1 s2 hf w1 w2
    rw [b82_16 hS, if_pos (by omega), b82_79, zsp]
  | succ f ih =>
    intro w s i s1 s2 hf w1 w2
    rw [b82_16 hS, if_neg (by omega), b82_28 hS, e1, zsp]
    have gap : (i = V 132 427 ∨ zrs (V 132) t i = 26) → ev 82 52 [(2, 0), (0, t), (0, w), (0, s), (0, i)] [] T V = some ((0, zif (i = V 132 427 ∨ zrs (V 132) t i = 26) (zif (zisw (V 132) t s i) (zsp (V 132) t f (w + 1) (i + 1) (i + 1)) 0) (zsp (V 132) t f w s (i + 1))), T, V) := fun q => by
      rw [b82_52 hS, c83 h ht (by omega), zif_t q]
      simp only [Option.bind_some, zpush0]
      rw [b82_60]
      by_cases g : zisw (V 132) t s i
      · rw [zif_t g, zif_t g, if_neg (by decide), b82_65 (by omega) (by omega), b82_73 (by omega), ih _ _ _ (by omega) (by omega) (by omega) (by omega) (by omega)]
      · rw [zif_f g, zif_f g, if_pos rfl, b82_63]
    by_cases g : i = V 132 427
    · rw [if_pos g]
      exact gap (Or.inl g)
    · rw [if_neg g, b82_40 hS, c81 h ht (by omega)]
      simp only [Option.bind_some, zpush0]
      rw [b82_47]
      by_cases g2 : zrs (V 132) t i = 26
      · rw [if_pos g2]
        exact gap (Or.inr g2)
      · rw [if_neg g2, b82_73 (by omega), ih _ _ _ (by omega) (by omega) (by omega) (by omega) (by omega), zif_f (by omega)]
theorem c193 {t : Int} (h : zJ n T V) (ht : 0 ≤ t ∧ t ≤ 1) (f : Nat) : ∀ w s i : Int, 0 ≤ s → s ≤ i → i ≤ V 132 427 → V 132 427 + 1 - i = f → 0 ≤ w → w ≤ i → ev 193 28 [(2, 130), (0, t), (0, w), (0, s), (0, i)] [] T V = some ((0, zsp (V 132) t f w s i), T, V) := by
  have hS := h.str
  have hN := h.ok.n
  induction f with
  | zero => intro w s i s1 s2 s3 hf w1 w2; omega
  | succ f ih =>
    intro w s i s1 s2 s3 hf w1 w2
    rw [b193_28 hS, zsp]
    have gap : (i = V 132 427 ∨ zrs (V 132) t i = 26) → ev 193 73 [(2, 130), (0, t), (0, w), (0, s), (0, i)] [] T V = some ((0, zif (i = V 132 427 ∨ zrs (V 132) t i = 26) (zif (zisw (V 132) t s i) (zsp (V 132) t f (w + 1) (i + 1) (i + 1)) 0) (zsp (V 132) t f w s (i + 1))), T, V) := fun q => by
      rw [b193_73 hS, c194 h ht (by omega), zif_t q]
      simp only [Option.bind_some, zpush0]
      rw [b193_81]
      by_cases g : zisw (V 132) t s i
      · rw [zif_t g, zif_t g, if_neg (by decide), b193_86 (by omega) (by omega), b193_13 hS]
        by_cases c : V 132 427 < i + 1
        · have e0 : f = 0 := by omega
          subst e0
          rw [if_pos c, b193_97, zsp]
        · rw [if_neg c, b193_25, ih _ _ _ (by omega) (by omega) (by omega) (by omega) (by omega) (by omega)]
      · rw [zif_f g, zif_f g, if_pos rfl, b193_84]
    by_cases g : V 132 427 ≤ i
    · rw [if_pos g]
      exact gap (Or.inl (by omega))
    · have q := c191s h (t := t) (i := i) ht (by omega)
      rw [if_neg g, b193_41 hS, c192 hS (by omega) (by omega)]
      simp only [Option.bind_some, zpush0]
      rw [b193_57 hS (by omega) (by omega), c189 hS h.ok ht q.2]
      simp only [Option.bind_some, zpush0]
      rw [b193_62]
      by_cases g2 : zrs (V 132) t i = 26
      · rw [if_pos (show zsgn (V 132) t (V 132 (300 + if t = 0 then i else V 132 427 - 1 - i)) = 26 from g2)]
        exact gap (Or.inr g2)
      · rw [if_neg (show ¬ zsgn (V 132) t (V 132 (300 + if t = 0 then i else V 132 427 - 1 - i)) = 26 from g2), b193_67 (by omega), ih _ _ _ (by omega) (by omega) (by omega) (by omega) (by omega) (by omega), zif_f (by omega)]
theorem k_spoken {x1 : Int} (h : zJ n T V) (hn : n < 1000) : zSame 0 82 193 [(0, x1)] n T V := by
  have hS := h.str
  have hN := h.ok.n
  unfold zSame
  by_cases g : x1 = 0 ∨ x1 = 1
  · have c1 : zcall 82 [(2, 0), (0, x1)] T V = some ((0, zsp (V 132) x1 (V 132 427 + 1).toNat 0 0 0), T, V) := by
      rw [e82, b82_0, c72, if_pos g]
      simp only [Option.bind_some, zpush0]
      rw [b82_4, if_neg (by decide), b82_9, c82 h (by omega) (V 132 427 + 1).toNat 0 0 0 (by decide) (by decide) (by omega) (by decide) (by decide)]
    have c2 : zcall 193 [(2, 130), (0, x1)] T V = some ((0, zsp (V 132) x1 (V 132 427 + 1).toNat 0 0 0), T, V) := by
      rw [e193, b193_0, c183, if_pos g]
      simp only [Option.bind_some, zpush0]
      rw [b193_4, if_neg (by decide), b193_9, b193_13 hS, if_neg (by omega), b193_25, c193 h (by omega) (V 132 427 + 1).toNat 0 0 0 (by decide) (by decide) (by omega) (by omega) (by decide) (by decide)]
    rw [c1]
    refine zwp_ret ?_
    rw [c2]
    exact zwp_ret ⟨⟨_, rfl, rfl⟩, zJ_ok h hn⟩
  · have c1 : zcall 82 [(2, 0), (0, x1)] T V = some ((0, -1), T, V) := by
      rw [e82, b82_0, c72, if_neg g]
      simp only [Option.bind_some, zpush0]
      rw [b82_4, if_pos rfl, b82_7]
    have c2 : zcall 193 [(2, 130), (0, x1)] T V = some ((0, -1), T, V) := by
      rw [e193, b193_0, c183, if_neg g]
      simp only [Option.bind_some, zpush0]
      rw [b193_4, if_pos rfl, b193_7]
    rw [c1]
    refine zwp_ret ?_
    rw [c2]
    exact zwp_ret ⟨⟨_, rfl, rfl⟩, zJ_ok h hn⟩
end READS
