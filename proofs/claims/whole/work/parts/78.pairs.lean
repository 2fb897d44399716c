/-! which letters go together -/
section PAIRS
variable {n : Int} {T : zT} {V : zM}
theorem c199 {s : Int} (hS : zStr T) (hK : zcok (V 132)) : zcall 199 [(2, 130), (0, s)] T V = some ((0, zcst (V 132) s), T, V) := by
  have key := zfor (fun k => ev 199 4 [(2, 130), (0, s), (0, zcs (V 132) s k.toNat), (0, k)] [] T V) (lo := 0) (hi := 7) (by decide) (fun k h1 h2 => by
    show ev 199 4 _ _ _ _ = ev 199 4 _ _ _ _
    have e : (k + 1).toNat = k.toNat + 1 := by omega
    have ek : ((k.toNat : Nat) : Int) = k := Int.toNat_of_nonneg h1
    have hm := hK k h1 h2
    have hr := zcs_r hK s k.toNat (by omega)
    rw [b199_4, if_neg (by omega), b199_10 (by omega), zand_1, e, zcs, ek]
    by_cases g : s / 2 ^ k.toNat % 2 = 1
    · rw [if_pos g, if_pos g, b199_20 hS (by omega) (by omega), b199_34 (by omega) (by omega)]
    · rw [if_neg g, if_neg g, b199_33, b199_34 (by omega) (by omega)])
  rw [e199, b199_0]
  refine key.trans ?_
  rw [b199_4, if_pos (by decide), b199_42]
  rfl
theorem c197 (hS : zStr T) (hK : zKok (V 132)) : zwp (zcall 197 [(2, 130)] T V) fun r T' V' => r = (9, 0) ∧ T' = T ∧ (∀ r, r ≠ 142 → r ≠ 143 → V' r = V r) ∧ ∀ s, 0 ≤ s → s < 128 → V' 142 s = zsgn (V 132) 0 s ∧ V' 143 s = zsgn (V 132) 1 s := by
  rw [e197, b197_0]
  refine zup (α := zM) (fun i W => (∀ r, r ≠ 142 → r ≠ 143 → W r = V r) ∧ ∀ s, 0 ≤ s → s < i → W 142 s = zsgn (V 132) 0 s ∧ W 143 s = zsgn (V 132) 1 s) (fun i W => zwp (ev 197 2 [(2, 130), (0, i)] [] T W) fun r T' V' => r = (9, 0) ∧ T' = T ∧ (∀ r, r ≠ 142 → r ≠ 143 → V' r = V r) ∧ ∀ s, 0 ≤ s → s < 128 → V' 142 s = zsgn (V 132) 0 s ∧ V' 143 s = zsgn (V 132) 1 s) (lo := 0) (hi := 128) (by decide) ?_ ?_ V ⟨fun r _ _ => rfl, fun s h1 h2 => by omega⟩
  · intro W hW
    show zwp (ev 197 2 _ _ _ _) _
    rw [b197_2, if_pos (by decide), b197_39]
    exact zwp_ret ⟨rfl, rfl, hW.1, hW.2⟩
  · intro i W i1 i2 hW next
    show zwp (ev 197 2 _ _ _ _) _
    have e : W 132 = V 132 := hW.1 132 (by decide) (by decide)
    have e2 : ∀ x, zwr W 142 i x 132 = V 132 := fun x => by rw [zwr_ne (by decide), e]
    rw [b197_2, if_neg (by omega), b197_9 hS, c189 hS (by rw [e]; exact hK) (by decide) ⟨i1, i2⟩]
    simp only [Option.bind_some, zpush0]
    rw [b197_20 hS ⟨i1, i2⟩, c189 hS (by rw [e2]; exact hK) (by decide) ⟨i1, i2⟩]
    simp only [Option.bind_some, zpush0]
    rw [b197_32 hS ⟨i1, i2⟩ (by omega), e2, e]
    refine next _ ⟨fun r h1 h2 => by rw [zwr_ne h2, zwr_ne h1]; exact hW.1 r h1 h2, fun s h1 h2 => ?_⟩
    rw [zwr_ne (r := 142) (by decide), zwr_same, zwr_same, zwr_ne (by decide)]
    by_cases c : s = i
    · rw [if_pos c, if_pos c, c]; exact ⟨rfl, rfl⟩
    · rw [if_neg c, if_neg c]; exact hW.2 s h1 (by omega)
theorem zJ_md {V' : zM} (h : zJ n T V) (hn : n < 1000) (er : ∀ r, (138 ≤ r ∧ r ≤ 150) ∨ r = 152 ∨ r = 77 ∨ r = 130 ∨ V' r = V r) (e130 : ∀ j, j = 0 ∨ j = 1 ∨ j = 2 ∨ j = 8 ∨ j = 12 ∨ j = 13 → V' 130 j = V 130 j) : zJ (n + 1) T V' := by
  have e : ∀ r, ¬ ((138 ≤ r ∧ r ≤ 150) ∨ r = 152 ∨ r = 77 ∨ r = 130) → V' r = V r := fun r g => by
    rcases er r with q | q | q | q | q
    · exact absurd (Or.inl q) g
    · exact absurd (Or.inr (Or.inl q)) g
    · exact absurd (Or.inr (Or.inr (Or.inl q))) g
    · exact absurd (Or.inr (Or.inr (Or.inr q))) g
    · exact q
  obtain ⟨⟨s1, s2, s3⟩, ⟨s4, s5, s6, s7⟩, s8, s9, s10, s11, s12⟩ := h.sc
  refine zJ_same h (fun r hr => e r (by unfold zkeep at hr; omega)) ?_ ?_ ?_ ?_
  · have ht := h.tape
    unfold zTape at ht ⊢
    rw [e 56 (by decide), e 57 (by decide), e 137 (by decide), e130 12 (by decide)]
    exact ht
  · unfold zSc
    rw [e 0 (by decide), e 129 (by decide), e 131 (by decide), e130 13 (by decide), e130 8 (by decide), e130 0 (by decide), e130 1 (by decide), e130 2 (by decide)]
    exact ⟨⟨s1, s2, s3⟩, ⟨s4, s5, s6, s7⟩, by omega, s9, by omega, s11, by omega⟩
  · rw [e 0 (by decide)]; exact id
  · rw [e130 1 (by decide), e130 2 (by decide)]; exact id
theorem zpr_c {K : Int → Int} : zpr (zkc K) = zpr K := zpr_k (fun i g1 g2 => zkc_in (Or.inl ⟨g1, g2⟩))
/-- the table of all pairs, over what is kept -/
theorem zJ.pt2 (h : zJ n T V) : zPT V 65 (V 132) (fun _ => True) (fun _ => 0) := by
  have := h.pt
  unfold zPT at this ⊢
  rw [zpr_c, zcst_c] at this
  exact this
/-- the least of the sets of pair p -/
def zlp (K : Int → Int) (S : Int → Prop) (x : Int) : Prop := ((∀ s, 0 ≤ s → s < 128 → ¬ S s) ∧ x = -1) ∨ ((0 ≤ x ∧ x < 128) ∧ S x ∧ ∀ s, 0 ≤ s → s < 128 → S s → zcst K x < zcst K s ∨ (zcst K x = zcst K s ∧ x ≤ s))
theorem zlp_u {K : Int → Int} {S : Int → Prop} {x y : Int} (h : zlp K S x) (g : zlp K S y) : x = y := by
  rcases h with ⟨h1, h2⟩ | ⟨h1, h2, h3⟩
  · rcases g with ⟨g1, g2⟩ | ⟨g1, g2, g3⟩
    · omega
    · exact absurd g2 (h1 y g1.1 g1.2)
  · rcases g with ⟨g1, g2⟩ | ⟨g1, g2, g3⟩
    · exact absurd h2 (g1 x h1.1 h1.2)
    · have a := h3 y g1.1 g1.2 g2
      have b := g3 x h1.1 h1.2 h2
      omega
theorem zcnt_1 {p q : Int → Prop} {i : Nat} (h : zcnt q i = zcnt p i) : zcnt q i = zcnt p i := h
theorem zcnt_s {p : Int → Prop} {i : Int} (h : 0 ≤ i) : zcnt p (i + 1).toNat = zcnt p i.toNat + zif (p i) 1 0 := by
  have e : (i + 1).toNat = i.toNat + 1 := by omega
  rw [e, zcnt, Int.toNat_of_nonneg h]
theorem k_pair {x1 x2 x3 : Int} (h : zJ n T V) (hn : n < 1000) : zSame 0 85 195 [(0, x1), (0, x2), (0, x3)] n T V := by
  have hS := h.str
  have hP := h.pt2
  have hc := h.ok.cok
  unfold zSame
  by_cases g1 : ¬ (-1 ≤ x1 ∧ x1 < 26)
  · have c1 : zcall 85 [(2, 0), (0, x1), (0, x2), (0, x3)] T V = some ((0, -1), T, V) := by
      rw [e85, b85_0, c86, if_neg g1]
      simp only [Option.bind_some, zpush0]
      rw [b85_4, if_pos rfl, b85_14]
    have c2 : zcall 195 [(2, 130), (0, x1), (0, x2), (0, x3)] T V = some ((0, -1), T, V) := by
      rw [e195, b195_0, c196, if_neg g1]
      simp only [Option.bind_some, zpush0]
      rw [b195_4, if_pos rfl, b195_23]
    rw [c1]
    refine zwp_ret ?_
    rw [c2]
    exact zwp_ret ⟨⟨_, rfl, rfl⟩, zJ_ok h hn⟩
  replace g1 := Classical.not_not.1 g1
  by_cases g2 : ¬ (-1 ≤ x2 ∧ x2 < 26)
  · have c1 : zcall 85 [(2, 0), (0, x1), (0, x2), (0, x3)] T V = some ((0, -1), T, V) := by
      rw [e85, b85_0, c86, if_pos g1]
      simp only [Option.bind_some, zpush0]
      rw [b85_4, if_neg (by decide), b85_7, c86, if_neg g2]
      simp only [Option.bind_some, zpush0]
      rw [b85_11, if_pos rfl, b85_14]
    have c2 : zcall 195 [(2, 130), (0, x1), (0, x2), (0, x3)] T V = some ((0, -1), T, V) := by
      rw [e195, b195_0, c196, if_pos g1]
      simp only [Option.bind_some, zpush0]
      rw [b195_4, if_neg (by decide), b195_7, c196, if_neg g2]
      simp only [Option.bind_some, zpush0]
      rw [b195_11, if_pos rfl, b195_23]
    rw [c1]
    refine zwp_ret ?_
    rw [c2]
    exact zwp_ret ⟨⟨_, rfl, rfl⟩, zJ_ok h hn⟩
  replace g2 := Classical.not_not.1 g2
  obtain ⟨a, ha⟩ : ∃ a : Int, (if x1 = -1 then 26 else x1) = a := ⟨_, rfl⟩
  obtain ⟨b, hb⟩ : ∃ b : Int, (if x2 = -1 then 26 else x2) = b := ⟨_, rfl⟩
  have ra : 0 ≤ a ∧ a ≤ 26 := by rw [← ha]; split <;> omega
  have rb : 0 ≤ b ∧ b ≤ 26 := by rw [← hb]; split <;> omega
  obtain ⟨-, -, -, -, p4, p5, -⟩ := hP
  have q4 : V 66 (a * 27 + b) = zcnt (fun s => True ∧ zpr (V 132) s = a * 27 + b) 128 := p4 (a * 27 + b) (by omega) (by omega)
  have q5 := p5 (a * 27 + b) (by omega) (by omega)
  have hcr := zcnt_r (fun s => True ∧ zpr (V 132) s = a * 27 + b) 128
  rw [show V (65 + 1) = V 66 from rfl] at q5
  rw [show V (65 + 2) = V 67 from rfl, show V (65 + 3) = V 68 from rfl] at q5
  have best : zlp (V 132) (fun s => zpr (V 132) s = a * 27 + b) (if V 66 (a * 27 + b) ≤ 0 then -1 else V 67 (a * 27 + b)) := by
    by_cases z : V 66 (a * 27 + b) ≤ 0
    · rw [if_pos z]
      refine Or.inl ⟨fun s s1 s2 q => ?_, rfl⟩
      have : 0 < zcnt (fun s => True ∧ zpr (V 132) s = a * 27 + b) 128 := zcnt_pos.2 ⟨s, ⟨s1, by omega⟩, trivial, q⟩
      omega
    · rw [if_neg z]
      obtain ⟨d1, -, d3, -, d5⟩ := q5 (by omega)
      exact Or.inr ⟨d1, d3, fun s s1 s2 q => d5 s s1 s2 trivial q⟩
  have c1 : zcall 85 [(2, 0), (0, x1), (0, x2), (0, x3)] T V = some ((0, if x3 = 0 then V 66 (a * 27 + b) else if x3 = 1 then (if V 66 (a * 27 + b) ≤ 0 then -1 else V 67 (a * 27 + b)) else -1), T, V) := by
    rw [e85, b85_0, c86, if_pos g1]
    simp only [Option.bind_some, zpush0]
    rw [b85_4, if_neg (by decide), b85_7, c86, if_pos g2]
    simp only [Option.bind_some, zpush0]
    rw [b85_11, if_neg (by decide), b85_16, c87, ha]
    simp only [Option.bind_some, zpush0]
    rw [b85_20, c87, hb]
    simp only [Option.bind_some, zpush0]
    rw [b85_24, c22 ra rb]
    simp only [Option.bind_some, zpush0]
    rw [b85_27]
    by_cases k0 : x3 = 0
    · rw [if_pos k0, if_pos k0, b85_33 hS (by omega)]
    · rw [if_neg k0, if_neg k0, b85_44]
      by_cases k1 : x3 = 1
      · rw [if_pos k1, if_pos k1, b85_49 hS (by omega)]
        by_cases z : V 66 (a * 27 + b) ≤ 0
        · rw [if_pos z, if_pos z, b85_75, b85_76]
        · rw [if_neg z, if_neg z, b85_62 hS (by omega), b85_76]
      · rw [if_neg k1, if_neg k1, b85_75, b85_76]
  rw [c1]
  refine zwp_ret ?_
  by_cases g3 : ¬ (0 ≤ x3 ∧ x3 ≤ 1)
  · have c2 : zcall 195 [(2, 130), (0, x1), (0, x2), (0, x3)] T V = some ((0, -1), T, V) := by
      rw [e195, b195_0, c196, if_pos g1]
      simp only [Option.bind_some, zpush0]
      rw [b195_4, if_neg (by decide), b195_7, c196, if_pos g2]
      simp only [Option.bind_some, zpush0]
      rw [b195_11, if_neg (by decide), b195_14, c150, if_neg g3]
      simp only [Option.bind_some, zpush0]
      rw [b195_20, if_pos rfl, b195_23]
    rw [c2]
    exact zwp_ret ⟨⟨_, rfl, by rw [if_neg (by omega), if_neg (by omega)]⟩, zJ_ok h hn⟩
  replace g3 := Classical.not_not.1 g3
  rw [e195, b195_0, c196, if_pos g1]
  simp only [Option.bind_some, zpush0]
  rw [b195_4, if_neg (by decide), b195_7, c196, if_pos g2]
  simp only [Option.bind_some, zpush0]
  rw [b195_11, if_neg (by decide), b195_14, c150, if_pos g3]
  simp only [Option.bind_some, zpush0]
  rw [b195_20, if_neg (by decide), b195_25 hS]
  refine zwp_seq (c197 hS h.ok) ?_
  rintro r T1 W ⟨rfl, rfl, w1, w2⟩
  simp only [zpush9]
  rw [b195_29]
  have e132 : W 132 = V 132 := w1 132 (by decide) (by decide)
  have hc2 : zcok (W 132) := by rw [e132]; exact hc
  refine zup (α := Int × Int) (fun i c => c.1 = zcnt (fun s => zpr (V 132) s = a * 27 + b) i.toNat ∧ zlp (V 132) (fun s => zpr (V 132) s = a * 27 + b ∧ s < i) c.2) (fun i c => zwp (ev 195 38 [(2, 130), (0, x1), (0, x2), (0, x3), (0, c.1), (0, c.2), (0, i)] [] T1 W) fun r' T2 V2 => (∃ x, (0, if x3 = 0 then V 66 (a * 27 + b) else if x3 = 1 then (if V 66 (a * 27 + b) ≤ 0 then -1 else V 67 (a * 27 + b)) else -1) = (0, x) ∧ r' = (0, x)) ∧ zJ (n + 1) T2 V2) (lo := 0) (hi := 128) (by decide) ?_ ?_ (0, -1) ⟨rfl, Or.inl ⟨fun s s1 s2 q => by have := q.2; omega, rfl⟩⟩
  · intro c hcc
    show zwp (ev 195 38 _ _ _ _) _
    obtain ⟨q1, q2⟩ := hcc
    have e1 : c.1 = V 66 (a * 27 + b) := by
      rw [q1, q4]
      exact zcnt_congr fun s _ _ => ⟨fun q => ⟨trivial, q⟩, fun q => q.2⟩
    have q2' : zlp (V 132) (fun s => zpr (V 132) s = a * 27 + b) c.2 := by
      rcases q2 with ⟨u1, u2⟩ | ⟨u1, u2, u3⟩
      · exact Or.inl ⟨fun s s1 s2 q => u1 s s1 s2 ⟨q, s2⟩, u2⟩
      · exact Or.inr ⟨u1, u2.1, fun s s1 s2 q => u3 s s1 s2 ⟨q, s2⟩⟩
    have e2 := zlp_u best q2'
    rw [b195_38, if_pos (by decide), b195_111]
    have hj : zJ (n + 1) T1 W := zJ_md h hn (fun r => by
      by_cases u : r = 142
      · omega
      · by_cases u2 : r = 143
        · omega
        · exact Or.inr (Or.inr (Or.inr (Or.inr (w1 r u u2))))) (fun j _ => by rw [w1 130 (by decide) (by decide)])
    by_cases k0 : x3 = 0
    · rw [if_pos k0, b195_115, b195_122]
      exact zwp_ret ⟨⟨_, rfl, by rw [if_pos k0, e1]⟩, hj⟩
    · rw [if_neg k0, b195_120, b195_122]
      exact zwp_ret ⟨⟨_, rfl, by rw [if_neg k0, if_pos (by omega), e2]⟩, hj⟩
  · intro i c i1 i2 hcc next
    show zwp (ev 195 38 _ _ _ _) _
    obtain ⟨q1, q2⟩ := hcc
    have cr := zcnt_r (fun s => zpr (V 132) s = a * 27 + b) i.toNat
    have pi : zpr (V 132) i = a * 27 + b ↔ zsgn (V 132) 0 i = a ∧ zsgn (V 132) 1 i = b := zpr_x (by omega) (by omega)
    have skip : ¬ zpr (V 132) i = a * 27 + b → zwp (ev 195 105 [(2, 130), (0, x1), (0, x2), (0, x3), (0, c.1), (0, c.2), (0, i)] [] T1 W) fun r' T2 V2 => (∃ x, (0, if x3 = 0 then V 66 (a * 27 + b) else if x3 = 1 then (if V 66 (a * 27 + b) ≤ 0 then -1 else V 67 (a * 27 + b)) else -1) = (0, x) ∧ r' = (0, x)) ∧ zJ (n + 1) T2 V2 := fun q => by
      rw [b195_105 (by omega)]
      refine next c ⟨by rw [zcnt_s i1, zif_f q, Int.add_zero]; exact q1, ?_⟩
      rcases q2 with ⟨u1, u2⟩ | ⟨u1, u2, u3⟩
      · refine Or.inl ⟨fun s s1 s2 z => u1 s s1 s2 ⟨z.1, ?_⟩, u2⟩
        have : s ≠ i := fun e => q (e ▸ z.1)
        have := z.2
        omega
      · refine Or.inr ⟨u1, ⟨u2.1, by have := u2.2; omega⟩, fun s s1 s2 z => u3 s s1 s2 ⟨z.1, ?_⟩⟩
        have : s ≠ i := fun e => q (e ▸ z.1)
        have := z.2
        omega
    have take : ∀ m, m = zcnt (fun s => zpr (V 132) s = a * 27 + b) (i + 1).toNat → zlp (V 132) (fun s => zpr (V 132) s = a * 27 + b ∧ s < i + 1) i → zwp (ev 195 101 [(2, 130), (0, x1), (0, x2), (0, x3), (0, m), (0, c.2), (0, i)] [] T1 W) fun r' T2 V2 => (∃ x, (0, if x3 = 0 then V 66 (a * 27 + b) else if x3 = 1 then (if V 66 (a * 27 + b) ≤ 0 then -1 else V 67 (a * 27 + b)) else -1) = (0, x) ∧ r' = (0, x)) ∧ zJ (n + 1) T2 V2 := fun m z1 z2 => by
      rw [b195_101, b195_105 (by omega)]
      exact next (m, i) ⟨z1, z2⟩
    rw [b195_38, if_neg (by omega), b195_46 hS ⟨i1, i2⟩, c198, ha, (w2 i i1 i2).1]
    simp only [Option.bind_some, zpush0]
    rw [b195_57]
    by_cases k1 : zsgn (V 132) 0 i = a
    · rw [if_pos k1, b195_60 hS ⟨i1, i2⟩, c198, hb, (w2 i i1 i2).2]
      simp only [Option.bind_some, zpush0]
      rw [b195_71]
      by_cases k2 : zsgn (V 132) 1 i = b
      · have pp := pi.2 ⟨k1, k2⟩
        have z1 : c.1 + 1 = zcnt (fun s => zpr (V 132) s = a * 27 + b) (i + 1).toNat := by rw [zcnt_s i1, zif_t pp, q1]
        rw [if_pos k2, b195_77 (by omega)]
        rcases q2 with ⟨u1, u2⟩ | ⟨u1, u2, u3⟩
        · rw [if_pos u2]
          refine take _ z1 (Or.inr ⟨⟨i1, i2⟩, ⟨pp, by omega⟩, fun s s1 s2 z => ?_⟩)
          by_cases e : s = i
          · subst e; right; omega
          · exact absurd ⟨z.1, by have := z.2; omega⟩ (u1 s s1 s2)
        · rw [if_neg (by omega), b195_86 hS, c199 hS hc2, e132]
          simp only [Option.bind_some, zpush0]
          rw [b195_92 hS, c199 hS hc2, e132]
          simp only [Option.bind_some, zpush0]
          rw [b195_98]
          by_cases k3 : zcst (V 132) c.2 ≤ zcst (V 132) i
          · rw [if_pos k3, b195_105 (by omega)]
            refine next (c.1 + 1, c.2) ⟨z1, Or.inr ⟨u1, ⟨u2.1, by have := u2.2; omega⟩, fun s s1 s2 z => ?_⟩⟩
            by_cases e : s = i
            · subst e; have := u2.2; show zcst (V 132) c.2 < _ ∨ (zcst (V 132) c.2 = _ ∧ c.2 ≤ _); omega
            · exact u3 s s1 s2 ⟨z.1, by have := z.2; omega⟩
          · rw [if_neg k3]
            refine take _ z1 (Or.inr ⟨⟨i1, i2⟩, ⟨pp, by omega⟩, fun s s1 s2 z => ?_⟩)
            by_cases e : s = i
            · subst e; right; omega
            · have := u3 s s1 s2 ⟨z.1, by have := z.2; omega⟩
              left; omega
      · rw [if_neg k2, b195_74]
        exact skip (fun q => k2 (pi.1 q).2)
    · rw [if_neg k1]
      exact skip (fun q => k1 (pi.1 q).1)
/-- partners: their bits -/
theorem zp2_b {j : Int} (h : 0 ≤ j ∧ j ≤ 26) : 0 ≤ (2 : Int) ^ j.toNat ∧ (2 : Int) ^ j.toNat < 2 ^ 27 := by
  have h1 := zp2 j.toNat
  have : (2 : Nat) ^ j.toNat < 2 ^ 27 := Nat.pow_lt_pow_right (by decide) (by omega)
  have e : ((2 ^ j.toNat : Nat) : Int) = 2 ^ j.toNat := by rw [Int.natCast_pow]; rfl
  have e' : ((2 ^ 27 : Nat) : Int) = 2 ^ 27 := by decide
  omega
theorem k_partners {x1 : Int} (h : zJ n T V) (hn : n < 1000) : zSame 0 88 200 [(0, x1)] n T V := by
  have hS := h.str
  have hP := h.pt2
  unfold zSame
  by_cases g1 : ¬ (-1 ≤ x1 ∧ x1 < 26)
  · have c1 : zcall 88 [(2, 0), (0, x1)] T V = some ((0, -1), T, V) := by
      rw [e88, b88_0, c86, if_neg g1]
      simp only [Option.bind_some, zpush0]
      rw [b88_4, if_pos rfl, b88_7]
    have c2 : zcall 200 [(2, 130), (0, x1)] T V = some ((0, -1), T, V) := by
      rw [e200, b200_0, c196, if_neg g1]
      simp only [Option.bind_some, zpush0]
      rw [b200_4, if_pos rfl, b200_7]
    rw [c1]
    refine zwp_ret ?_
    rw [c2]
    exact zwp_ret ⟨⟨_, rfl, rfl⟩, zJ_ok h hn⟩
  replace g1 := Classical.not_not.1 g1
  obtain ⟨a, ha⟩ : ∃ a : Int, (if x1 = -1 then 26 else x1) = a := ⟨_, rfl⟩
  have ra : 0 ≤ a ∧ a ≤ 26 := by rw [← ha]; split <;> omega
  obtain ⟨-, -, -, -, p4, -, -⟩ := hP
  have hw : ∀ b, 0 ≤ b → b ≤ 26 → (0 < V 66 (a * 27 + b) ↔ ∃ s : Int, (0 ≤ s ∧ s < 128) ∧ zsgn (V 132) 0 s = a ∧ zsgn (V 132) 1 s = b) := fun b b1 b2 => by
    have q4 := p4 (a * 27 + b) (by omega) (by omega)
    rw [show V (65 + 1) = V 66 from rfl] at q4
    rw [q4, zcnt_pos]
    constructor
    · rintro ⟨s, s1, -, s3⟩
      exact ⟨s, by omega, (zpr_x (by omega) (by omega)).1 s3⟩
    · rintro ⟨s, s1, s2⟩
      exact ⟨s, by omega, trivial, (zpr_x (by omega) (by omega)).2 s2⟩
  -- the class
  have c1 : zwp (zcall 88 [(2, 0), (0, x1)] T V) fun r T' V' => ∃ x, r = (0, x) ∧ T' = T ∧ V' = V ∧ (0 ≤ x ∧ x < 2 ^ 27) ∧ ∀ j : Nat, j < 27 → (zbt x j ↔ ∃ s : Int, (0 ≤ s ∧ s < 128) ∧ zsgn (V 132) 0 s = a ∧ zsgn (V 132) 1 s = (j : Int)) := by
    rw [e88, b88_0, c86, if_pos g1]
    simp only [Option.bind_some, zpush0]
    rw [b88_4, if_neg (by decide), b88_9]
    refine zup (α := Int) (fun i x => (0 ≤ x ∧ x < 2 ^ 27) ∧ ∀ j : Nat, j < 27 → (zbt x j ↔ (j : Int) < i ∧ ∃ s : Int, (0 ≤ s ∧ s < 128) ∧ zsgn (V 132) 0 s = a ∧ zsgn (V 132) 1 s = (j : Int))) (fun i x => zwp (ev 88 13 [(2, 0), (0, x1), (0, x), (0, i)] [] T V) fun r T' V' => ∃ x, r = (0, x) ∧ T' = T ∧ V' = V ∧ (0 ≤ x ∧ x < 2 ^ 27) ∧ ∀ j : Nat, j < 27 → (zbt x j ↔ ∃ s : Int, (0 ≤ s ∧ s < 128) ∧ zsgn (V 132) 0 s = a ∧ zsgn (V 132) 1 s = (j : Int))) (lo := 0) (hi := 27) (by decide) ?_ ?_ 0 ⟨by decide, fun j hj => ⟨fun q => absurd q zbt_z, fun q => by have := q.1; omega⟩⟩
    · intro x hx
      show zwp (ev 88 13 _ _ _ _) _
      rw [b88_13, if_pos (by decide), b88_50]
      exact zwp_ret ⟨x, rfl, rfl, rfl, hx.1, fun j hj => by rw [hx.2 j hj]; exact ⟨fun q => q.2, fun q => ⟨by omega, q⟩⟩⟩
    · intro i x i1 i2 hx next
      show zwp (ev 88 13 _ _ _ _) _
      rw [b88_13, if_neg (by omega), b88_19 hS, c87, ha]
      simp only [Option.bind_some, zpush0]
      rw [b88_30, c22 ra (by omega)]
      simp only [Option.bind_some, zpush0]
      rw [b88_34 hS (by omega)]
      by_cases z : V 66 (a * 27 + i) ≤ 0
      · rw [if_pos z, b88_44 (by omega)]
        refine next x ⟨hx.1, fun j hj => ?_⟩
        rw [hx.2 j hj]
        refine ⟨fun q => ⟨by omega, q.2⟩, fun q => ⟨?_, q.2⟩⟩
        have : (j : Int) ≠ i := fun e => by
          have := (hw i (by omega) (by omega)).2 (e ▸ q.2)
          omega
        omega
      · rw [if_neg z, b88_38 (by omega), b88_44 (by omega)]
        have hb := zp2_b (j := i) (by omega)
        refine next _ ⟨zor_n (k := 27) (by decide) hx.1.1 hx.1.2 hb.1 hb.2, fun j hj => ?_⟩
        rw [zor_bt (by omega), hx.2 j hj, zbt_p2]
        constructor
        · rintro (q | q)
          · exact ⟨by omega, q.2⟩
          · have e : (j : Int) = i := by omega
            rw [e]
            exact ⟨by omega, (hw i (by omega) (by omega)).1 (by omega)⟩
        · rintro ⟨q1, q2⟩
          by_cases e : (j : Int) = i
          · right; omega
          · left; exact ⟨by omega, q2⟩
  obtain ⟨r0, T0, V0, e0, x, rfl, rfl, rfl, hx1, hx2⟩ := zwp_to c1
  rw [e0]
  refine zwp_ret ?_
  rw [e200, b200_0, c196, if_pos g1]
  simp only [Option.bind_some, zpush0]
  rw [b200_4, if_neg (by decide), b200_9 hS]
  refine zwp_seq (c197 hS h.ok) ?_
  rintro r T1 W ⟨rfl, rfl, w1, w2⟩
  simp only [zpush9]
  rw [b200_13]
  refine zup (α := Int) (fun i y => (0 ≤ y ∧ y < 2 ^ 27) ∧ ∀ j : Nat, j < 27 → (zbt y j ↔ ∃ s : Int, (0 ≤ s ∧ s < i) ∧ zsgn (V0 132) 0 s = a ∧ zsgn (V0 132) 1 s = (j : Int))) (fun i y => zwp (ev 200 17 [(2, 130), (0, x1), (0, y), (0, i)] [] T1 W) fun r' T2 V2 => (∃ x_1, ((0, x) : zV) = (0, x_1) ∧ r' = (0, x_1)) ∧ zJ (n + 1) T2 V2) (lo := 0) (hi := 128) (by decide) ?_ ?_ 0 ⟨by decide, fun j hj => ⟨fun q => absurd q zbt_z, fun ⟨s, q, _⟩ => by omega⟩⟩
  · intro y hy
    show zwp (ev 200 17 _ _ _ _) _
    rw [b200_17, if_pos (by decide), b200_54]
    have e : x = y := zbt_ext 27 hx1.1 hx1.2 hy.1.1 hy.1.2 (fun j hj => by rw [hx2 j hj, hy.2 j hj])
    exact zwp_ret ⟨⟨_, rfl, by rw [e]⟩, zJ_md h hn (fun r => by
      by_cases u : r = 142
      · omega
      · by_cases u2 : r = 143
        · omega
        · exact Or.inr (Or.inr (Or.inr (Or.inr (w1 r u u2))))) (fun j _ => by rw [w1 130 (by decide) (by decide)])⟩
  · intro i y i1 i2 hy next
    show zwp (ev 200 17 _ _ _ _) _
    obtain ⟨v1, v2⟩ := w2 i i1 i2
    have k1 := zsgn_r (V0 132) 1 i
    rw [b200_17, if_neg (by omega), b200_24 hS ⟨i1, i2⟩, c198, ha, v1]
    simp only [Option.bind_some, zpush0]
    rw [b200_34]
    by_cases z : zsgn (V0 132) 0 i = a
    · rw [if_pos z, b200_37 hS ⟨i1, i2⟩ (by rw [v2]; omega), b200_48 (by omega), v2]
      have hb := zp2_b k1
      refine next _ ⟨zor_n (k := 27) (by decide) hy.1.1 hy.1.2 hb.1 hb.2, fun j hj => ?_⟩
      rw [zor_bt (by omega), hy.2 j hj, zbt_p2]
      constructor
      · rintro (⟨s, s1, s2⟩ | q)
        · exact ⟨s, by omega, s2⟩
        · exact ⟨i, by omega, z, by omega⟩
      · rintro ⟨s, s1, s2, s3⟩
        by_cases e : s = i
        · subst e; right; omega
        · left; exact ⟨s, by omega, s2, s3⟩
    · rw [if_neg z, b200_48 (by omega)]
      refine next y ⟨hy.1, fun j hj => ?_⟩
      rw [hy.2 j hj]
      constructor
      · rintro ⟨s, s1, s2⟩
        exact ⟨s, by omega, s2⟩
      · rintro ⟨s, s1, s2, s3⟩
        have : s ≠ i := fun e => z (e ▸ s2)
        exact ⟨s, by omega, s2, s3⟩
end PAIRS
