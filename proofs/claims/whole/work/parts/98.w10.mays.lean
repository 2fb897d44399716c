/-! the reference: mays; may, often -/
def zAm (K : Int → Int) (N cell k there : Int) : Int → Int → Prop := fun r s => zgn K (N - 1 - r) s ∧ (N - 1 - r = cell → (zbt s k.toNat ↔ there = 1))
section MAYS
variable {n : Int} {T : zT} {V : zM}
theorem c231 {cell k there : Int} (hS : zStr T) (hK : zKok (V 132)) (hk : 0 ≤ k ∧ k < 32) (ht : there = 0 ∨ there = 1) : zwp (zcall 231 [(2, 130), (0, cell), (0, k), (0, there)] T V) fun r T' V' => r = (1, min 1000000000000 (zW (zkc (V 132)) 1 (zAm (V 132) (V 132 427) cell k there) (V 132 427).toNat 0 0)) ∧ T' = T ∧ (∀ r, r ≠ 130 → ¬ (142 ≤ r ∧ r ≤ 150) → V' r = V r) ∧ ∀ j, j ≠ 31 → V' 130 j = V 130 j := by
  have hn := hK.n
  have hW := zKw_of hK
  obtain ⟨K, hKe⟩ : ∃ K, zkc (V 132) = K := ⟨_, rfl⟩
  obtain ⟨N, hN⟩ : ∃ N, V 132 427 = N := ⟨_, rfl⟩
  obtain ⟨A, hA⟩ : ∃ A, zAm (V 132) N cell k there = A := ⟨_, rfl⟩
  obtain ⟨r1, T1, V1, a1, a2, a3, a4, a5, a6, a7⟩ := c211 (V := V) (a := 1) hS hK (Or.inr rfl)
  subst a2
  rw [a3] at a1
  rw [hKe] at a6 a7 hW ⊢
  rw [hN] at hn ⊢
  rw [hA]
  obtain ⟨r3, T3, V3, c1, c2, c3, c4, c5, c6⟩ := c219w (V := V1) (V0 := V) (K := K) (a := 1) hS hW (fun r r1 r2 => a4 r r1 (by omega)) a5 a6
  subst c2
  rw [c3] at c1
  have s0 : ∀ s, 0 ≤ s → s < 128 → V3 142 s = zsgn K 0 s ∧ V3 143 s = zsgn K 1 s := fun s s1 s2 => by
    rw [c5 142 (by decide), c5 143 (by decide)]; exact a7 s s1 s2
  rw [e231, b231_0 hS, a1]
  simp only [Option.bind_some, zpush9]
  rw [b231_5 hS, c1]
  simp only [Option.bind_some, zpush9]
  rw [b231_9]
  refine zup (α := zM × zV × zV) (fun c s => zWm V s.1 K 1 ∧ (∀ x, 0 ≤ x → x < 128 → s.1 142 x = zsgn K 0 x ∧ s.1 143 x = zsgn K 1 x) ∧ zN2 s.1 148 K 1 A (zuse K 1 0) (zuse K 1 1) (N - c).toNat = min 1000000000000 (zW K 1 A N.toNat 0 0)) (fun c s => zwp (ev 231 12 [(2, 130), (0, cell), (0, k), (0, there), (0, c), s.2.1, s.2.2] [] T s.1) fun r T' V' => r = (1, min 1000000000000 (zW K 1 A N.toNat 0 0)) ∧ T' = T ∧ (∀ r, r ≠ 130 → ¬ (142 ≤ r ∧ r ≤ 150) → V' r = V r) ∧ ∀ j, j ≠ 31 → V' 130 j = V 130 j) (lo := 0) (hi := N) (by omega) ?_ ?_ (V3, (9, 0), (9, 0)) ⟨c4, s0, by rw [Int.sub_zero]; exact c6 A N.toNat⟩
  · rintro ⟨V4, v5, v6⟩ ⟨h1, h2, h3⟩
    show zwp (ev 231 12 [(2, 130), (0, cell), (0, k), (0, there), (0, N), v5, v6] [] T V4) _
    replace h1 : zWm V V4 K 1 := h1
    replace h3 : zN2 V4 148 K 1 A (zuse K 1 0) (zuse K 1 1) (N - N).toNat = min 1000000000000 (zW K 1 A N.toNat 0 0) := h3
    have e : V4 132 = V 132 := h1.1 132 (by decide) (by decide)
    rw [show (N - N).toNat = 0 by omega] at h3
    rw [b231_12 hS, e, hN, if_pos (by omega), b231_171 hS, c222w A hS hW h1, h3]
    simp only [Option.bind_some, zpush1]
    rw [b231_175]
    exact zwp_ret ⟨rfl, rfl, h1.1, h1.2.1⟩
  · rintro c ⟨V4, v5, v6⟩ g1 g2 ⟨h1, h2, h3⟩ next
    show zwp (ev 231 12 [(2, 130), (0, cell), (0, k), (0, there), (0, c), v5, v6] [] T V4) _
    replace h1 : zWm V V4 K 1 := h1
    replace h2 : ∀ x, 0 ≤ x → x < 128 → V4 142 x = zsgn K 0 x ∧ V4 143 x = zsgn K 1 x := h2
    replace h3 : zN2 V4 148 K 1 A (zuse K 1 0) (zuse K 1 1) (N - c).toNat = min 1000000000000 (zW K 1 A N.toNat 0 0) := h3
    have e : V4 132 = V 132 := h1.1 132 (by decide) (by decide)
    obtain ⟨r, er⟩ : ∃ r, (N - (c + 1)).toNat = r := ⟨_, rfl⟩
    have rr : (N - c).toNat = r + 1 := by omega
    have ri : N - 1 - (r : Int) = c := by omega
    rw [b231_12 hS, e, hN, if_neg (by omega), b231_25]
    refine zup (α := zM) (fun x V' => (∀ r, r ≠ 150 → V' r = V4 r) ∧ ∀ p, 0 ≤ p → p < x → V' 150 p = 0) (fun x V' => zwp (ev 231 28 [(2, 130), (0, cell), (0, k), (0, there), (0, c), (0, x), v6] [] T V') fun r T' V' => r = (1, min 1000000000000 (zW K 1 A N.toNat 0 0)) ∧ T' = T ∧ (∀ r, r ≠ 130 → ¬ (142 ≤ r ∧ r ≤ 150) → V' r = V r) ∧ ∀ j, j ≠ 31 → V' 130 j = V 130 j) (lo := 0) (hi := 729) (by decide) ?_ ?_ V4 ⟨fun _ _ => rfl, fun p p1 p2 => by omega⟩
    · rintro V5 ⟨x1, x2⟩
      rw [b231_28, if_pos (by decide), b231_50 hS (by omega) (by omega), x1 132 (by decide), e]
      refine zup (α := zM) (fun x V' => (∀ r, r ≠ 150 → V' r = V4 r) ∧ ∀ p, 0 ≤ p → p < 729 → V' 150 p = zcnt (fun s => A (r : Int) s ∧ zpr K s = p) x.toNat) (fun x V' => zwp (ev 231 66 [(2, 130), (0, cell), (0, k), (0, there), (0, c), (0, V 132 (316 + c)), (0, x)] [] T V') fun r T' V' => r = (1, min 1000000000000 (zW K 1 A N.toNat 0 0)) ∧ T' = T ∧ (∀ r, r ≠ 130 → ¬ (142 ≤ r ∧ r ≤ 150) → V' r = V r) ∧ ∀ j, j ≠ 31 → V' 130 j = V 130 j) (lo := 0) (hi := 128) (by decide) ?_ ?_ V5 ⟨x1, fun p p1 p2 => by rw [x2 p p1 p2]; rfl⟩
      · rintro V6 ⟨y1, y2⟩
        have wm : zWm V V6 K 1 := ⟨fun r r1 r2 => by rw [y1 r (by omega), h1.1 r r1 r2], fun j hj => by rw [y1 130 (by decide), h1.2.1 j hj], zSto_congr h1.2.2.1 (by rw [y1 130 (by decide)]) (y1 _ (by decide)) (y1 _ (by decide)) (y1 _ (by decide)), fun e w e1 e2 w1 w2 => by rw [y1 148 (by decide)]; exact h1.2.2.2 e w e1 e2 w1 w2⟩
        obtain ⟨r9, T9, V9, d1, d2, d3, d4, d5, d6⟩ := c220w (A := A) hS hW wm (fun p p1 p2 => by rw [y2 p p1 p2]; exact zcnt_r _ 128)
        subst d2
        rw [d3] at d1
        rw [b231_66, if_pos (by decide), b231_161 hS, d1]
        simp only [Option.bind_some, zpush9]
        rw [b231_165 (by omega)]
        refine next (V9, _, _) ⟨d4, fun x x1 x2 => ?_, ?_⟩
        · show V9 142 x = _ ∧ V9 143 x = _
          rw [d5 142 (by decide) (by decide), d5 143 (by decide) (by decide), y1 142 (by decide), y1 143 (by decide)]
          exact h2 x x1 x2
        · show zN2 V9 148 K 1 A (zuse K 1 0) (zuse K 1 1) (N - (c + 1)).toNat = _
          rw [er, d6 r y2, ← rr, ← h3]
          unfold zN2
          refine zfo_congr fun e e1 e2 => ?_
          unfold zNi
          rw [y1 148 (by decide)]
      · rintro x V6 x1 x2 ⟨y1, y2⟩ next2
        have e6 : V6 132 = V 132 := by rw [y1 132 (by decide), e]
        obtain ⟨s0, s1⟩ := h2 x x1 x2
        rw [← y1 142 (by decide)] at s0
        rw [← y1 143 (by decide)] at s1
        have r0 := zsgn_r K 0 x
        have r1 := zsgn_r K 1 x
        have ep : 27 * zsgn K 0 x + zsgn K 1 x = zpr K x := by unfold zpr; omega
        have rp : 0 ≤ zpr K x ∧ zpr K x < 729 := by omega
        have c0 := zcnt_r (fun s => A (r : Int) s ∧ zpr K s = zpr K x) x.toNat
        have skip : ¬ A (r : Int) x → zwp (ev 231 155 [(2, 130), (0, cell), (0, k), (0, there), (0, c), (0, V 132 (316 + c)), (0, x)] [] T V6) fun r T' V' => r = (1, min 1000000000000 (zW K 1 A N.toNat 0 0)) ∧ T' = T ∧ (∀ r, r ≠ 130 → ¬ (142 ≤ r ∧ r ≤ 150) → V' r = V r) ∧ ∀ j, j ≠ 31 → V' 130 j = V 130 j := fun no => by
          rw [b231_155 (by omega)]
          refine next2 V6 ⟨y1, fun p p1 p2 => ?_⟩
          rw [zcnt_s x1, zif_f (fun z => no z.1), Int.add_zero]
          exact y2 p p1 p2
        have take : A (r : Int) x → zwp (ev 231 128 [(2, 130), (0, cell), (0, k), (0, there), (0, c), (0, V 132 (316 + c)), (0, x)] [] T V6) fun r T' V' => r = (1, min 1000000000000 (zW K 1 A N.toNat 0 0)) ∧ T' = T ∧ (∀ r, r ≠ 130 → ¬ (142 ≤ r ∧ r ≤ 150) → V' r = V r) ∧ ∀ j, j ≠ 31 → V' 130 j = V 130 j := fun yes => by
          rw [b231_128 hS (by omega) (by rw [s0]; omega) (by rw [s0, s1]; omega) (by rw [s0, s1]; omega) (by rw [s0, s1, ep, y2 _ rp.1 rp.2]; omega), b231_155 (by omega), s0, s1, ep]
          refine next2 _ ⟨fun r hr => by rw [zwr_ne hr, y1 r hr], fun p p1 p2 => ?_⟩
          rw [zwr_same, zcnt_s x1]
          by_cases cp : p = zpr K x
          · rw [if_pos cp, cp, y2 _ rp.1 rp.2, zif_t ⟨yes, rfl⟩]
          · rw [if_neg cp, y2 p p1 p2, zif_f (fun z => cp z.2.symm), Int.add_zero]
        have hAx : A (r : Int) x ↔ (zand x (zxor (V 132 (316 + c)) (-1)) = zand (V 132 (300 + c)) (zxor (V 132 (316 + c)) (-1)) ∧ (c = cell → (zbt x k.toNat ↔ there = 1))) := by
          rw [← hA]
          unfold zAm zgn
          rw [ri]
        rw [b231_66, if_neg (by omega), b231_74 hS (by omega) (by omega), e6]
        by_cases q1 : zand x (zxor (V 132 (316 + c)) (-1)) = zand (V 132 (300 + c)) (zxor (V 132 (316 + c)) (-1))
        · rw [if_pos q1, b231_100]
          by_cases q2 : c = cell
          · rw [if_pos q2, b231_106 hk, zand_1]
            by_cases q3 : zbt x k.toNat
            · rw [if_pos (show x / 2 ^ k.toNat % 2 = 1 from q3), b231_116, b231_121]
              rcases ht with rfl | rfl
              · rw [if_neg (by decide), b231_125]
                exact skip (fun z => absurd (((hAx.1 z).2 q2).1 q3) (by decide))
              · rw [if_pos rfl]
                exact take (hAx.2 ⟨q1, fun _ => ⟨fun _ => rfl, fun _ => q3⟩⟩)
            · rw [if_neg (show ¬ x / 2 ^ k.toNat % 2 = 1 from q3), b231_120, b231_121]
              rcases ht with rfl | rfl
              · rw [if_pos rfl]
                exact take (hAx.2 ⟨q1, fun _ => ⟨fun z => absurd z q3, fun z => absurd z (by decide)⟩⟩)
              · rw [if_neg (by decide), b231_125]
                exact skip (fun z => absurd (((hAx.1 z).2 q2).2 rfl) q3)
          · rw [if_neg q2]
            exact take (hAx.2 ⟨q1, fun z => absurd z q2⟩)
        · rw [if_neg q1]
          exact skip (fun z => q1 (hAx.1 z).1)
    · rintro x V5 x1 x2 ⟨y1, y2⟩ next2
      rw [b231_28, if_neg (by omega), b231_36 hS (by omega) (by omega)]
      refine next2 _ ⟨fun r hr => by rw [zwr_ne hr, y1 r hr], fun p p1 p2 => ?_⟩
      rw [zwr_same]
      by_cases cp : p = x
      · rw [if_pos cp]
      · rw [if_neg cp]; exact y2 p p1 (by omega)
theorem zJ_mw {V' : zM} (h : zJ n T V) (hn : n < 1000) (b4 : ∀ r, r ≠ 130 → ¬ (142 ≤ r ∧ r ≤ 150) → V' r = V r) (b5 : ∀ j, j ≠ 31 → V' 130 j = V 130 j) : zJ (n + 1) T V' := by
  refine zJ_md h hn (fun r => ?_) (fun j hj => b5 j (by omega))
  by_cases c : r = 130
  · exact Or.inr (Or.inr (Or.inr (Or.inl c)))
  · by_cases c2 : 142 ≤ r ∧ r ≤ 150
    · exact Or.inl (by omega)
    · exact Or.inr (Or.inr (Or.inr (Or.inr (b4 r c c2))))
theorem c230 (hS : zStr T) (hK : zKok (V 132)) : zwp (zcall 230 [(2, 130)] T V) fun r T' V' => r = (1, min 1000000000000 (zW (zkc (V 132)) 1 (zAm (V 132) (V 132 427) (-1) 0 0) (V 132 427).toNat 0 0)) ∧ T' = T ∧ (∀ r, r ≠ 130 → ¬ (142 ≤ r ∧ r ≤ 150) → V' r = V r) ∧ ∀ j, j ≠ 31 → V' 130 j = V 130 j := by
  obtain ⟨r, T1, V1, a1, a2, a3, a4⟩ := c231 (V := V) (cell := -1) (k := 0) (there := 0) hS hK (by decide) (Or.inl rfl)
  subst a2
  rw [a3] at a1
  rw [e230, b230_0 hS, a1]
  simp only [Option.bind_some, zpush1]
  rw [b230_7]
  exact zwp_ret ⟨rfl, rfl, a4⟩
/-- no cell is asked for -/
theorem zAl_n {K K' : Int → Int} {N st k t : Int} (hN : 0 ≤ N) : zW K' 1 (zAl K N (-1) st) N.toNat 0 0 = zW K' 1 (zAm K N (-1) k t) N.toNat 0 0 := zW_congr (fun c s c1 c2 _ _ => ⟨fun z => ⟨z.1, fun y => by omega⟩, fun z => ⟨z.1, fun y => by omega⟩⟩) 0 0
theorem k_may (h : zJ n T V) (hn : n < 1000) : zSame 1 124 230 [] n T V := by
  have hS := h.str
  have hN := h.ok.n
  obtain ⟨r1, T1, V1, a1, a2, a3, a4, a5, -⟩ := c125 (cell := -1) (st := 0) h
  subst a2
  have hS1 := a3.str
  obtain ⟨r2, T2, V2, b1, b2, b3, b4, b5⟩ := c230 hS1 a3.ok
  subst b2
  rw [b3] at b1
  unfold zSame
  rw [e124, b124_0 hS, a1]
  simp only [Option.bind_some, zpush9]
  rw [b124_6 hS1]
  refine zwp_ret ?_
  rw [b1]
  refine zwp_ret ⟨⟨_, rfl, ?_⟩, zJ_mw a3 hn b4 b5⟩
  rw [a5, a4, zAl_n (k := 0) (t := 0) (by omega)]
theorem zand_p2 {s : Int} {k : Nat} (hk : k < 31) : zand s (2 ^ k) = 2 ^ k ↔ zbt s k := by
  have p := zp2 k
  have q : (2 : Int) ^ k < 2 ^ 31 := by
    have := Nat.pow_lt_pow_right (a := 2) (by decide) hk
    exact_mod_cast this
  rw [zand_ey (k := 31) (by decide) (by omega) q]
  constructor
  · intro z
    exact z k (by omega) (zbt_p2.2 rfl)
  · intro z j _ hj
    rw [← zbt_p2.1 hj]
    exact z
theorem k_often {x1 x2 : Int} (h : zJ n T V) (hn : n < 1000) : zSame 1 130 232 [(0, x1), (0, x2)] n T V := by
  have hS := h.str
  have hN := h.ok.n
  have e1 := h.sr.n
  have c150 : ∀ T V, zcall 150 [(0, x2), (0, 1), (0, 7)] T V = some ((0, if 1 ≤ x2 ∧ x2 ≤ 7 then 1 else 0), T, V) := fun T V => c150
  unfold zSame
  rw [e130, b130_0 hS, c28 (st1 hS), e1]
  simp only [Option.bind_some, zpush0]
  rw [b130_8]
  by_cases c : 0 ≤ x1 ∧ x1 < V 132 427
  · rw [if_pos c, if_neg (by decide), b130_11]
    by_cases c2 : 1 ≤ x2 ∧ x2 ≤ 7
    · obtain ⟨r1, T1, V1, a1, a2, a3, a4, a5, -⟩ := c125 (cell := x1) (st := (2 : Int) ^ (x2 - 1).toNat) h
      subst a2
      have hS1 := a3.str
      obtain ⟨r2, T2, V2, b1, b2, b3, b4, b5⟩ := c231 (V := V1) (cell := x1) (k := x2 - 1) (there := 1) hS1 a3.ok (by omega) (Or.inr rfl)
      subst b2
      rw [b3] at b1
      rw [if_neg (by omega), b130_16, if_pos (by omega), b130_26 hS (by omega) (by omega), a1]
      simp only [Option.bind_some, zpush9]
      rw [b130_36 hS1]
      refine zwp_ret ?_
      rw [e232, b232_0 hS1, c157 hS1 (by rw [a4]; omega), a4, if_pos c]
      simp only [Option.bind_some, zpush0]
      rw [b232_5, if_neg (by decide), b232_8, c150, if_pos c2]
      simp only [Option.bind_some, zpush0]
      rw [b232_15, if_neg (by decide), b232_18 hS1 (by omega), b1]
      simp only [Option.bind_some, zpush1]
      rw [b232_27, b232_33]
      refine zwp_ret ⟨⟨_, rfl, ?_⟩, zJ_mw a3 hn b4 b5⟩
      rw [a5, a4, zW_congr (A := zAl (V 132) (V 132 427) x1 (2 ^ (x2 - 1).toNat)) (B := zAm (V 132) (V 132 427) x1 (x2 - 1) 1) (fun c s c1 c2 s1 s2 => ⟨fun z => ⟨z.1, fun y => ?_⟩, fun z => ⟨z.1, fun y => ?_⟩⟩)]
      · exact ⟨fun _ => rfl, fun _ => (zand_p2 (by omega)).1 (z.2 y)⟩
      · exact (zand_p2 (by omega)).2 ((z.2 y).2 rfl)
    · have fin : zwp (some (((1, -1), T, V) : zV × zH)) fun r T1 V1 => zwp (zcall 232 [(2, 130), (0, x1), (0, x2)] T1 V1) fun r' T2 V2 => (∃ x, r = (1, x) ∧ r' = (1, x)) ∧ zJ (n + 1) T2 V2 := by
        refine zwp_ret ?_
        rw [e232, b232_0 hS, c157 hS (by omega), if_pos c]
        simp only [Option.bind_some, zpush0]
        rw [b232_5, if_neg (by decide), b232_8, c150, if_neg c2]
        simp only [Option.bind_some, zpush0]
        rw [b232_15, if_pos rfl, b232_30, b232_33]
        exact zwp_ret ⟨⟨_, rfl, rfl⟩, zJ_ok h hn⟩
      by_cases c3 : x2 < 1
      · rw [if_pos c3, b130_22]; exact fin
      · rw [if_neg c3, b130_16, if_neg (by omega), b130_22]; exact fin
  · rw [if_neg c, if_pos rfl, b130_22]
    refine zwp_ret ?_
    rw [e232, b232_0 hS, c157 hS (by omega), if_neg c]
    simp only [Option.bind_some, zpush0]
    rw [b232_5, if_pos rfl, b232_30, b232_33]
    exact zwp_ret ⟨⟨_, rfl, rfl⟩, zJ_ok h hn⟩
end MAYS
