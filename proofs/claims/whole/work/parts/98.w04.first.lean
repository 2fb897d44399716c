/-! price, first -/
theorem zdg {X s y : Int} {r : Nat} (h : X % 128 ^ (r + 1) = s * 128 ^ r + y) (hs : 0 ≤ s ∧ s < 128) (hy : 0 ≤ y ∧ y < 128 ^ r) : X % 128 ^ r = y ∧ X / 128 ^ r % 128 = s := by
  have e := Int.emod_add_mul_ediv X (128 ^ (r + 1))
  rw [h, zpow_s] at e
  have hp := zpow_pos r
  have e2 : X = y + 128 ^ r * (s + 128 * (X / (128 ^ r * 128))) := by
    rw [Int.mul_add, Int.mul_comm (128 ^ r) s, ← Int.mul_assoc]
    omega
  obtain ⟨q, hq⟩ : ∃ q, X / (128 ^ r * 128) = q := ⟨_, rfl⟩
  rw [hq] at e2
  have e3 : y / 128 ^ r = 0 := Int.ediv_eq_zero_of_lt hy.1 hy.2
  constructor
  · rw [e2, Int.add_mul_emod_self_left]
    exact Int.emod_eq_of_lt hy.1 hy.2
  · rw [e2, Int.add_mul_ediv_left _ _ (Int.ne_of_gt hp), e3]
    omega
noncomputable def zX (K : Int → Int) (r : Nat) (e w : Int) : Int := zB K r e w - zL K r e w * 128 ^ 16
theorem zX_r {K : Int → Int} (hK : zcok K) {r : Nat} (hr : r ≤ 16) {e w : Int} (h : zL K r e w ≠ 1000000000) : 0 ≤ zX K r e w ∧ zX K r e w < 128 ^ r := by
  rcases zBL hK r hr e w with ⟨-, z⟩ | ⟨-, x, x1, x2⟩
  · exact absurd z h
  · have : zX K r e w = x := by unfold zX; omega
    rw [this]; exact x1
theorem zX_s {K : Int → Int} (hK : zcok K) {r : Nat} (hr : r ≤ 15) {e w : Int} (h : zL K (r + 1) e w ≠ 1000000000) : zX K (r + 1) e w = zfs K r e w * 128 ^ r + zX K r (zdel K 0 0 e (zsgn K 0 (zfs K r e w))) (zdel K 0 1 w (zsgn K 1 (zfs K r e w))) ∧ zL K r (zdel K 0 0 e (zsgn K 0 (zfs K r e w))) (zdel K 0 1 w (zsgn K 1 (zfs K r e w))) ≠ 1000000000 := by
  obtain ⟨f1, ⟨f2, f3, f4⟩, -⟩ := zfs_p h
  have b := zB_first hK r hr h
  refine ⟨?_, f3⟩
  unfold zX
  rw [b, ← f4, Int.add_mul]
  omega
theorem zX_0 {K : Int → Int} (hK : zcok K) {n : Nat} (hn : 1 ≤ n ∧ n ≤ 16) {V : zM} (h : zT1 V K n) (hp : 0 < V 115 n) : zL K n 0 0 ≠ 1000000000 ∧ V 116 n = zL K n 0 0 ∧ zwall n (V 117 n) (V 118 n) = zX K n 0 0 := by
  have hl : zL K n 0 0 ≠ 1000000000 := (zW_L hK n hn.2 0 0).1 (by
    have := h.1
    have z := zW_pos K 0 (fun _ _ => True) n 0 0
    omega)
  obtain ⟨g1, g2, g3, g4, g5⟩ := h.2 hp
  have x := zX_r hK hn.2 hl
  have p16 := zpow_le n hn.2
  have w : 0 ≤ zwall n (V 117 n) (V 118 n) ∧ zwall n (V 117 n) (V 118 n) < 128 ^ 16 := by
    unfold zwall
    by_cases c : (n : Int) ≤ 8
    · rw [if_pos c]; omega
    · rw [if_neg c, show ((n : Int) - 8).toNat = n - 8 by omega]
      have t := g5 (by omega)
      have p := zpow_pos (n - 8)
      have p8 := zpow_mono (r := n - 8) (s := 8) (by omega)
      have m1 : 0 ≤ V 117 n * 128 ^ (n - 8) := Int.mul_nonneg g2 (by omega)
      have m2 : V 117 n * 128 ^ (n - 8) ≤ (128 ^ 8 - 1) * 128 ^ 8 := Int.mul_le_mul (by omega) p8 (by omega) (by decide)
      omega
  have e : zB K n 0 0 = zL K n 0 0 * 128 ^ 16 + zX K n 0 0 := by unfold zX; omega
  refine ⟨hl, ?_, ?_⟩
  · omega
  · omega
theorem z128 (k : Nat) : (2 : Int) ^ (7 * k) = 128 ^ k := by rw [Int.pow_mul]; rfl
theorem zlnd127 {x : Int} (h : 0 ≤ x) (h2 : x < 2 ^ 62) : zlnd x 127 = x % 128 := by
  show (BitVec.ofInt 64 x &&& BitVec.ofInt 64 127).toInt = _
  have e1 : (BitVec.ofInt 64 x &&& BitVec.ofInt 64 127).toNat = x.toNat % 128 := by
    rw [BitVec.toNat_and, BitVec.toNat_ofInt, BitVec.toNat_ofInt]
    have a : (x % ((2 ^ 64 : Nat) : Int)).toNat = x.toNat := by
      have : ((2 ^ 64 : Nat) : Int) = 2 ^ 64 := by decide
      rw [this, Int.emod_eq_of_lt h (by omega)]
    have b : ((127 : Int) % ((2 ^ 64 : Nat) : Int)).toNat = 2 ^ 7 - 1 := by decide
    rw [a, b, Nat.and_two_pow_sub_one_eq_mod]
  rw [BitVec.toInt_eq_toNat_of_lt (by rw [e1]; omega), e1]
  omega
section FIRST
variable {n : Int} {T : zT} {V : zM}
theorem zJ_pr {V' : zM} (h : zJ n T V) (hn : n < 1000) (er : ∀ r, r ≠ 130 → ¬ (142 ≤ r ∧ r ≤ 147) → r ≠ 151 → r ≠ 152 → V' r = V r) (e130 : ∀ j, j ≠ 31 → j ≠ 2 → V' 130 j = V 130 j) (e2 : V' 130 2 = V 130 1) (hl : zLeft V' (zkc (V 132)) (V 132 427)) : zJ (n + 1) T V' := by
  have e : ∀ r, ¬ ((142 ≤ r ∧ r ≤ 152) ∨ r = 130) → V' r = V r := fun r g => er r (by omega) (by omega) (by omega) (by omega)
  have e132 := e 132 (by decide)
  obtain ⟨⟨s1, s2, s3⟩, ⟨s4, s5, s6, s7⟩, s8, s9, s10, s11, s12⟩ := h.sc
  refine ⟨h.str, zGeo_congr (fun r hr => e r (by omega)) h.geo, ?_, by rw [e132]; exact h.ok, ?_, ?_, ?_, ?_, ?_, ?_, ?_, zIm_congr (fun r hr => e r (by omega)) h.im, ?_⟩
  · rw [e132]
    exact zSR_congr (fun d g1 g2 => e _ (by omega)) h.sr
  · have ht := h.tape
    unfold zTape at ht ⊢
    rw [e 56 (by decide), e 57 (by decide), e 137 (by decide), e130 12 (by decide) (by decide)]
    exact ht
  · unfold zSc
    rw [e 0 (by decide), e 129 (by decide), e 131 (by decide), e130 13 (by decide) (by decide), e130 8 (by decide) (by decide), e130 0 (by decide) (by decide), e130 1 (by decide) (by decide), e2]
    exact ⟨⟨s1, s2, s3⟩, ⟨s4, s5, s6, s7⟩, by omega, s9, by omega, by omega, by omega⟩
  · have := h.rd
    unfold zRd at this ⊢
    rw [e132, e 60 (by decide), e 61 (by decide), e 62 (by decide), e 63 (by decide), e 64 (by decide)]
    exact this
  · rw [e132]
    exact zPT_congr (fun d g1 g2 => e _ (by omega)) h.pt
  · exact zPL_congr (fun d g1 g2 => e _ (by omega)) h.pl
  · intro z
    rw [e 0 (by decide)] at z
    have := h.tl z
    unfold zTell at this ⊢
    rw [e132, e 115 (by decide), e 116 (by decide), e 117 (by decide), e 118 (by decide)]
    exact this
  · intro _
    rw [e132]
    exact hl
  · have := h.wd
    unfold zWd at this ⊢
    rw [e 136 (by decide)]
    exact this
theorem c224 (h : zJ n T V) : zwp (zcall 224 [(2, 130)] T V) fun r T' V' => r = (0, if zL (zkc (V 132)) (V 132 427).toNat 0 0 = 1000000000 then -1 else zL (zkc (V 132)) (V 132 427).toNat 0 0) ∧ T' = T ∧ zPq V V' (zkc (V 132)) ∧ zLeft V' (zkc (V 132)) (V 132 427) := by
  have hS := h.str
  have hW := zKw_of h.ok
  have hn := h.ok.n
  have u0 := zuse_r (a := 0) hW (Or.inl rfl)
  have u1 := zuse_r (a := 0) hW (Or.inr rfl)
  obtain ⟨r, T1, V1, a1, a2, a3, a4, a5⟩ := c225 h
  subst a2
  rw [a3] at a1
  have l := a5 0 0 0 (by decide) (by omega) (by decide) (by omega) (by decide) (by omega)
  rw [show V 132 427 - 0 = V 132 427 by omega] at l
  rw [e224, b224_0 hS, a1]
  simp only [Option.bind_some, zpush9]
  rw [b224_4 hS, c227 hS (by decide) (by decide) (by decide), l]
  simp only [Option.bind_some, zpush0]
  rw [b224_11]
  by_cases c : zL (zkc (V 132)) (V 132 427).toNat 0 0 = 1000000000
  · rw [if_pos c, b224_17, b224_28]
    exact zwp_ret ⟨by rw [if_pos c], rfl, a4, a5⟩
  · rw [if_neg c, b224_21 hS, c227 hS (by decide) (by decide) (by decide), l]
    simp only [Option.bind_some, zpush0]
    rw [b224_28]
    exact zwp_ret ⟨by rw [if_neg c], rfl, a4, a5⟩
theorem zJ.cok (h : zJ n T V) : zcok (zkc (V 132)) := fun i i1 i2 => by rw [zkc_in (by omega)]; exact (h.ok.mir i1 i2).2
theorem k_price (h : zJ n T V) (hn : n < 1000) : zSame 0 119 224 [] n T V := by
  have hS := h.str
  obtain ⟨r1, T1, V1, a1, a2, a3, a4, -⟩ := c101 h
  subst a2
  have hS1 := a3.str
  have n1 := a3.ok.n
  have e1 := a3.sr.n
  have en : (((V1 132 427).toNat : Nat) : Int) = V1 132 427 := by omega
  have t := a3.tl a4 (V1 132 427).toNat (by omega) (by omega)
  have t1 := t.1
  have z0 := zW_pos (zkc (V1 132)) 0 (fun _ _ => True) (V1 132 427).toNat 0 0
  have zl := zW_L a3.cok (V1 132 427).toNat (by omega) 0 0
  have x0 := zX_0 (V := V1) a3.cok (n := (V1 132 427).toNat) (by omega) t
  rw [en] at t1 x0
  obtain ⟨r2, T2, V2, b1, b2, b3, b4, b5⟩ := c224 a3
  subst b2
  rw [b3] at b1
  have fin := zJ_pr a3 hn b4.1 b4.2.1 b4.2.2.1 b5
  unfold zSame
  rw [e119, b119_0 hS, a1]
  simp only [Option.bind_some, zpush9]
  rw [b119_4 hS1 (by omega), e1]
  by_cases c : V1 115 (V1 132 427) ≤ 0
  · rw [if_pos c, b119_42, b119_43]
    refine zwp_ret ?_
    rw [b1]
    refine zwp_ret ⟨⟨_, rfl, ?_⟩, fin⟩
    rw [if_pos (by
      by_cases q : zL (zkc (V1 132)) (V1 132 427).toNat 0 0 = 1000000000
      · exact q
      · have := zl.2 q; omega)]
  · obtain ⟨q1, q2, q3⟩ := x0 (by omega)
    rw [if_neg c, b119_24 hS1 (by omega), b119_43, e1]
    refine zwp_ret ?_
    rw [b1]
    refine zwp_ret ⟨⟨_, rfl, ?_⟩, fin⟩
    rw [if_neg q1, q2]
/-- what first and isCheapest look at -/
theorem c229 {V0 : zM} {K : Int → Int} {N c e w s : Int} (hS : zStr T) (hW : zKw K) (hk : zcok K) (hk2 : zcok (V 132)) (hc : zcst (V 132) = zcst K) (h : zPq V0 V K) (hl : zLeft V K N) (hN : 1 ≤ N ∧ N ≤ 16) (hcN : 0 ≤ c ∧ c < N) (he : 0 ≤ e ∧ e < zuse K 0 0) (hw : 0 ≤ w ∧ w < zuse K 0 1) (hs : 0 ≤ s ∧ s < 128) : ∃ y, zcall 229 [(2, 130), (0, c), (0, e), (0, w), (0, s)] T V = some ((0, y), T, V) ∧ ((y = 1 ∧ zch1 K (N - (c + 1)).toNat e w s) ∨ (y = 0 ∧ ¬ zch1 K (N - (c + 1)).toNat e w s)) := by
  have u0 := zuse_r (a := 0) hW (Or.inl rfl)
  have u1 := zuse_r (a := 0) hW (Or.inr rfl)
  obtain ⟨h1, h2, h3, h4, h5⟩ := h
  obtain ⟨s0, s1⟩ := h5 s hs.1 hs.2
  have g0 := zsgn_r K 0 s
  have g1 := zsgn_r K 1 s
  have d0 : V 145 ((224 * 0 + e) * 27 + zsgn K 0 s) = zdel K 0 0 e (zsgn K 0 s) := by
    rw [show (224 * 0 + e) * 27 + zsgn K 0 s = (0 + e) * 27 + zsgn K 0 s by omega]
    exact (h4.2.2.2.1 e he.1 (by omega)).2 _ g0.1 (by omega)
  have d1 : V 145 ((224 * 1 + w) * 27 + zsgn K 1 s) = zdel K 0 1 w (zsgn K 1 s) := by
    rw [show (224 * 1 + w) * 27 + zsgn K 1 s = (224 + w) * 27 + zsgn K 1 s by omega]
    exact (h4.2.2.2.2 w hw.1 (by omega)).2 _ g1.1 (by omega)
  have rr : (N - c).toNat = (N - (c + 1)).toNat + 1 := by omega
  have no : ∀ x5 x6, ¬ zch1 K (N - (c + 1)).toNat e w s → ∃ y, ev 229 91 [(2, 130), (0, c), (0, e), (0, w), (0, s), (0, x5), (0, x6)] [] T V = some ((0, y), T, V) ∧ ((y = 1 ∧ zch1 K (N - (c + 1)).toNat e w s) ∨ (y = 0 ∧ ¬ zch1 K (N - (c + 1)).toNat e w s)) := fun x5 x6 q => ⟨0, by rw [b229_91, b229_92 (by decide)], Or.inr ⟨rfl, q⟩⟩
  rw [e229, b229_0 hS hs, s0, c221 hS (Or.inl rfl) (by omega) (by omega), d0]
  simp only [Option.bind_some, zpush0]
  rw [b229_13 hS hs, s1, c221 hS (Or.inr rfl) (by omega) (by omega), d1]
  simp only [Option.bind_some, zpush0]
  rw [b229_28]
  by_cases c1 : zdel K 0 0 e (zsgn K 0 s) = -1
  · rw [if_pos c1]; exact no _ _ (fun z => z.1.1 c1)
  · rw [if_neg c1, b229_36]
    by_cases c2 : zdel K 0 1 w (zsgn K 1 s) = -1
    · rw [if_pos c2]; exact no _ _ (fun z => z.1.2 c2)
    · have e0 : 0 ≤ zdel K 0 0 e (zsgn K 0 s) ∧ zdel K 0 0 e (zsgn K 0 s) < zuse K 0 0 := by
        rcases zdel_r (a := 0) hW (Or.inl rfl) e (zsgn K 0 s) with q | q
        · exact absurd q c1
        · exact q
      have e1 : 0 ≤ zdel K 0 1 w (zsgn K 1 s) ∧ zdel K 0 1 w (zsgn K 1 s) < zuse K 0 1 := by
        rcases zdel_r (a := 0) hW (Or.inr rfl) w (zsgn K 1 s) with q | q
        · exact absurd q c2
        · exact q
      have l1 := hl (c + 1) _ _ (by omega) (by omega) e0.1 e0.2 e1.1 e1.2
      have l0 := hl c e w hcN.1 (by omega) he.1 he.2 hw.1 hw.2
      rw [rr] at l0
      have lr := zL_r hk (N - (c + 1)).toNat (by omega) (zdel K 0 0 e (zsgn K 0 s)) (zdel K 0 1 w (zsgn K 1 s))
      have cr := zcst_r hk s
      rw [if_neg c2, b229_42 hS (by omega), c227 hS (by omega) (by omega) (by omega), l1]
      simp only [Option.bind_some, zpush0]
      rw [b229_53]
      by_cases c3 : zL K (N - (c + 1)).toNat (zdel K 0 0 e (zsgn K 0 s)) (zdel K 0 1 w (zsgn K 1 s)) = 1000000000
      · rw [if_pos c3]; exact no _ _ (fun z => z.2.1 c3)
      · rw [if_neg c3, b229_59 hS, c199 hS hk2, hc]
        simp only [Option.bind_some, zpush0]
        rw [b229_65 hS (by omega), c227 hS (by omega) (by omega) (by omega), l1]
        simp only [Option.bind_some, zpush0]
        rw [b229_76 hS (by omega), c227 hS (by omega) (by omega) (by omega), l0]
        simp only [Option.bind_some, zpush0]
        rw [b229_84]
        by_cases c4 : zcst K s + zL K (N - (c + 1)).toNat (zdel K 0 0 e (zsgn K 0 s)) (zdel K 0 1 w (zsgn K 1 s)) = zL K ((N - (c + 1)).toNat + 1) e w
        · rw [if_pos c4, b229_87, b229_92 (by decide)]
          exact ⟨1, rfl, Or.inl ⟨rfl, ⟨c1, c2⟩, c3, c4⟩⟩
        · rw [if_neg c4]; exact no _ _ (fun z => c4 z.2.2)
end FIRST
