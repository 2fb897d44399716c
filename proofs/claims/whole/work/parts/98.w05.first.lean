/-! first: the walk of the reference; the cell that the class keeps -/
theorem zedv {h t : Int} {a b : Nat} (ht : 0 ≤ t ∧ t < 128 ^ a) : (h * 128 ^ a + t) / 128 ^ (a + b) = h / 128 ^ b := by
  have pa := zpow_pos a
  rw [Int.pow_add, ← Int.ediv_ediv_of_nonneg (by omega), Int.add_comm, Int.mul_comm, Int.add_mul_ediv_left _ _ (Int.ne_of_gt pa), Int.ediv_eq_zero_of_lt ht.1 ht.2, Int.zero_add]
theorem zedw {h t : Int} {k d : Nat} : (h * 128 ^ (k + (d + 1)) + t) / 128 ^ k % 128 = t / 128 ^ k % 128 := by
  have pk := zpow_pos k
  have e : h * 128 ^ (k + (d + 1)) + t = t + 128 ^ k * (h * 128 ^ d * 128) := by
    rw [Int.pow_add, zpow_s, Int.add_comm]
    congr 1
    rw [Int.mul_comm h, Int.mul_assoc, Int.mul_comm _ h, ← Int.mul_assoc h]
  rw [e, Int.add_mul_ediv_left _ _ (Int.ne_of_gt pk), Int.mul_comm _ 128, Int.add_mul_emod_self_left]
section FIRST2
variable {n : Int} {T : zT} {V : zM}
theorem c121 {N i : Int} (hS : zStr T) (hN : 1 ≤ N ∧ N ≤ 16) (hi : 0 ≤ i ∧ i < N) (h0 : 0 ≤ V 117 N ∧ V 117 N < 128 ^ 8) (h1 : 0 ≤ V 118 N) (h2 : 8 < N → V 118 N < 128 ^ (N - 8).toNat) : zcall 121 [(2, 112), (0, N), (0, i), (0, N)] T V = some ((0, zwall N (V 117 N) (V 118 N) / 128 ^ (N - 1 - i).toNat % 128), T, V) := by
  have st : zLayer T 112 17 := st112 hS
  have big : (128 : Int) ^ 8 < 2 ^ 62 := by decide
  have dv : ∀ x : Int, ∀ k : Nat, 0 ≤ x → x < 128 ^ 8 → (0 ≤ x / 128 ^ k ∧ x / 128 ^ k < 2 ^ 62) := fun x k x1 x2 => by
    have p := zpow_pos k
    have a : 0 ≤ x / 128 ^ k := Int.ediv_nonneg x1 (by omega)
    have b : x / 128 ^ k ≤ x := Int.ediv_le_self _ x1
    omega
  rw [e121, b121_0]
  by_cases c : 8 ≤ i
  · have t8 : V 118 N < 128 ^ 8 := Int.lt_of_lt_of_le (h2 (by omega)) (zpow_mono (by omega))
    have e7 : (2 : Int) ^ (7 * (N - 1 - i)).toNat = 128 ^ (N - 1 - i).toNat := by
      rw [← z128, show (7 * (N - 1 - i)).toNat = 7 * (N - 1 - i).toNat by omega]
    have d := dv (V 118 N) (N - 1 - i).toNat h1 t8
    have zl : zlnd (V (zp T 112 6) N / 2 ^ (7 * (N - 1 - i)).toNat) 127 = V 118 N / 128 ^ (N - 1 - i).toNat % 128 := by rw [sp112_6 hS, e7, zlnd127 d.1 d.2]
    rw [if_pos c, b121_36 st (by omega) (by omega) (by omega) (by omega) (by omega) (by rw [zl]; omega), zl]
    have w : zwall N (V 117 N) (V 118 N) = V 117 N * 128 ^ ((N - 1 - i).toNat + ((i - 8).toNat + 1)) + V 118 N := by
      unfold zwall
      rw [if_neg (by omega), show (N - 8).toNat = (N - 1 - i).toNat + ((i - 8).toNat + 1) by omega]
    rw [w, zedw]
  · have hm : ∃ M : Nat, (min N 8 - 1 - i) = M ∧ zwall N (V 117 N) (V 118 N) / 128 ^ (N - 1 - i).toNat = V 117 N / 128 ^ M := by
      refine ⟨(min N 8 - 1 - i).toNat, by omega, ?_⟩
      unfold zwall
      by_cases c8 : N ≤ 8
      · rw [if_pos c8, show (min N 8 - 1 - i).toNat = (N - 1 - i).toNat by omega]
      · rw [if_neg c8, show (N - 1 - i).toNat = (N - 8).toNat + (min N 8 - 1 - i).toNat by omega, zedv ⟨h1, h2 (by omega)⟩]
    obtain ⟨M, m1, m2⟩ := hm
    have e7 : (2 : Int) ^ (7 * (min N 8 - 1 - i)).toNat = 128 ^ M := by
      rw [← z128, show (7 * (min N 8 - 1 - i)).toNat = 7 * M by omega]
    have d := dv (V 117 N) M h0.1 h0.2
    have zl : zlnd (V (zp T 112 5) N / 2 ^ (7 * (min N 8 - 1 - i)).toNat) 127 = V 117 N / 128 ^ M % 128 := by rw [sp112_5 hS, e7, zlnd127 d.1 d.2]
    rw [if_neg c, b121_10 st (by omega) (by omega) (by omega) (by omega) (by omega) (by rw [zl]; omega), zl, m2]
theorem c228 {V0 : zM} {K : Int → Int} {N i : Int} (hS : zStr T) (hW : zKw K) (hk : zcok K) (hk2 : zcok (V 132)) (hc : zcst (V 132) = zcst K) (h : zPq V0 V K) (hl : zLeft V K N) (hN : 1 ≤ N ∧ N ≤ 16) (hi : 0 ≤ i ∧ i < N) (hL : zL K N.toNat 0 0 ≠ 1000000000) : ev 228 28 [(2, 130), (0, i), (0, 0), (0, 0), (0, 0), (0, 0)] [] T V = some ((0, zX K N.toNat 0 0 / 128 ^ (N - 1 - i).toNat % 128), T, V) := by
  have u0 := zuse_r (a := 0) hW (Or.inl rfl)
  have u1 := zuse_r (a := 0) hW (Or.inr rfl)
  have xr := zX_r hk (r := N.toNat) (by omega) hL
  obtain ⟨h1, h2, h3, h4, h5⟩ := id h
  refine zup (α := Int × Int × Int) (fun c s => ((0 ≤ s.1 ∧ s.1 < zuse K 0 0) ∧ 0 ≤ s.2.1 ∧ s.2.1 < zuse K 0 1) ∧ (zL K (N - c).toNat s.1 s.2.1 ≠ 1000000000 ∧ zX K N.toNat 0 0 % 128 ^ (N - c).toNat = zX K (N - c).toNat s.1 s.2.1) ∧ (0 < c → s.2.2 = zX K N.toNat 0 0 / 128 ^ (N - c).toNat % 128)) (fun c s => ev 228 28 [(2, 130), (0, i), (0, s.1), (0, s.2.1), (0, s.2.2), (0, c)] [] T V = some ((0, zX K N.toNat 0 0 / 128 ^ (N - 1 - i).toNat % 128), T, V)) (lo := 0) (hi := i + 1) (by omega) ?_ ?_ (0, 0, 0) ⟨⟨by show (0 : Int) ≤ 0 ∧ (0 : Int) < _; omega, by show (0 : Int) ≤ 0 ∧ (0 : Int) < _; omega⟩, ⟨by rw [Int.sub_zero]; exact hL, by rw [Int.sub_zero]; exact Int.emod_eq_of_lt xr.1 xr.2⟩, fun z => by omega⟩
  · rintro ⟨e, w, s⟩ ⟨-, -, q⟩
    show ev 228 28 [(2, 130), (0, i), (0, e), (0, w), (0, s), (0, i + 1)] [] T V = _
    have q2 : s = zX K N.toNat 0 0 / 128 ^ (N - (i + 1)).toNat % 128 := q (by omega)
    rw [b228_28, if_pos (by omega), b228_90, q2, show (N - (i + 1)).toNat = (N - 1 - i).toNat by omega]
  · rintro c ⟨e, w, s⟩ c1 c2 ⟨⟨pe, pw⟩, ⟨q1, q2⟩, -⟩ next
    show ev 228 28 [(2, 130), (0, i), (0, e), (0, w), (0, s), (0, c)] [] T V = _
    replace pe : 0 ≤ e ∧ e < zuse K 0 0 := pe
    replace pw : 0 ≤ w ∧ w < zuse K 0 1 := pw
    replace q1 : zL K (N - c).toNat e w ≠ 1000000000 := q1
    replace q2 : zX K N.toNat 0 0 % 128 ^ (N - c).toNat = zX K (N - c).toNat e w := q2
    have rr : (N - c).toNat = (N - (c + 1)).toNat + 1 := by omega
    rw [rr] at q1 q2
    obtain ⟨f1, f2, f3⟩ := zfs_p q1
    obtain ⟨x1, x2⟩ := zX_s hk (by omega) q1
    have xq := zX_r hk (by omega) x2
    rw [x1] at q2
    obtain ⟨y1, y2⟩ := zdg q2 f1 xq
    obtain ⟨S, hSs⟩ : ∃ S, zfs K (N - (c + 1)).toNat e w = S := ⟨_, rfl⟩
    rw [hSs] at f1 f2 f3 x1 x2 xq y1 y2
    rw [b228_28, if_neg (by omega), b228_34]
    refine zup (α := Unit) (fun _ _ => True) (fun x _ => ev 228 37 [(2, 130), (0, i), (0, e), (0, w), (0, x), (0, c)] [] T V = some ((0, zX K N.toNat 0 0 / 128 ^ (N - 1 - i).toNat % 128), T, V)) (lo := 0) (hi := S) f1.1 ?_ ?_ () trivial
    · intro _ _
      obtain ⟨y, g1, g2⟩ := c229 (c := c) (s := S) hS hW hk hk2 hc h hl hN (by omega) pe pw f1
      have g0 := zsgn_r K 0 S
      have g3 := zsgn_r K 1 S
      obtain ⟨s0, s1⟩ := h5 S f1.1 f1.2
      have d0 : V 145 ((224 * 0 + e) * 27 + zsgn K 0 S) = zdel K 0 0 e (zsgn K 0 S) := by
        rw [show (224 * 0 + e) * 27 + zsgn K 0 S = (0 + e) * 27 + zsgn K 0 S by omega]
        exact (h4.2.2.2.1 e pe.1 (by omega)).2 _ g0.1 (by omega)
      have d1 : V 145 ((224 * 1 + w) * 27 + zsgn K 1 S) = zdel K 0 1 w (zsgn K 1 S) := by
        rw [show (224 * 1 + w) * 27 + zsgn K 1 S = (224 + w) * 27 + zsgn K 1 S by omega]
        exact (h4.2.2.2.2 w pw.1 (by omega)).2 _ g3.1 (by omega)
      have y1' : y = 1 := by
        rcases g2 with g2 | g2
        · exact g2.1
        · exact absurd f2 g2.2
      have e0 : 0 ≤ zdel K 0 0 e (zsgn K 0 S) ∧ zdel K 0 0 e (zsgn K 0 S) < zuse K 0 0 := by
        rcases zdel_r (a := 0) hW (Or.inl rfl) e (zsgn K 0 S) with q | q
        · exact absurd q f2.1.1
        · exact q
      have e1 : 0 ≤ zdel K 0 1 w (zsgn K 1 S) ∧ zdel K 0 1 w (zsgn K 1 S) < zuse K 0 1 := by
        rcases zdel_r (a := 0) hW (Or.inr rfl) w (zsgn K 1 S) with q | q
        · exact absurd q f2.1.2
        · exact q
      rw [b228_37 hS, g1]
      simp only [Option.bind_some, zpush0]
      rw [b228_47, if_neg (by omega), b228_56 hS f1, s0, c221 hS (Or.inl rfl) (by omega) (by omega), d0]
      simp only [Option.bind_some, zpush0]
      rw [b228_69 hS f1, s1, c221 hS (Or.inr rfl) (by omega) (by omega), d1]
      simp only [Option.bind_some, zpush0]
      rw [b228_83 (by omega)]
      exact next (_, _, S) ⟨⟨e0, e1⟩, ⟨x2, y1⟩, fun _ => y2.symm⟩
    · intro x _ g1 g2 _ next2
      obtain ⟨y, k1, k2⟩ := c229 (c := c) (s := x) hS hW hk hk2 hc h hl hN (by omega) pe pw (by omega)
      have y0 : y = 0 := by
        rcases k2 with k2 | k2
        · exact absurd k2.2 (f3 x g1 g2)
        · exact k2.1
      rw [b228_37 hS, k1]
      simp only [Option.bind_some, zpush0]
      rw [b228_47, if_pos y0, b228_50 (by omega)]
      exact next2 () trivial
theorem k_first {x1 : Int} (h : zJ n T V) (hn : n < 1000) : zSame 0 120 228 [(0, x1)] n T V := by
  have hS := h.str
  obtain ⟨r1, T1, V1, a1, a2, a3, a4, -⟩ := c101 h
  subst a2
  have hS1 := a3.str
  have n1 := a3.ok.n
  have e1 := a3.sr.n
  have hW := zKw_of a3.ok
  have en : (((V1 132 427).toNat : Nat) : Int) = V1 132 427 := by omega
  have t := a3.tl a4 (V1 132 427).toNat (by omega) (by omega)
  have t1 := t.1
  have t2 := t.2
  have z0 := zW_pos (zkc (V1 132)) 0 (fun _ _ => True) (V1 132 427).toNat 0 0
  have zl := zW_L a3.cok (V1 132 427).toNat (by omega) 0 0
  have x0 := zX_0 (V := V1) a3.cok (n := (V1 132 427).toNat) (by omega) t
  rw [en] at t1 t2 x0
  obtain ⟨r2, T2, V2, b1, b2, b3, b4, b5⟩ := c224 a3
  subst b2
  rw [b3] at b1
  have fin := zJ_pr a3 hn b4.1 b4.2.1 b4.2.2.1 b5
  have e132 : V2 132 = V1 132 := b4.1 132 (by decide) (by decide) (by decide) (by decide)
  unfold zSame
  rw [e120, b120_0 hS, a1]
  simp only [Option.bind_some, zpush9]
  rw [b120_4 hS1, c28 (st1 hS1), e1]
  simp only [Option.bind_some, zpush0]
  rw [b120_20]
  by_cases c : 0 ≤ x1 ∧ x1 < V1 132 427
  · rw [if_pos c, if_neg (by decide), b120_23 hS1 (by omega)]
    by_cases c2 : V1 115 (V1 132 427) = 0
    · rw [if_pos c2, b120_37]
      refine zwp_ret ?_
      rw [e228, b228_0 hS1, c157 hS1 (by omega), if_pos c]
      simp only [Option.bind_some, zpush0]
      rw [b228_5, if_neg (by decide), b228_8 hS1, b1, if_pos (by
        by_cases q : zL (zkc (V1 132)) (V1 132 427).toNat 0 0 = 1000000000
        · exact q
        · have := zl.2 q; omega)]
      simp only [Option.bind_some, zpush0]
      rw [b228_12, if_pos rfl, b228_16]
      exact zwp_ret ⟨⟨_, rfl, rfl⟩, fin⟩
    · have hp : 0 < V1 115 (V1 132 427) := by omega
      obtain ⟨q1, q2, q3⟩ := x0 hp
      obtain ⟨-, g2, g3, g4, g5⟩ := t2 hp
      have lr := zL_r a3.cok (V1 132 427).toNat (by omega) 0 0
      rw [if_neg c2, b120_39 hS1, c121 hS1 n1 c ⟨g2, g4⟩ g3 (fun z => by rw [show (V1 132 427 - 8).toNat = (V1 132 427).toNat - 8 by omega]; exact g5 (by omega)), q3]
      simp only [Option.bind_some, zpush0]
      rw [b120_49]
      refine zwp_ret ?_
      rw [e228, b228_0 hS1, c157 hS1 (by omega), if_pos c]
      simp only [Option.bind_some, zpush0]
      rw [b228_5, if_neg (by decide), b228_8 hS1, b1, if_neg q1]
      simp only [Option.bind_some, zpush0]
      rw [b228_12, if_neg (by omega), b228_18, c228 (K := zkc (V1 132)) hS1 hW a3.cok (by rw [e132]; exact fun i i1 i2 => (a3.ok.mir i1 i2).2) (by rw [e132, zcst_c]) b4 b5 n1 c q1]
      exact zwp_ret ⟨⟨_, rfl, rfl⟩, fin⟩
  · rw [if_neg c, if_pos rfl, b120_37]
    refine zwp_ret ?_
    rw [e228, b228_0 hS1, c157 hS1 (by omega), if_neg c]
    simp only [Option.bind_some, zpush0]
    rw [b228_5, if_pos rfl, b228_16]
    exact zwp_ret ⟨⟨_, rfl, rfl⟩, zJ_ok a3 hn⟩
end FIRST2
