/-! carrying an entry over -/
theorem zpow_mono {r s : Nat} (h : r ≤ s) : (128 : Int) ^ r ≤ 128 ^ s := by
  have := Nat.pow_le_pow_right (n := 128) (by decide) h
  exact_mod_cast this
def zPb (wy le ct sh : Int → Int) (x : Int) : Prop := (0 < wy x ∧ wy x ≤ 128) ∧ (0 ≤ le x ∧ le x < 128) ∧ (0 ≤ ct x ∧ ct x ≤ 693) ∧ (0 ≤ sh x ∧ sh x < 16384)
theorem zEi_s {n c k h l m wy le ct sh : Int} (hn : 0 ≤ n) (v : zEv n c k h l m) (h1 : 0 < wy ∧ wy ≤ 128) (h2 : 0 ≤ le ∧ le < 128) (h3 : 0 ≤ ct ∧ ct ≤ 693) (h4 : 0 ≤ sh ∧ sh < 16384) : zEi (n + 1) (c * wy) (k + ct) (if n < 8 then h * 128 + le else h) (if n < 8 then l else l * 128 + le) (zor m sh) := by
  obtain ⟨v1, v2, v3, v4⟩ := v
  refine ⟨⟨Int.mul_pos v1.1 h1.1, ?_⟩, by omega, zHl_s hn v3 h2, zor_n (k := 14) (by decide) v4.1 v4.2 h4.1 h4.2⟩
  have : c * wy ≤ 1000000000000 * 128 := Int.mul_le_mul v1.2 h1.2 (by omega) (by omega)
  omega
section CARRY
variable {T : zT} {V : zM} {q1 q2 g1 g2 n1 n2 p m E W n : Int}
theorem c117 {pb i at_ x : Int} (hS : zStr T) (hg : zGeo0 T q1 q2 g1 g2 n1 n2 p m) (hP : zPairT T pb) (hx : 0 ≤ x ∧ x < 729) (hn : 0 ≤ n ∧ n ≤ 15) (ht : zTo V q2 g2 p m n2 E W (n + 1) at_) (hat : 0 ≤ at_ ∧ at_ < V q2 0) (hi : 0 ≤ i ∧ i < n1) (hv : zEv n (V (g1 + 3) i) (V (g1 + 4) i) (V (g1 + 5) i) (V (g1 + 6) i) (V (g1 + 7) i)) (hb : zPb (V (pb + 1)) (V (pb + 2)) (V (pb + 3)) (V (pb + 4)) x) :
    ∃ V', zcall 117 [(2, 78), (0, i), (0, at_), (2, pb), (0, x), (0, n)] T V = some ((9, 0), T, V') ∧ zTo V' q2 g2 p m n2 E W (n + 1) (-1) ∧ zFr T V q2 g2 p T V' g2 ∧ ∀ op z O Qe Qw, zMo op z → zObs op z (n + 1) O → zFo V' op z O q2 g2 Qe Qw = op (zFo V op z O q2 g2 Qe Qw) (O (V (g1 + 3) i * V (pb + 1) x) (V (g1 + 4) i + V (pb + 3) x) (if n < 8 then V (g1 + 5) i * 128 + V (pb + 2) x else V (g1 + 5) i) (if n < 8 then V (g1 + 6) i else V (g1 + 6) i * 128 + V (pb + 2) x) (zor (V (g1 + 7) i) (V (pb + 4) x)) (Qe (V (g2 + 1) at_)) (Qw (V (g2 + 2) at_))) := by
  obtain ⟨⟨pp1, pp2, pp3⟩, qq, ly1, ly2, arp, pw, mm, ⟨ap1, ap2, ap3⟩, -⟩ := id hg
  obtain ⟨t1, t2, t3, t4, t5⟩ := ht
  obtain ⟨b1, b2, b3, b4⟩ := hb
  have r1 := zLy_R ly1
  have r2 := zLy_R ly2
  have u3 := (r1.2 3 (by decide) (by decide)).1
  have u4 := (r1.2 4 (by decide) (by decide)).1
  have u5 := (r1.2 5 (by decide) (by decide)).1
  have u6 := (r1.2 6 (by decide) (by decide)).1
  have u7 := (r1.2 7 (by decide) (by decide)).1
  have lyq := ly2.2.2.1
  obtain ⟨a1, a2, a3, a4⟩ := t5 at_ hat.1 hat.2
  have hin := zEi_s hn.1 hv b1 b2 b3 b4
  obtain ⟨c, hc⟩ : ∃ c, V (g1 + 3) i * V (pb + 1) x = c := ⟨_, rfl⟩
  obtain ⟨k, hk⟩ : ∃ k, V (g1 + 4) i + V (pb + 3) x = k := ⟨_, rfl⟩
  obtain ⟨hh, hhh⟩ : ∃ hh, (if n < 8 then V (g1 + 5) i * 128 + V (pb + 2) x else V (g1 + 5) i) = hh := ⟨_, rfl⟩
  obtain ⟨ll, hll⟩ : ∃ ll, (if n < 8 then V (g1 + 6) i else V (g1 + 6) i * 128 + V (pb + 2) x) = ll := ⟨_, rfl⟩
  obtain ⟨mk, hmk⟩ : ∃ mk, zor (V (g1 + 7) i) (V (pb + 4) x) = mk := ⟨_, rfl⟩
  rw [hc, hk, hhh, hll, hmk] at hin
  have cr : 0 ≤ V (g2 + 3) at_ ∧ V (g2 + 3) at_ ≤ 1000000000000 := by
    rcases a4 with a4 | a4
    · have := a4.1; omega
    · have := a4.2.1; omega
  obtain ⟨V', e1, w1, w2, w3, w4, w5, w6⟩ := c112 (V := V) (j := at_) (m := c) (p := k) (f := hh) (r := ll) (mk := mk) r2 (by omega) (by have := hin.1; omega)
  have run : zcall 117 [(2, 78), (0, i), (0, at_), (2, pb), (0, x), (0, n)] T V = some ((9, 0), T, V') := by
    have hz := hv.2.2.1
    rw [e117, b117_0 hS (by rw [pp1]; exact ly1.1) hi hP hx (by rw [pp1, u3, hc]; have := hin.1; omega) (by rw [pp1, u4, hk]; have := hin.2.1; omega), pp1, u3, u4, u5, u6, hc, hk]
    by_cases c8 : n < 8
    · rw [if_pos c8] at hhh hll
      have h1 := (hz.2.2.1 (by omega)).1
      have h2 := zpow_mono (r := n.toNat) (s := 7) (by omega)
      have h3 : V (g1 + 5) i < 562949953421312 := Int.lt_of_lt_of_le h1 h2
      have h4 := hz.1
      rw [if_neg (by omega), b117_68 (by omega) hP hx, zlor_s (by omega) b2, hhh, hll, b117_103 hS (by rw [pp1]; exact ly1.1) hi hP hx (by rw [pp2]; exact ly2.1), pp1, pp2, u7, hmk, e1]
      simp only [Option.bind_some, zpush9]
      rw [b117_136]
    · rw [if_neg c8] at hhh hll
      have h4 := hz.2.1
      have h3 : V (g1 + 6) i < 562949953421312 := by
        by_cases c9 : n = 8
        · have := (hz.2.2.1 (by omega)).2; omega
        · have h1 := (hz.2.2.2 (by omega)).2
          have h2 := zpow_mono (r := (n - 8).toNat) (s := 7) (by omega)
          exact Int.lt_of_lt_of_le h1 h2
      rw [if_pos (by omega), b117_87 (by omega) hP hx, zlor_s (by omega) b2, hhh, hll, b117_103 hS (by rw [pp1]; exact ly1.1) hi hP hx (by rw [pp2]; exact ly2.1), pp1, pp2, u7, hmk, e1]
      simp only [Option.bind_some, zpush9]
      rw [b117_136]
  have vp : V' p = V p := w1 p (by unfold zap at ap3; omega)
  have vq : V' q2 = V q2 := w1 q2 (by omega)
  have v1 : V' (g2 + 1) = V (g2 + 1) := w1 _ (by omega)
  have v2 : V' (g2 + 2) = V (g2 + 2) := w1 _ (by omega)
  obtain ⟨out, ho⟩ : ∃ _ : (zCh (V (g2 + 4) at_) (V (g2 + 5) at_) (V (g2 + 6) at_) k hh ll ∧ V' (g2 + 4) at_ = k ∧ V' (g2 + 5) at_ = hh ∧ V' (g2 + 6) at_ = ll) ∨ (¬ zCh (V (g2 + 4) at_) (V (g2 + 5) at_) (V (g2 + 6) at_) k hh ll ∧ V' (g2 + 4) at_ = V (g2 + 4) at_ ∧ V' (g2 + 5) at_ = V (g2 + 5) at_ ∧ V' (g2 + 6) at_ = V (g2 + 6) at_), True := by
    by_cases z : zCh (V (g2 + 4) at_) (V (g2 + 5) at_) (V (g2 + 6) at_) k hh ll
    · exact ⟨Or.inl ⟨z, w5 z⟩, trivial⟩
    · exact ⟨Or.inr ⟨z, w6 z⟩, trivial⟩
  have old : ∀ j, j ≠ at_ → ∀ y, 1 ≤ y → y ≤ 7 → V' (g2 + y) j = V (g2 + y) j := fun j hj y y1 y2 => by
    by_cases c3 : 3 ≤ y
    · exact w2 y c3 y2 j hj
    · rw [w1 (g2 + y) (by omega)]
  have evn : zEv (n + 1) (V' (g2 + 3) at_) (V' (g2 + 4) at_) (V' (g2 + 5) at_) (V' (g2 + 6) at_) (V' (g2 + 7) at_) := by
    obtain ⟨i1, i2, i3, i4⟩ := hin
    rw [w3, w4]
    have mr : 0 ≤ V (g2 + 7) at_ ∧ V (g2 + 7) at_ < 16384 := by
      rcases a4 with a4 | a4
      · exact a4.2.2.2
      · have := a4.2.2.2.2.2; omega
    refine ⟨by omega, ?_⟩
    rcases out with ⟨-, o1, o2, o3⟩ | ⟨o0, o1, o2, o3⟩
    · rw [o1, o2, o3]
      exact ⟨i2, i3, zor_n (k := 14) (by decide) mr.1 mr.2 i4.1 i4.2⟩
    · rw [o1, o2, o3]
      rcases a4 with a4 | a4
      · exact ⟨a4.2.1, a4.2.2.1, zor_n (k := 14) (by decide) mr.1 mr.2 i4.1 i4.2⟩
      · exact absurd (Or.inl (by rw [a4.2.2.1]; omega)) o0
  refine ⟨V', run, ⟨by rw [vq]; exact t1, by rw [vq, vp]; exact t2, by rw [vp]; exact t3, ?_, fun j j1 j2 => ?_⟩, ⟨zHx_r T _, Or.inl rfl, fun r _ r2 r3 r4 => w1 r (by omega)⟩, fun op z O Qe Qw hmo hob => ?_⟩
  · rw [vp, vq, v1, v2]; exact t4
  · rw [vq] at j2
    obtain ⟨d1, d2, d3, d4⟩ := t5 j j1 j2
    rw [v1, v2, vp]
    refine ⟨d1, d2, d3, Or.inl ?_⟩
    by_cases cj : j = at_
    · rw [cj]; exact evn
    · rw [old j cj 3 (by decide) (by decide), old j cj 4 (by decide) (by decide), old j cj 5 (by decide) (by decide), old j cj 6 (by decide) (by decide), old j cj 7 (by decide) (by decide)]
      exact d4.elim id (fun z => absurd z.1 cj)
  · unfold zFo
    rw [vq, hc, hk, hhh, hll, hmk]
    refine zfo_upd hmo hat.1 (by omega) (fun j j1 j2 cj => ?_) ?_
    · unfold zOe
      rw [old j cj 1 (by decide) (by decide), old j cj 2 (by decide) (by decide), old j cj 3 (by decide) (by decide), old j cj 4 (by decide) (by decide), old j cj 5 (by decide) (by decide), old j cj 6 (by decide) (by decide), old j cj 7 (by decide) (by decide)]
    · unfold zOe
      rw [v1, v2, w3, w4]
      exact hob.2 _ _ _ _ _ _ _ _ _ _ _ _ _ _ _ (a4.imp id (fun z => z.2)) hin out
end CARRY
