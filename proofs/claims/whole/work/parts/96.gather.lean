/-! gathering what may end -/
section GATHER
variable {T : zT} {V : zM} {q1 q2 g1 g2 n1 n2 p m E W n a : Int} {K Qe Qw : Int → Int} {Le Lw : Int → List Int}
def zEe (V : zM) (g i n : Int) : Prop := zEv n (V (g + 3) i) (V (g + 4) i) (V (g + 5) i) (V (g + 6) i) (V (g + 7) i) ∨ zEb (V (g + 3) i) (V (g + 4) i) (V (g + 5) i) (V (g + 6) i) (V (g + 7) i)
def zOo (V : zM) (O : Int → Int → Int → Int → Int → Int → Int → Int) (g i e w : Int) : Int := O (V (g + 3) i) (V (g + 4) i) (V (g + 5) i) (V (g + 6) i) (V (g + 7) i) e w
def zGa (V : zM) (g j : Int) (V' : zM) : Prop := (∀ x, x < g + 3 ∨ g + 7 < x → V' x = V x) ∧ ∀ k, 3 ≤ k → k ≤ 7 → ∀ i, i ≠ j → V' (g + k) i = V (g + k) i
noncomputable def zEnd (V : zM) (K : Int → Int) (a : Int) (Qe Qw : Int → Int) (g1 : Int) (z : Int) (O : Int → Int → Int → Int → Int → Int → Int → Int) (e w i : Int) : Int := zif (zfin K a 0 (Qe (V (g1 + 1) i)) ∧ zfin K a 1 (Qw (V (g1 + 2) i))) (zOo V O g1 i e w) z
theorem c118 {q3 g3 n3 j : Int} (hS : zStr T) (hg : zGeo0 T q1 q2 g1 g2 n1 n2 p m) (hn : 0 ≤ n ∧ n ≤ 16) (ht1 : zTri V 79 K a 0 E Qe Le) (ht2 : zTri V 87 K a 1 W Qw Lw) (hF : zFm V q1 g1 n1 E W n) (h3 : zRw T q3 g3 n3) (h111 : 111 ≤ g3 ∧ g3 ≤ 144) (hj : 0 ≤ j ∧ j < n3) :
    ∃ V', zcall 118 [(2, 78), (2, q3), (0, j)] T V = some ((9, 0), T, V') ∧ zGa V g3 j V' ∧ zEe V' g3 j n ∧ ∀ op z O, zMo op z → zObs op z n O → ∀ e w, zOo V' O g3 j e w = zfo op z (zEnd V K a Qe Qw g1 z O e w) (V q1 0).toNat := by
  obtain ⟨⟨pp1, pp2, pp3⟩, qq, ly1, ly2, arp, pw, mm, ⟨ap1, ap2, ap3⟩, -⟩ := id hg
  have l1 := ly1.2.2
  have r1 := zLy_R ly1
  have hl3 := zRw_L h3
  have u1 := (r1.2 1 (by decide) (by decide)).1
  have u2 := (r1.2 2 (by decide) (by decide)).1
  have u3 := (r1.2 3 (by decide) (by decide)).1
  have u4 := (r1.2 4 (by decide) (by decide)).1
  have u5 := (r1.2 5 (by decide) (by decide)).1
  have u6 := (r1.2 6 (by decide) (by decide)).1
  have u7 := (r1.2 7 (by decide) (by decide)).1
  have hq1 : q1 ≤ 103 := by omega
  have hg1 : ∀ k, 1 ≤ k → k ≤ 7 → g1 + k < g3 + 3 ∨ g3 + 7 < g1 + k := fun k k1 k2 => by omega
  have hN := hF.1
  rw [e118, b118_0 hl3, c111 h3 hj]
  simp only [Option.bind_some, zpush9]
  rw [b118_5]
  have loop := zup (α := zM) (fun i V' => zGa V g3 j V' ∧ zEe V' g3 j n ∧ ∀ op z O, zMo op z → zObs op z n O → ∀ e w, zOo V' O g3 j e w = zfo op z (zEnd V K a Qe Qw g1 z O e w) i.toNat) (fun i V' => zwp (ev 118 7 [(2, 78), (2, q3), (0, j), (0, i)] [] T V') fun r T' V' => r = (9, 0) ∧ T' = T ∧ zGa V g3 j V' ∧ zEe V' g3 j n ∧ ∀ op z O, zMo op z → zObs op z n O → ∀ e w, zOo V' O g3 j e w = zfo op z (zEnd V K a Qe Qw g1 z O e w) (V q1 0).toNat) (lo := 0) (hi := V q1 0) hN.1 ?_ ?_ (zwr (zwr (zwr (zwr (zwr V (g3 + 3) j 0) (g3 + 4) j 1000000) (g3 + 5) j 0) (g3 + 6) j 0) (g3 + 7) j 0) ?_
  · obtain ⟨r, T', V', e1, e2, e3, e4⟩ := loop
    subst e2; subst e3
    exact ⟨V', e1, e4⟩
  · rintro V' ⟨v1, v2, v3⟩
    rw [b118_7 hS (by rw [pp1]; exact ly1.1), pp1, v1.1 q1 (by omega), if_pos (by omega), b118_114]
    exact zwp_ret ⟨rfl, rfl, v1, v2, v3⟩
  · rintro i V' i1 i2 ⟨v1, v2, v3⟩ next
    obtain ⟨f1, f2, f3⟩ := hF.2 i i1 i2
    have hi1 : 0 ≤ i ∧ i < n1 := by omega
    have row : ∀ k, 1 ≤ k → k ≤ 7 → V' (g1 + k) = V (g1 + k) := fun k k1 k2 => v1.1 _ (hg1 k k1 k2)
    have hE : E ≤ 196 ∧ W ≤ 196 := ⟨ht1.1.2.2, ht2.1.2.2⟩
    have m1 := (ht1.2.2 _ f1.1 f1.2).2.2.2.2.2.2.2
    have m2 := (ht2.2.2 _ f2.1 f2.2).2.2.2.2.2.2.2
    have m1' : V' 84 (V (g1 + 1) i) = zif (zfin K a 0 (Qe (V (g1 + 1) i))) 1 0 := by rw [v1.1 84 (by omega)]; exact m1
    have m2' : V' 92 (V (g1 + 2) i) = zif (zfin K a 1 (Qw (V (g1 + 2) i))) 1 0 := by rw [v1.1 92 (by omega)]; exact m2
    have skip : ¬ (zfin K a 0 (Qe (V (g1 + 1) i)) ∧ zfin K a 1 (Qw (V (g1 + 2) i))) → zwp (ev 118 108 [(2, 78), (2, q3), (0, j), (0, i)] [] T V') fun r T' V' => r = (9, 0) ∧ T' = T ∧ zGa V g3 j V' ∧ zEe V' g3 j n ∧ ∀ op z O, zMo op z → zObs op z n O → ∀ e w, zOo V' O g3 j e w = zfo op z (zEnd V K a Qe Qw g1 z O e w) (V q1 0).toNat := fun hno => by
      rw [b118_108 (by omega)]
      refine next V' ⟨v1, v2, fun op z O h1 h2 e w => ?_⟩
      rw [zfo_s i1, show zEnd V K a Qe Qw g1 z O e w i = z from zif_f hno, zfo_z h1]
      exact v3 op z O h1 h2 e w
    rw [b118_7 hS (by rw [pp1]; exact ly1.1), pp1, v1.1 q1 (by omega), if_neg (by omega), b118_18 hS (by rw [pp1]; exact ly1.1) hi1 (by rw [pp1, u1, row 1 (by decide) (by decide)]; omega), pp1, u1, row 1 (by decide) (by decide), m1']
    by_cases c1 : zfin K a 0 (Qe (V (g1 + 1) i))
    · rw [zif_t c1, if_neg (by decide), b118_38 hS (by rw [pp1]; exact ly1.1) hi1 (by rw [pp1, u2, row 2 (by decide) (by decide)]; omega), pp1, u2, row 2 (by decide) (by decide), m2']
      by_cases c2 : zfin K a 1 (Qw (V (g1 + 2) i))
      · rw [zif_t c2, if_neg (by decide), b118_58 hS (by rw [pp1]; exact ly1.1) hi1 hl3, pp1, u3, u4, u5, u6, u7, row 3 (by decide) (by decide), row 4 (by decide) (by decide), row 5 (by decide) (by decide), row 6 (by decide) (by decide), row 7 (by decide) (by decide)]
        have cr : 0 ≤ V' (g3 + 3) j ∧ V' (g3 + 3) j ≤ 1000000000000 := by
          rcases v2 with v2 | v2
          · have := v2.1; omega
          · have := v2.1; omega
        have hin : zEi n (V (g1 + 3) i) (V (g1 + 4) i) (V (g1 + 5) i) (V (g1 + 6) i) (V (g1 + 7) i) := ⟨by have := f3.1; omega, f3.2⟩
        obtain ⟨V2, e1, w1, w2, w3, w4, w5, w6⟩ := c112 (V := V') (j := j) (m := V (g1 + 3) i) (p := V (g1 + 4) i) (f := V (g1 + 5) i) (r := V (g1 + 6) i) (mk := V (g1 + 7) i) h3 hj (by have := hin.1; omega)
        rw [e1]
        simp only [Option.bind_some, zpush9]
        rw [b118_108 (by omega)]
        have out : (zCh (V' (g3 + 4) j) (V' (g3 + 5) j) (V' (g3 + 6) j) (V (g1 + 4) i) (V (g1 + 5) i) (V (g1 + 6) i) ∧ V2 (g3 + 4) j = V (g1 + 4) i ∧ V2 (g3 + 5) j = V (g1 + 5) i ∧ V2 (g3 + 6) j = V (g1 + 6) i) ∨ (¬ zCh (V' (g3 + 4) j) (V' (g3 + 5) j) (V' (g3 + 6) j) (V (g1 + 4) i) (V (g1 + 5) i) (V (g1 + 6) i) ∧ V2 (g3 + 4) j = V' (g3 + 4) j ∧ V2 (g3 + 5) j = V' (g3 + 5) j ∧ V2 (g3 + 6) j = V' (g3 + 6) j) := by
          by_cases z : zCh (V' (g3 + 4) j) (V' (g3 + 5) j) (V' (g3 + 6) j) (V (g1 + 4) i) (V (g1 + 5) i) (V (g1 + 6) i)
          · exact Or.inl ⟨z, w5 z⟩
          · exact Or.inr ⟨z, w6 z⟩
        refine next V2 ⟨⟨fun x hx => by rw [w1 x hx, v1.1 x hx], fun k k1 k2 y hy => by rw [w2 k k1 k2 y hy, v1.2 k k1 k2 y hy]⟩, ?_, fun op z O h1 h2 e w => ?_⟩
        · obtain ⟨i1, i2, i3, i4⟩ := hin
          have mr : 0 ≤ V' (g3 + 7) j ∧ V' (g3 + 7) j < 16384 := by
            rcases v2 with v2 | v2
            · exact v2.2.2.2
            · have := v2.2.2.2.2; omega
          refine Or.inl ?_
          rw [w3, w4]
          refine ⟨by omega, ?_⟩
          rcases out with ⟨-, o1, o2, o3⟩ | ⟨o0, o1, o2, o3⟩
          · rw [o1, o2, o3]
            exact ⟨i2, i3, zor_n (k := 14) (by decide) mr.1 mr.2 i4.1 i4.2⟩
          · rw [o1, o2, o3]
            rcases v2 with v2 | v2
            · exact ⟨v2.2.1, v2.2.2.1, zor_n (k := 14) (by decide) mr.1 mr.2 i4.1 i4.2⟩
            · exact absurd (Or.inl (by rw [v2.2.1]; omega)) o0
        · rw [zfo_s i1, show zEnd V K a Qe Qw g1 z O e w i = zOo V O g1 i e w from zif_t ⟨c1, c2⟩, ← v3 op z O h1 h2 e w]
          unfold zOo
          rw [w3, w4]
          exact h2.2 _ _ _ _ _ _ _ _ _ _ _ _ _ _ _ v2 hin out
      · rw [zif_f c2, if_pos rfl]
        exact skip (fun z => c2 z.2)
    · rw [zif_f c1, if_pos rfl]
      exact skip (fun z => c1 z.1)
  · have x : ∀ (W : zM) (y v : Int) (k : Int) (i : Int), i ≠ j → zwr W y j v (g3 + k) i = W (g3 + k) i := fun W y v k i hi => by
      by_cases e : g3 + k = y
      · subst e; rw [zwr_same, if_neg hi]
      · rw [zwr_ne e]
    have b3 : (zwr (zwr (zwr (zwr (zwr V (g3 + 3) j 0) (g3 + 4) j 1000000) (g3 + 5) j 0) (g3 + 6) j 0) (g3 + 7) j 0) (g3 + 3) j = 0 := by rw [zwr_ne (by omega), zwr_ne (by omega), zwr_ne (by omega), zwr_ne (by omega), zwr_same, if_pos rfl]
    have b4 : (zwr (zwr (zwr (zwr (zwr V (g3 + 3) j 0) (g3 + 4) j 1000000) (g3 + 5) j 0) (g3 + 6) j 0) (g3 + 7) j 0) (g3 + 4) j = 1000000 := by rw [zwr_ne (by omega), zwr_ne (by omega), zwr_ne (by omega), zwr_same, if_pos rfl]
    have b5 : (zwr (zwr (zwr (zwr (zwr V (g3 + 3) j 0) (g3 + 4) j 1000000) (g3 + 5) j 0) (g3 + 6) j 0) (g3 + 7) j 0) (g3 + 5) j = 0 := by rw [zwr_ne (by omega), zwr_ne (by omega), zwr_same, if_pos rfl]
    have b6 : (zwr (zwr (zwr (zwr (zwr V (g3 + 3) j 0) (g3 + 4) j 1000000) (g3 + 5) j 0) (g3 + 6) j 0) (g3 + 7) j 0) (g3 + 6) j = 0 := by rw [zwr_ne (by omega), zwr_same, if_pos rfl]
    have b7 : (zwr (zwr (zwr (zwr (zwr V (g3 + 3) j 0) (g3 + 4) j 1000000) (g3 + 5) j 0) (g3 + 6) j 0) (g3 + 7) j 0) (g3 + 7) j = 0 := by rw [zwr_same, if_pos rfl]
    refine ⟨⟨fun y hy => ?_, fun k k1 k2 i hi => ?_⟩, Or.inr ⟨b3, b4, b5, b6, b7⟩, fun op z O h1 h2 e w => ?_⟩
    · rw [zwr_ne (by omega), zwr_ne (by omega), zwr_ne (by omega), zwr_ne (by omega), zwr_ne (by omega)]
    · rw [x _ _ _ _ _ hi, x _ _ _ _ _ hi, x _ _ _ _ _ hi, x _ _ _ _ _ hi, x _ _ _ _ _ hi]
    · unfold zOo
      rw [b3, b4, b5, b6, b7]
      exact h2.1 e w
end GATHER
