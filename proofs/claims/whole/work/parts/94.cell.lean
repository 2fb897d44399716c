/-! a whole step -/
theorem zMv_congr {V V' : zM} {b : Int} {K Q : Int → Int} {a t nd x : Int} (h : zMv V b K a t nd Q x) (h0 : V' b = V b) (h6 : V' (b + 6) = V (b + 6)) (h7 : V' (b + 7) = V (b + 7)) : zMv V' b K a t nd Q x := by
  unfold zMv
  rw [h0, h6, h7]
  exact h
section CELL
variable {T0 T : zT} {V0 V : zM} {q1 q2 g1 g2 n1 p m E W n g n2 pb a : Int} {K Qe Qw : Int → Int} {Le Lw : Int → List Int}
theorem zTo_congr {V' : zM} {q g p m n2 E W n at_ : Int} (h : zTo V q g p m n2 E W n at_) (h0 : V' q = V q) (hp : V' p = V p) (hk : ∀ k, 1 ≤ k → k ≤ 7 → V' (g + k) = V (g + k)) : zTo V' q g p m n2 E W n at_ := by
  unfold zTo
  rw [h0, hp, hk 1 (by decide) (by decide), hk 2 (by decide) (by decide), hk 3 (by decide) (by decide), hk 4 (by decide) (by decide), hk 5 (by decide) (by decide), hk 6 (by decide) (by decide), hk 7 (by decide) (by decide)]
  exact h
theorem zFo_congr {V' : zM} {q g : Int} (h0 : V' q = V q) (hk : ∀ k, 1 ≤ k → k ≤ 7 → V' (g + k) = V (g + k)) (op : Int → Int → Int) (z : Int) (O : Int → Int → Int → Int → Int → Int → Int → Int) (Qe Qw : Int → Int) : zFo V' op z O q g Qe Qw = zFo V op z O q g Qe Qw := by
  unfold zFo
  rw [h0]
  refine zfo_congr fun i _ _ => ?_
  unfold zOe
  rw [hk 1 (by decide) (by decide), hk 2 (by decide) (by decide), hk 3 (by decide) (by decide), hk 4 (by decide) (by decide), hk 5 (by decide) (by decide), hk 6 (by decide) (by decide), hk 7 (by decide) (by decide)]
theorem zIs_m {V' : zM} {n3 b : Int} (h : zIs T0 V0 q1 q2 g1 g2 n1 p m E W n T V g n3) (k : zMf V V' b) (hb : b = 79 ∨ b = 87) : zIs T0 V0 q1 q2 g1 g2 n1 p m E W n T V' g n3 ∧ ∀ op z O Qe Qw, zFo V' op z O q2 g Qe Qw = zFo V op z O q2 g Qe Qw := by
  obtain ⟨h1, h2, h3, h4⟩ := h
  have qq := h2.2.1
  have l2 := h2.2.2.2.1.2.2.1
  have pw := h2.2.2.2.2.2.1
  have hq : 95 ≤ q2 := by omega
  have hg : 95 ≤ g := by omega
  have hp : 111 ≤ p := by omega
  clear qq l2 pw
  have kq : V' q2 = V q2 := k.1 q2 (by omega) (by omega) (by omega)
  have kk : ∀ y, 1 ≤ y → y ≤ 7 → V' (g + y) = V (g + y) := fun y y1 y2 => k.1 _ (by omega) (by omega) (by omega)
  exact ⟨⟨h1, h2, zTo_congr h3 kq (k.1 p (by omega) (by omega) (by omega)) kk, zFt_m h4 k hb⟩, fun op z O Qe Qw => zFo_congr kq kk op z O Qe Qw⟩
theorem zGeo0_sw {n3 : Int} (h : zGeo0 T q1 q2 g1 g n1 n3 p m) (hs : 153 ≤ zsz T) : zGeo0 (zqw (zqw T 78 2 q2) 78 3 q1) q2 q1 g g1 n3 n1 p m := by
  obtain ⟨a1, a2, a3, a4, a5, a6, a7, a9, a10, a11, a12, a13⟩ := h
  have x1 := zHx_q T 78 2 q2
  have x2 := zHx_q (zqw T 78 2 q2) 78 3 q1
  have x := zHx_t x1 x2
  have p55 : ∀ k, zp (zqw (zqw T 78 2 q2) 78 3 q1) 55 k = zp T 55 k := fun k => by rw [zp_q, if_neg (by omega), zp_q, if_neg (by omega)]
  refine ⟨⟨?_, ?_, ?_⟩, by omega, ?_, ?_, zAr_x x a5, a6, a7, ?_, fun k hk => ?_, ?_, ?_, ?_⟩
  · rw [zp_q, if_neg (by omega), zp_q, if_pos ⟨rfl, rfl⟩]
  · rw [zp_q, if_pos ⟨rfl, rfl⟩]
  · rw [zp_q, if_neg (by omega), zp_q, if_neg (by omega)]; exact a1.2.2
  · exact zLy_of (zRw_x (zLy_R a4) x (fun k z => by omega)) a4.2.2.1 a4.2.2.2.2
  · exact zLy_of (zRw_x (zLy_R a3) x (fun k z => by omega)) a3.2.2.1 a3.2.2.2.2
  · obtain ⟨b1, b2, b3⟩ := a9
    exact ⟨Or.symm b1, b3, b2⟩
  · rw [p55]
    intro h0
    obtain ⟨c1, c2, c3, c4⟩ := a10 k hk h0
    exact ⟨c2, c1, c3, c4⟩
  · rw [p55, p55]; exact a11
  · rw [p55, p55, zsl_q, zsl_q]; omega
  · rw [p55, p55, zsz_q, zsz_q]; omega
/-- the fold behind a step -/
noncomputable def zSt2 (V0 : zM) (K : Int → Int) (a pb n : Int) (op : Int → Int → Int) (z : Int) (O : Int → Int → Int → Int → Int → Int → Int → Int) : Int → Int → Int → Int → Int → Int → Int → Int := zStp K a op z (V0 (pb + 1)) (V0 (pb + 3)) (V0 (pb + 2)) (V0 (pb + 4)) n O
def zFx (T : zT) (V : zM) (q g p : Int) (T' : zT) (V' : zM) (g' : Int) : Prop := zHx T T' (fun x k => x = 95 ∨ x = 103 ∨ (x = 78 ∧ 2 ≤ k)) ∧ (g' = g ∨ zsz T ≤ g' + 1) ∧ (∀ r, r < zsz T → r ≠ q → r ≠ p → r < g + 1 ∨ g + 7 < r → ¬ zmr r → V' r = V r) ∧ ∀ j, j ≠ 8 → V' 79 j = V 79 j ∧ V' 87 j = V 87 j
theorem c113 (hS0 : zStr T0) (hg0 : zGeo0 T0 q1 q2 g1 g2 n1 n2 p m) (hp0 : ∀ j, 0 ≤ j → j < m → V0 p j = -1) (hpb : pb = 65 ∨ pb = 71) (hn : 0 ≤ n ∧ n ≤ 15) (ht1 : zTri V0 79 K a 0 E Qe Le) (ht2 : zTri V0 87 K a 1 W Qw Lw) (hm : E * W ≤ m) (hF : zFm V0 q1 g1 n1 E W n) (htab : zTab V0 pb) :
    ∃ T' V' g' n', zcall 113 [(2, 78), (2, pb), (0, n)] T0 V0 = some ((9, 0), T', V') ∧ zStr T' ∧ zGeo0 T' q2 q1 g' g1 n' n1 p m ∧ (∀ j, 0 ≤ j → j < m → V' p j = -1) ∧ zFm V' q2 g' n' E W (n + 1) ∧ zFx T0 V0 q2 g2 p T' V' g' ∧ ∀ op z O, zMo op z → zObs op z (n + 1) O → zFo V' op z O q2 g' Qe Qw = zFo V0 op z (zSt2 V0 K a pb n op z O) q1 g1 Qe Qw := by
  have hs0 : 153 ≤ zsz T0 := hS0.1
  obtain ⟨⟨pp1, pp2, pp3⟩, qq, ly1, ly2, arp, pw, mm, ⟨ap1, ap2, ap3⟩, -⟩ := id hg0
  have hE : E ≤ 196 ∧ W ≤ 196 := ⟨ht1.1.2.2, ht2.1.2.2⟩
  have hE1 : 1 ≤ E ∧ 1 ≤ W := ⟨ht1.1.2.1, ht2.1.2.1⟩
  have hW : V0 87 5 = W := ht2.1.1
  have l1 := ly1.2.2
  have l2 := ly2.2.2
  have hp1 : 111 ≤ p ∧ p < zsz T0 := ⟨by omega, arp.1.2.1⟩
  have hq2 : 95 ≤ q2 ∧ q2 ≤ 103 := by omega
  have hq1 : q1 ≠ q2 ∧ 95 ≤ q1 ∧ q1 ≤ 103 := by omega
  have hgg1 : 95 ≤ g1 := by omega
  have hgg2 : 95 ≤ g2 ∧ q2 ≤ g2 := by omega
  have hN1 := hF.1
  have hg27 : ∀ k, 1 ≤ k → k ≤ 7 → g2 + k ≠ p ∧ g2 + k ≠ q2 := fun k k1 k2 => by unfold zap at ap3; omega
  -- the clearing and the exchange
  have fin : ∀ T V g n3 v4 v5 v6 v7, zIs T0 V0 q1 q2 g1 g2 n1 p m E W n T V g n3 → zwp (ev 113 173 [(2, 78), (2, pb), (0, n), (0, V0 q1 0), v4, v5, v6, v7] [] T V) fun r T' V' => r = (9, 0) ∧ T' = zqw (zqw T 78 2 q2) 78 3 q1 ∧ (∀ r, r ≠ p → V' r = V r) ∧ ∀ j, 0 ≤ j → j < m → V' p j = -1 := by
    intro T V g n3 v4 v5 v6 v7 hI
    obtain ⟨hS, hg, ht, hf⟩ := id hI
    obtain ⟨⟨pp1', pp2', pp3'⟩, qq', ly1', ly2', arp', pw', mm', ⟨ap1', ap2', ap3'⟩, -⟩ := id hg
    obtain ⟨t1, t2, t3, t4, t5⟩ := ht
    have r2 := zLy_R ly2'
    have l2' := ly2'.2.2.2.2
    have u1 := (r2.2 1 (by decide) (by decide)).1
    have u2 := (r2.2 2 (by decide) (by decide)).1
    have hgp : ∀ k, 1 ≤ k → k ≤ 7 → g + k ≠ p := fun k k1 k2 => by unfold zap at ap3'; omega
    have w87 : V 87 5 = W := by rw [(hf.2.2.2 5 (by decide)).2, hW]
    have hs : 153 ≤ zsz T := hS.1
    rw [b113_173]
    have key := zup (α := zM) (fun i V' => (∀ r, r ≠ p → V' r = V r) ∧ ∀ x, 0 ≤ x → x < m → V' p x = -1 ∨ (V' p x = V p x ∧ i ≤ V p x)) (fun i V' => zwp (ev 113 175 [(2, 78), (2, pb), (0, n), (0, i), v4, v5, v6, v7] [] T V') fun r T' V' => r = (9, 0) ∧ T' = zqw (zqw T 78 2 q2) 78 3 q1 ∧ (∀ r, r ≠ p → V' r = V r) ∧ ∀ j, 0 ≤ j → j < m → V' p j = -1) (lo := 0) (hi := V q2 0) t1.1 ?_ ?_ V ⟨fun _ _ => rfl, fun x x1 x2 => ?_⟩
    · exact key
    · rintro V' ⟨v1, v2⟩
      have hS1 : zStr (zqw T 78 2 q2) := zStr_x hS (zHx_q T 78 2 q2) (fun a k z => by omega)
      rw [b113_175 hS (by rw [pp2']; exact ly2'.1), pp2', v1 q2 (by omega), if_pos (by omega), b113_225 hS, pp1', pp2', b113_238 hS1, b113_243]
      refine zwp_ret ⟨rfl, rfl, v1, fun j j1 j2 => ?_⟩
      rcases v2 j j1 j2 with v | ⟨v, v3⟩
      · exact v
      · by_cases c : V p j = -1
        · rw [v, c]
        · by_cases c2 : j < E * W
          · have := (t4 j j1 c2 c).1; omega
          · exact absurd (t3 j (by omega) j2) c
    · rintro i V' i1 i2 ⟨v1, v2⟩ next
      obtain ⟨d1, d2, d3, -⟩ := t5 i i1 i2
      have xx := zpx d1 d2
      have f1 : V' (g + 1) = V (g + 1) := v1 _ (hgp 1 (by decide) (by decide))
      have f2 : V' (g + 2) = V (g + 2) := v1 _ (hgp 2 (by decide) (by decide))
      have f8 : V' 87 5 = W := by rw [v1 87 (by omega), w87]
      rw [b113_175 hS (by rw [pp2']; exact ly2'.1), pp2', v1 q2 (by omega), if_neg (by omega)]
      have bb := b113_186 (T := T) (V := V') (q1 := pb) (x2 := n) (x3 := i) (v4 := v4) (v5 := v5) (v6 := v6) (v7 := v7) (n1 := n3) (n2 := m) hS
      rw [pp2', u1, u2, pp3', f1, f2, f8] at bb
      rw [bb ly2'.1 (by omega) (by omega) (by omega) arp' (by omega) (by omega)]
      refine next _ ⟨fun r hr => by rw [zwr_ne hr, v1 r hr], fun x x1 x2 => ?_⟩
      rw [zwr_same]
      by_cases c : x = V (g + 1) i * W + V (g + 2) i
      · rw [if_pos c]; exact Or.inl rfl
      · rw [if_neg c]
        rcases v2 x x1 x2 with v | ⟨v, v3⟩
        · exact Or.inl v
        · by_cases c2 : V p x = i
          · exfalso
            by_cases c3 : x < E * W
            · have := (t4 x x1 c3 (by omega)).2
              rw [c2] at this
              exact c this.symm
            · have := t3 x (by omega) x2; omega
          · exact Or.inr ⟨v, by omega⟩
    · by_cases c : V p x = -1
      · exact Or.inl c
      · by_cases c3 : x < E * W
        · exact Or.inr ⟨rfl, (t4 x x1 c3 c).1.1⟩
        · exact absurd (t3 x (by omega) x2) c
  -- the entries
  obtain ⟨X, hX⟩ : ∃ X : zV → zT → zM → Prop, X = fun r T' V' => r = (9, 0) ∧ ∃ g' n', zStr T' ∧ zGeo0 T' q2 q1 g' g1 n' n1 p m ∧ (∀ j, 0 ≤ j → j < m → V' p j = -1) ∧ zFm V' q2 g' n' E W (n + 1) ∧ zFx T0 V0 q2 g2 p T' V' g' ∧ ∀ op z O, zMo op z → zObs op z (n + 1) O → zFo V' op z O q2 g' Qe Qw = zFo V0 op z (zSt2 V0 K a pb n op z O) q1 g1 Qe Qw := ⟨_, rfl⟩
  have done : ∀ T V g n3 v4 v5 v6 v7, zIs T0 V0 q1 q2 g1 g2 n1 p m E W n T V g n3 → (∀ op z O, zMo op z → zObs op z (n + 1) O → zFo V op z O q2 g Qe Qw = zfo op z (zOe V0 (zSt2 V0 K a pb n op z O) g1 Qe Qw) (V0 q1 0).toNat) → zwp (ev 113 173 [(2, 78), (2, pb), (0, n), (0, V0 q1 0), v4, v5, v6, v7] [] T V) X := by
    intro T V g n3 v4 v5 v6 v7 hI hO
    obtain ⟨r, T', V', e1, e2, e3, e4, e5⟩ := fin T V g n3 v4 v5 v6 v7 hI
    refine ⟨r, T', V', e1, ?_⟩
    obtain ⟨hS, hg, ht, hf⟩ := id hI
    obtain ⟨⟨pp1', pp2', pp3'⟩, qq', ly1', ly2', arp', pw', mm', ⟨ap1', ap2', ap3'⟩, -⟩ := id hg
    have hgp : ∀ k, 1 ≤ k → k ≤ 7 → g + k ≠ p := fun k k1 k2 => by unfold zap at ap3'; omega
    obtain ⟨t1, t2, t3, t4, t5⟩ := ht
    have x1 := zHx_q T 78 2 q2
    have x2 := zHx_q (zqw T 78 2 q2) 78 3 q1
    have x := zHx_t x1 x2
    have k0 : V' q2 = V q2 := e4 q2 (by omega)
    have kk : ∀ k, 1 ≤ k → k ≤ 7 → V' (g + k) = V (g + k) := fun k k1 k2 => e4 _ (hgp k k1 k2)
    subst e3
    rw [hX]
    refine ⟨e2, g, n3, zStr_x hS x (fun a k z => by omega), zGeo0_sw hg hS.1, e5, ⟨by rw [k0]; exact t1, fun i i1 i2 => ?_⟩, ⟨?_, hf.2.1, fun r r1 r2 r3 r4 r5 => by rw [e4 r r3]; exact hf.2.2.1 r r1 r2 r3 r4 r5, fun j hj => by rw [e4 79 (by omega), e4 87 (by omega)]; exact hf.2.2.2 j hj⟩, fun op z O h1 h2 => ?_⟩
    · rw [k0] at i2
      rw [kk 1 (by decide) (by decide), kk 2 (by decide) (by decide), kk 3 (by decide) (by decide), kk 4 (by decide) (by decide), kk 5 (by decide) (by decide), kk 6 (by decide) (by decide), kk 7 (by decide) (by decide)]
      obtain ⟨d1, d2, d3, d4⟩ := t5 i i1 i2
      exact ⟨d1, d2, d4.elim id (fun z => by omega)⟩
    · refine zHx_m (zHx_t hf.1 x) (fun y k y1 z => ?_)
      rcases z with z | z | z
      · omega
      · omega
      · omega
    · rw [zFo_congr k0 kk, hO op z O h1 h2]
      rfl
  have loop := zup (α := zT × zM × Int × Int × zV × zV × zV × zV) (fun i s => zIs T0 V0 q1 q2 g1 g2 n1 p m E W n s.1 s.2.1 s.2.2.1 s.2.2.2.1 ∧ ∀ op z O, zMo op z → zObs op z (n + 1) O → zFo s.2.1 op z O q2 s.2.2.1 Qe Qw = zfo op z (zOe V0 (zSt2 V0 K a pb n op z O) g1 Qe Qw) i.toNat) (fun i s => zwp (ev 113 10 [(2, 78), (2, pb), (0, n), (0, i), s.2.2.2.2.1, s.2.2.2.2.2.1, s.2.2.2.2.2.2.1, s.2.2.2.2.2.2.2] [] s.1 s.2.1) X) (lo := 0) (hi := V0 q1 0) hN1.1 ?_ ?_ (T0, zwr V0 q2 0 0, g2, n2, (9, 0), (9, 0), (9, 0), (9, 0)) ?_
  · obtain ⟨r, T', V', e1, e2⟩ := loop
    rw [hX] at e2
    obtain ⟨e2, g', n', e3⟩ := e2
    subst e2
    refine ⟨T', V', g', n', ?_, e3⟩
    rw [e113, b113_0 hS0 (by rw [pp2]; exact ly2.1), pp2]
    exact e1
  · rintro ⟨T, V, g, n3, v4, v5, v6, v7⟩ ⟨hI, hO⟩
    show zwp (ev 113 10 [(2, 78), (2, pb), (0, n), (0, V0 q1 0), v4, v5, v6, v7] [] T V) X
    replace hI : zIs T0 V0 q1 q2 g1 g2 n1 p m E W n T V g n3 := hI
    replace hO : ∀ op z O, zMo op z → zObs op z (n + 1) O → zFo V op z O q2 g Qe Qw = zfo op z (zOe V0 (zSt2 V0 K a pb n op z O) g1 Qe Qw) (V0 q1 0).toNat := hO
    have kp := zIs.keep hg0 hs0 hI
    have hgT := hI.2.1
    rw [b113_10 hI.1 (by rw [hgT.1.1]; exact hgT.2.2.1.1), hgT.1.1, kp.2.1, if_pos (by omega)]
    exact done T V g n3 v4 v5 v6 v7 hI hO
  · rintro i ⟨T, V, g, n3, v4, v5, v6, v7⟩ i1 i2 ⟨hI, hO⟩ next
    show zwp (ev 113 10 [(2, 78), (2, pb), (0, n), (0, i), v4, v5, v6, v7] [] T V) X
    replace hI : zIs T0 V0 q1 q2 g1 g2 n1 p m E W n T V g n3 := hI
    replace hO : ∀ op z O, zMo op z → zObs op z (n + 1) O → zFo V op z O q2 g Qe Qw = zfo op z (zOe V0 (zSt2 V0 K a pb n op z O) g1 Qe Qw) i.toNat := hO
    have kp := zIs.keep hg0 hs0 hI
    obtain ⟨hS, hg, ht, hf⟩ := id hI
    obtain ⟨⟨pp1', pp2', pp3'⟩, qq', ly1', -⟩ := id hg
    have r1 := zLy_R ly1'
    have u1 := (r1.2 1 (by decide) (by decide)).1
    have u2 := (r1.2 2 (by decide) (by decide)).1
    obtain ⟨f1, f2, f3⟩ := hF.2 i i1 i2
    have hi1 : 0 ≤ i ∧ i < n1 := by omega
    have row : ∀ r, 79 ≤ r → r ≤ 94 → ¬ zmr r → V r = V0 r := fun r h1 h2 h3 => kp.2.2.1 r (by omega) (by omega) (by omega) h3 (by omega)
    have tr1 : zTri V 79 K a 0 E Qe Le := zTri_congr ht1 (hf.2.2.2 5 (by decide)).1 (fun k k1 k2 => row _ (by omega) (by omega) (by unfold zmr; omega))
    obtain ⟨V1, a1, a2, a3⟩ := c114 (st79 hS) tr1 f1
    obtain ⟨hI1, hO1⟩ := zIs_m hI a2 (Or.inl rfl)
    have g1n : ∀ k, 1 ≤ k → k ≤ 7 → ∀ (V V' : zM) b, zMf V V' b → b = 79 ∨ b = 87 → V' (g1 + k) = V (g1 + k) := fun k k1 k2 V V' b hb hb2 => hb.1 _ (by omega) (by omega) (by omega)
    have tr2 : zTri V1 87 K a 1 W Qw Lw := zTri_congr ht2 (by rw [a2.1 87 (by decide) (by decide) (by decide)]; exact (hf.2.2.2 5 (by decide)).2) (fun k k1 k2 => by rw [a2.1 _ (by omega) (by omega) (by omega)]; exact row _ (by omega) (by omega) (by unfold zmr; omega))
    obtain ⟨V2, b1, b2, b3⟩ := c114 (st87 hS) tr2 f2
    obtain ⟨hI2, hO2⟩ := zIs_m hI1 b2 (Or.inr rfl)
    have mv1 : zMv V2 79 K a 0 E Qe (V0 (g1 + 1) i) := zMv_congr a3 (b2.1 _ (by decide) (by decide) (by decide)) (b2.1 _ (by decide) (by decide) (by decide)) (b2.1 _ (by decide) (by decide) (by decide))
    rw [b113_10 hS (by rw [pp1']; exact ly1'.1), pp1', kp.2.1, if_neg (by omega), b113_21 hS (by rw [pp1']; exact ly1'.1) hi1, pp1', u1, kp.1 1 (by decide) (by decide), a1]
    simp only [Option.bind_some, zpush9]
    rw [b113_37 hS (by rw [pp1']; exact ly1'.1) hi1, pp1', u2, g1n 2 (by decide) (by decide) V V1 79 a2 (Or.inl rfl), kp.1 2 (by decide) (by decide), b1]
    simp only [Option.bind_some, zpush9]
    rw [b113_53]
    refine c113_a (S := fun op z O => zfo op z (zOe V0 (zSt2 V0 K a pb n op z O) g1 Qe Qw) i.toNat) hg0 hs0 hpb hW hE hm hn ⟨i1, i2⟩ hF htab mv1 b3 ?_ T V2 g n3 _ _ _ hI2 (fun r _ => rfl) (fun op z O h1 h2 => ⟨by rw [hO2, hO1]; exact hO op z O h1 h2, zfo_z h1 _ _⟩)
    intro T V g n3 v5 v6 v7 hI hO
    rw [b113_167 (by omega)]
    refine next (T, V, g, n3, _, _, _, _) ⟨hI, fun op z O h1 h2 => ?_⟩
    show zFo V op z O q2 g Qe Qw = _
    rw [hO op z O h1 h2, zfo_s i1, zFa_stp mv1 b3 h1 O rfl rfl]
    rfl
  · have z2 : zwr V0 q2 0 0 q2 0 = 0 := by rw [zwr_same, if_pos rfl]
    have zpp : zwr V0 q2 0 0 p = V0 p := zwr_ne (by omega)
    refine ⟨⟨hS0, hg0, ⟨?_, ?_, fun x x1 x2 => ?_, fun x x1 x2 x3 => ?_, fun i i1 i2 => ?_⟩, zHx_r T0 _, Or.inl rfl, fun r r1 r2 r3 r4 r5 => zwr_ne r2, fun j hj => ⟨?_, ?_⟩⟩, fun op z O h1 h2 => ?_⟩
    · show 0 ≤ zwr V0 q2 0 0 q2 0 ∧ zwr V0 q2 0 0 q2 0 ≤ n2
      rw [z2]; omega
    · show zwr V0 q2 0 0 q2 0 = _
      rw [z2]
      have hEW : 0 ≤ E * W := Int.mul_nonneg (by omega) (by omega)
      have h1 := (zcnt_r (fun x => zwr V0 q2 0 0 p x ≠ -1) (E * W).toNat).1
      have h2 : ¬ 0 < zcnt (fun x => zwr V0 q2 0 0 p x ≠ -1) (E * W).toNat := fun z => by
        obtain ⟨s, s1, s2⟩ := zcnt_pos.1 z
        rw [zpp] at s2
        exact s2 (hp0 s s1.1 (by omega))
      exact Int.le_antisymm h1 (Int.not_lt.1 h2)
    · show zwr V0 q2 0 0 p x = -1
      have hEW : 0 ≤ E * W := Int.mul_nonneg (by omega) (by omega)
      rw [zpp]; exact hp0 x (by omega) x2
    · have x3 : zwr V0 q2 0 0 p x ≠ -1 := x3
      rw [zpp] at x3
      exact absurd (hp0 x x1 (by omega)) x3
    · have i2 : i < zwr V0 q2 0 0 q2 0 := i2
      omega
    · show zwr V0 q2 0 0 79 j = _
      rw [zwr_ne (by omega)]
    · show zwr V0 q2 0 0 87 j = _
      rw [zwr_ne (by omega)]
    · show zFo (zwr V0 q2 0 0) op z O q2 g2 Qe Qw = z
      unfold zFo
      rw [z2]
      rfl
end CELL
