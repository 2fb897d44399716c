/-! one cell: the next layer -/
def zmr (r : Int) : Prop := r = 79 ∨ r = 85 ∨ r = 86 ∨ r = 87 ∨ r = 93 ∨ r = 94
def zFt (T : zT) (V : zM) (q g p : Int) (T' : zT) (V' : zM) (g' : Int) : Prop := zHx T T' (fun x k => x = q ∧ 1 ≤ k ∧ k ≤ 7) ∧ (g' = g ∨ zsz T ≤ g' + 1) ∧ (∀ r, r < zsz T → r ≠ q → r ≠ p → r < g + 1 ∨ g + 7 < r → ¬ zmr r → V' r = V r) ∧ ∀ j, j ≠ 8 → V' 79 j = V 79 j ∧ V' 87 j = V 87 j
theorem zFt_r {T T' T'' : zT} {V V' V'' : zM} {q p g g' g'' : Int} (h : zFt T V q g p T' V' g') (k : zFr T' V' q g' p T'' V'' g'') (hm : ∀ r, zmr r → V'' r = V' r) : zFt T V q g p T'' V'' g'' := by
  obtain ⟨h1, h2, h3, h4⟩ := h
  obtain ⟨k1, k2, k3⟩ := k
  have := h1.1
  refine ⟨zHx_m (zHx_t h1 k1) (fun x k _ z => z.elim id id), by omega, fun r r1 r2 r3 r4 r5 => ?_, fun j hj => ?_⟩
  · rw [k3 r (by omega) r2 r3 (by omega), h3 r r1 r2 r3 r4 r5]
  · rw [hm 79 (Or.inl rfl), hm 87 (Or.inr (Or.inr (Or.inr (Or.inl rfl))))]; exact h4 j hj
theorem zFt_m {T T' : zT} {V V' V'' : zM} {q p g g' b : Int} (h : zFt T V q g p T' V' g') (k : zMf V' V'' b) (hb : b = 79 ∨ b = 87) : zFt T V q g p T' V'' g' := by
  obtain ⟨h1, h2, h3, h4⟩ := h
  obtain ⟨k1, k2⟩ := k
  refine ⟨h1, h2, fun r r1 r2 r3 r4 r5 => ?_, fun j hj => ?_⟩
  · unfold zmr at r5
    rw [k1 r (by omega) (by omega) (by omega), h3 r r1 r2 r3 r4 (by unfold zmr; omega)]
  · rcases hb with rfl | rfl
    · rw [k2 j hj, k1 87 (by decide) (by decide) (by decide)]; exact h4 j hj
    · rw [k2 j hj, k1 79 (by decide) (by decide) (by decide)]; exact h4 j hj
theorem zTri_congr {V V' : zM} {b : Int} {K Q : Int → Int} {a t nd : Int} {L : Int → List Int} (h : zTri V b K a t nd Q L) (h5 : V' b 5 = V b 5) (hk : ∀ k, 1 ≤ k → k ≤ 5 → V' (b + k) = V (b + k)) : zTri V' b K a t nd Q L := by
  unfold zTri
  rw [h5, hk 1 (by decide) (by decide), hk 2 (by decide) (by decide), hk 3 (by decide) (by decide), hk 4 (by decide) (by decide), hk 5 (by decide) (by decide)]
  exact h
def zIs (T0 : zT) (V0 : zM) (q1 q2 g1 g2 n1 p m E W n : Int) (T : zT) (V : zM) (g n2 : Int) : Prop := zStr T ∧ zGeo0 T q1 q2 g1 g n1 n2 p m ∧ zTo V q2 g p m n2 E W (n + 1) (-1) ∧ zFt T0 V0 q2 g2 p T V g
/-- entries of a layer -/
def zFm (V : zM) (q g n1 E W n : Int) : Prop := (0 ≤ V q 0 ∧ V q 0 ≤ n1) ∧ ∀ i, 0 ≤ i → i < V q 0 → (0 ≤ V (g + 1) i ∧ V (g + 1) i < E) ∧ (0 ≤ V (g + 2) i ∧ V (g + 2) i < W) ∧ zEv n (V (g + 3) i) (V (g + 4) i) (V (g + 5) i) (V (g + 6) i) (V (g + 7) i)
/-- what is taken in at a pair -/
def zIn (V : zM) (g i pb n : Int) (O : Int → Int → Int → Int → Int → Int → Int → Int) (x a b : Int) : Int := O (V (g + 3) i * V (pb + 1) x) (V (g + 4) i + V (pb + 3) x) (if n < 8 then V (g + 5) i * 128 + V (pb + 2) x else V (g + 5) i) (if n < 8 then V (g + 6) i else V (g + 6) i * 128 + V (pb + 2) x) (zor (V (g + 7) i) (V (pb + 4) x)) a b
section STEP
variable {T0 T : zT} {V0 V : zM} {q1 q2 g1 g2 n1 p m E W n g n2 pb : Int}
/-- rows that a step leaves -/
theorem zIs.keep (hg0 : zGeo0 T0 q1 q2 g1 g2 n1 n2 p m) (hs0 : 153 ≤ zsz T0) {n3 : Int} (h : zIs T0 V0 q1 q2 g1 g2 n1 p m E W n T V g n3) : (∀ k, 1 ≤ k → k ≤ 7 → V (g1 + k) = V0 (g1 + k)) ∧ V q1 = V0 q1 ∧ (∀ r, 0 ≤ r → r < 153 → r < 95 ∨ 111 < r → ¬ zmr r → (r < g2 + 1 ∨ g2 + 7 < r) → V r = V0 r) ∧ zsz T0 ≤ zsz T := by
  obtain ⟨-, hg, -, ⟨f1, f2, f3, f4⟩⟩ := h
  obtain ⟨⟨pp1, pp2, pp3⟩, qq, ly1, ly2, arp, pw, mm, ⟨ap1, ap2, ap3⟩, -⟩ := id hg0
  have l1 := ly1.2.2
  have l2 := ly2.2.2
  unfold zap at ap1 ap2 ap3
  refine ⟨fun k k1 k2 => f3 _ (by omega) (by omega) (by omega) (by omega) (by unfold zmr; omega), f3 _ (by omega) (by omega) (by omega) (by omega) (by unfold zmr; omega), fun r r1 r2 r3 r4 r5 => f3 r (by omega) (by omega) (by omega) r5 r4, f1.1⟩
theorem c113b (hg0 : zGeo0 T0 q1 q2 g1 g2 n1 n2 p m) (hs0 : 153 ≤ zsz T0) {n3 i x e w : Int} (hI : zIs T0 V0 q1 q2 g1 g2 n1 p m E W n T V g n3) (hpb : pb = 65 ∨ pb = 71) (hW : V0 87 5 = W) (hE : E ≤ 196 ∧ W ≤ 196) (hm : E * W ≤ m) (hn : 0 ≤ n ∧ n ≤ 15) (hi : 0 ≤ i ∧ i < V0 q1 0) (hF : zFm V0 q1 g1 n1 E W n) (hx : 0 ≤ x ∧ x < 729) (hb : zPb (V0 (pb + 1)) (V0 (pb + 2)) (V0 (pb + 3)) (V0 (pb + 4)) x) (he : 0 ≤ e ∧ e < E) (hw : 0 ≤ w ∧ w < W) :
    ∃ at_ T' V1 V' g' n', zcall 116 [(2, 78), (0, e), (0, w)] T V = some ((0, at_), T', V1) ∧ zcall 117 [(2, 78), (0, i), (0, at_), (2, pb), (0, x), (0, n)] T' V1 = some ((9, 0), T', V') ∧ zIs T0 V0 q1 q2 g1 g2 n1 p m E W n T' V' g' n' ∧ (∀ r, zmr r → V' r = V r) ∧ ∀ op z O Qe Qw, zMo op z → zObs op z (n + 1) O → zFo V' op z O q2 g' Qe Qw = op (zFo V op z O q2 g Qe Qw) (zIn V0 g1 i pb n O x (Qe e) (Qw w)) := by
  have kp := zIs.keep hg0 hs0 hI
  obtain ⟨hS, hg, ht, hf⟩ := id hI
  obtain ⟨⟨pp1, pp2, pp3⟩, qq, ly1, ly2, arp, pw, mm, ⟨ap1, ap2, ap3⟩, -⟩ := id hg
  have l1 := ly1.2.2
  have l2 := ly2.2.2
  have l02 := hg0.2.2.2.1.2.2
  have hp1 : 111 ≤ p := by omega
  have hq2 : 95 ≤ q2 ∧ q2 ≤ 103 := by omega
  have hq12 : q1 ≠ q2 ∧ 95 ≤ q1 ∧ q1 ≤ 103 := by omega
  have hgg : 95 ≤ g := by omega
  have hgg1 : 95 ≤ g1 ∧ g1 + 7 < zsz T := by omega
  have hgg2 : 95 ≤ g2 := by omega
  have hsT : 153 ≤ zsz T := hS.1
  have gp : ∀ k, 1 ≤ k → k ≤ 7 → g1 + k ≠ p ∧ g1 + k ≠ q2 ∧ (g1 + k < g + 1 ∨ g + 7 < g1 + k) := fun k k1 k2 => by
    unfold zap at ap1 ap2
    omega
  have hpb1 : 65 ≤ pb ∧ pb ≤ 71 := by omega
  clear qq pw l1 l2 l02 ap1 ap2 ap3 ly1 ly2
  obtain ⟨at_, T', V1, g', n', e1, s1, s2, s3, s4, s5, s6, s7, s8⟩ := c116 (V := V) hS hg ht (by rw [(hf.2.2.2 5 (by decide)).2, hW]) hE hm he hw
  obtain ⟨x1, x2, x3⟩ := id s4
  have mr1 : ∀ r, zmr r → V1 r = V r := fun r hr => by
    have hr' : 79 ≤ r ∧ r ≤ 94 := by unfold zmr at hr; omega
    exact x3 r (by omega) (by omega) (by omega) (by omega)
  have r1 : ∀ k, 1 ≤ k → k ≤ 7 → V1 (g1 + k) = V0 (g1 + k) := fun k k1 k2 => by
    obtain ⟨y1, y2, y3⟩ := gp k k1 k2
    rw [x3 _ (by omega) y2 y1 y3, kp.1 k k1 k2]
  have rp : ∀ k, 1 ≤ k → k ≤ 4 → V1 (pb + k) = V0 (pb + k) := fun k k1 k2 => by rw [x3 _ (by omega) (by omega) (by omega) (by omega), kp.2.2.1 (pb + k) (by omega) (by omega) (by omega) (by unfold zmr; omega) (by omega)]
  have hv := (hF.2 i hi.1 hi.2).2.2
  obtain ⟨V', e2, u1, u2, u3⟩ := c117 (V := V1) (pb := pb) (i := i) (at_ := at_) (x := x) (n := n) s1 s2 (by rcases hpb with rfl | rfl; exact st65 s1; exact st71 s1) hx hn s3 s5 (by have := hF.1; omega) (by rw [r1 3 (by decide) (by decide), r1 4 (by decide) (by decide), r1 5 (by decide) (by decide), r1 6 (by decide) (by decide), r1 7 (by decide) (by decide)]; exact hv) (by rw [rp 1 (by decide) (by decide), rp 2 (by decide) (by decide), rp 3 (by decide) (by decide), rp 4 (by decide) (by decide)]; exact hb)
  have hgg' : 95 ≤ g' := by
    have := s2.2.2.2.1.2.2.1
    omega
  have hsz := x1.1
  have mr2 : ∀ r, zmr r → V' r = V r := fun r hr => by
    have := mr1 r hr
    have hr' : 79 ≤ r ∧ r ≤ 94 := by unfold zmr at hr; omega
    rw [u2.2.2 r (by omega) (by omega) (by omega) (by omega), this]
  refine ⟨at_, T', V1, V', g', n', e1, e2, ⟨s1, s2, u1, zFt_r hf (zFr_t s4 u2) mr2⟩, mr2, fun op z O Qe Qw h1 h2 => ?_⟩
  rw [u3 op z O Qe Qw h1 h2, s8 op z O Qe Qw h1 h2, s6, s7]
  unfold zIn
  rw [r1 3 (by decide) (by decide), r1 4 (by decide) (by decide), r1 5 (by decide) (by decide), r1 6 (by decide) (by decide), r1 7 (by decide) (by decide), rp 1 (by decide) (by decide), rp 2 (by decide) (by decide), rp 3 (by decide) (by decide), rp 4 (by decide) (by decide)]
end STEP
