/-! walls that may have been: the walk of the class -/
def zAl (K : Int → Int) (N cell st : Int) : Int → Int → Prop := fun r s => zgn K (N - 1 - r) s ∧ (N - 1 - r = cell → zand s st = st)
def zBl (K : Int → Int) (N cell st : Int) (j : Nat) : Int → Int → Prop := fun r s => zAl K N cell st r s ∧ (N - 1 - r = cell → zbt (zmk s) j)
theorem zFo_stp2 {V : zM} {op : Int → Int → Int} {z : Int} {O O' : Int → Int → Int → Int → Int → Int → Int → Int} {q g : Int} {Qe Qw : Int → Int} (h : ∀ i, 0 ≤ i → i < V q 0 → zOe V O g Qe Qw i = zOe V O' g Qe Qw i) : zFo V op z O q g Qe Qw = zFo V op z O' q g Qe Qw := by
  unfold zFo
  exact zfo_congr (fun i i1 i2 => h i i1 (by omega))
theorem zObs_bit (j : Nat) (hj : j < 14) (Z : Int → Int → Prop) (n : Int) : zObs max 0 n (fun _ _ _ _ m e w => zif (zbt m j ∧ Z e w) 1 0) := by
  refine ⟨fun e w => zif_f (fun z => zbt_z z.1), ?_⟩
  intro c k h l m c2 k2 h2 l2 m2 k' h' l' e w _ _ _
  show zif (zbt (zor m m2) j ∧ Z e w) 1 0 = max (zif (zbt m j ∧ Z e w) 1 0) (zif (zbt m2 j ∧ Z e w) 1 0)
  by_cases cz : Z e w
  · by_cases a : zbt m j
    · by_cases b : zbt m2 j
      · rw [zif_t ⟨(zor_bt (by omega)).2 (Or.inl a), cz⟩, zif_t ⟨a, cz⟩, zif_t ⟨b, cz⟩]; decide
      · rw [zif_t ⟨(zor_bt (by omega)).2 (Or.inl a), cz⟩, zif_t ⟨a, cz⟩, zif_f (fun z => b z.1)]; decide
    · by_cases b : zbt m2 j
      · rw [zif_t ⟨(zor_bt (by omega)).2 (Or.inr b), cz⟩, zif_f (fun z => a z.1), zif_t ⟨b, cz⟩]; decide
      · rw [zif_f (fun z => ((zor_bt (by omega)).1 z.1).elim a b), zif_f (fun z => a z.1), zif_f (fun z => b z.1)]; decide
  · rw [zif_f (fun z => cz z.2), zif_f (fun z => cz z.2), zif_f (fun z => cz z.2)]; decide
theorem zObs_pos (Z : Int → Int → Prop) (n : Int) : zObs max 0 n (fun c _ _ _ _ e w => zif (0 < c ∧ Z e w) 1 0) := by
  refine ⟨fun e w => zif_f (fun z => by have := z.1; omega), ?_⟩
  intro c k h l m c2 k2 h2 l2 m2 k' h' l' e w h1 h2 _
  show zif (0 < min 1000000000000 (c + c2) ∧ Z e w) 1 0 = max (zif (0 < c ∧ Z e w) 1 0) (zif (0 < c2 ∧ Z e w) 1 0)
  have p2 := h2.1.1
  have p1 : 0 ≤ c := by
    rcases h1 with h1 | h1
    · have := h1.1; omega
    · have := h1.1; omega
  by_cases cz : Z e w
  · rw [zif_t ⟨by omega, cz⟩, zif_t (p := 0 < c2 ∧ Z e w) ⟨p2, cz⟩]
    by_cases a : 0 < c
    · rw [zif_t ⟨a, cz⟩]; decide
    · rw [zif_f (fun z => a z.1)]; decide
  · rw [zif_f (fun z => cz z.2), zif_f (fun z => cz z.2), zif_f (fun z => cz z.2)]; decide
theorem zor_0 {m : Int} (h : 0 ≤ m ∧ m < 16384) : zor m 0 = m := by
  have r := zor_n (x := m) (y := 0) (k := 14) (by decide) h.1 h.2 (by decide) (by decide)
  refine zbt_ext 14 r.1 r.2 h.1 h.2 (fun j hj => ?_)
  rw [zor_bt (by omega)]
  exact ⟨fun z => z.elim id (fun z => absurd z zbt_z), Or.inl⟩
/-- a table without marks -/
theorem zPT_0 {V : zM} {b : Int} {K : Int → Int} {A : Int → Prop} (h : zPT V b K A (zmq 0)) : ∀ p, 0 ≤ p → p < 729 → 0 < V (b + 1) p → V (b + 4) p = 0 := fun p p1 p2 p3 => by
  obtain ⟨a, g⟩ := h.2.2.2.2.2.2 p p1 p2 p3
  refine zbt_ext 14 a.1 a.2 (by decide) (by decide) (fun j hj => ⟨fun z => ?_, fun z => absurd z zbt_z⟩)
  have := (g (j : Int) (by omega) (by omega)).1 (by rw [zbit_bt, Int.toNat_natCast]; exact z)
  obtain ⟨s, -, -, -, s4⟩ := this
  exact absurd (show zbt 0 ((j : Int)).toNat from s4) zbt_z
theorem zPT_1 {V : zM} {b : Int} {K : Int → Int} {A : Int → Prop} {mk : Int → Int} (h : zPT V b K A mk) {j : Nat} (hj : j < 14) : ∀ p, 0 ≤ p → p < 729 → 0 < V (b + 1) p → (zbt (V (b + 4) p) j ↔ ∃ s, (0 ≤ s ∧ s < 128) ∧ A s ∧ zpr K s = p ∧ zbt (mk s) j) := fun p p1 p2 p3 => by
  have := (h.2.2.2.2.2.2 p p1 p2 p3).2 (j : Int) (by omega) (by omega)
  unfold zbit at this
  rw [Int.toNat_natCast] at this
  exact this
theorem zfound {T : zT} (hS : zStr T) : zRw T 120 120 1 := by
  have h := st120 hS
  obtain ⟨h1, r1, r2, r3, r4, r5, r6, r7⟩ := h
  rw [sp120_1 hS] at r1
  rw [sp120_2 hS] at r2
  rw [sp120_3 hS] at r3
  rw [sp120_4 hS] at r4
  rw [sp120_5 hS] at r5
  rw [sp120_6 hS] at r6
  rw [sp120_7 hS] at r7
  refine ⟨h1, fun k k1 k2 => ?_⟩
  have : k = 1 ∨ k = 2 ∨ k = 3 ∨ k = 4 ∨ k = 5 ∨ k = 6 ∨ k = 7 := by omega
  rcases this with e | e | e | e | e | e | e <;> subst e
  · exact ⟨sp120_1 hS, r1⟩
  · exact ⟨sp120_2 hS, r2⟩
  · exact ⟨sp120_3 hS, r3⟩
  · exact ⟨sp120_4 hS, r4⟩
  · exact ⟨sp120_5 hS, r5⟩
  · exact ⟨sp120_6 hS, r6⟩
  · exact ⟨sp120_7 hS, r7⟩
theorem zWs_congr {T : zT} {V V' : zM} {q1 q2 g1 g2 n1 n2 p m E W n a : Int} {K Qe Qw : Int → Int} {Le Lw : Int → List Int} (h : zWs T V q1 q2 g1 g2 n1 n2 p m K a E W Qe Qw Le Lw n) (hr : ∀ r, r < 71 ∨ 76 < r → V' r = V r) : zWs T V' q1 q2 g1 g2 n1 n2 p m K a E W Qe Qw Le Lw n ∧ ∀ op z O, zFo V' op z O q1 g1 Qe Qw = zFo V op z O q1 g1 Qe Qw := by
  obtain ⟨hS, hg, hp, hm, t1, t2, hF, h5⟩ := h
  have l1 := hg.2.2.1.2.2.1
  have qq := hg.2.1
  have pw := hg.2.2.2.2.2.1
  have kq : V' q1 = V q1 := hr q1 (by omega)
  have kk : ∀ k, 1 ≤ k → k ≤ 7 → V' (g1 + k) = V (g1 + k) := fun k k1 k2 => hr _ (by omega)
  refine ⟨⟨hS, hg, by rw [hr p (by omega)]; exact hp, hm, zTri_congr t1 (by rw [hr 79 (by omega)]) (fun k k1 k2 => hr _ (by omega)), zTri_congr t2 (by rw [hr 87 (by omega)]) (fun k k1 k2 => hr _ (by omega)), ?_, h5⟩, fun op z O => zFo_congr kq kk op z O Qe Qw⟩
  unfold zFm
  rw [kq, kk 1 (by decide) (by decide), kk 2 (by decide) (by decide), kk 3 (by decide) (by decide), kk 4 (by decide) (by decide), kk 5 (by decide) (by decide), kk 6 (by decide) (by decide), kk 7 (by decide) (by decide)]
  exact hF
def zWu (T0 : zT) (V0 : zM) (K : Int → Int) (A : Int → Int → Prop) (B : Nat → Int → Int → Prop) (N cell E W : Int) (Qe Qw : Int → Int) (Le Lw : Int → List Int) (i : Int) (T : zT) (V : zM) : Prop := ∃ q1 q2 g1 g2 n1 n2 p m, zWs T V q1 q2 g1 g2 n1 n2 p m K 1 E W Qe Qw Le Lw i ∧ zHx T0 T zCx ∧ (∀ r, zKr T0 r ∨ (113 ≤ r ∧ r ≤ 119) → ¬ (71 ≤ r ∧ r ≤ 76) → V r = V0 r) ∧ zPL V 71 ∧ zFo V zoc 0 (fun c _ _ _ _ e w => min 1000000000000 (c * zW K 1 A (N - i).toNat e w)) q1 g1 Qe Qw = min 1000000000000 (zW K 1 A N.toNat 0 0) ∧ (0 ≤ cell ∧ cell < N → ∀ j : Nat, j < 14 → (i ≤ cell → (∀ x, 0 ≤ x → x < V q1 0 → ¬ zbt (V (g1 + 7) x) j) ∧ zFo V max 0 (fun c _ _ _ _ e w => zif (0 < c ∧ 0 < zW K 1 (B j) (N - i).toNat e w) 1 0) q1 g1 Qe Qw = zif (0 < zW K 1 (B j) N.toNat 0 0) 1 0) ∧ (cell < i → zFo V max 0 (fun _ _ _ _ m e w => zif (zbt m j ∧ 0 < zW K 1 A (N - i).toNat e w) 1 0) q1 g1 Qe Qw = zif (0 < zW K 1 (B j) N.toNat 0 0) 1 0))
section WALLS
variable {n : Int} {T0 T : zT} {V0 V : zM} {K Qe Qw : Int → Int} {Le Lw : Int → List Int} {N cell st E W i q : Int}
theorem zWu_s (h0 : zJ n T0 V0) (hK : zkc (V0 132) = K) (hN : V0 132 427 = N) (hi : 0 ≤ i ∧ i < N) (hq : q = if i = cell then 1 else 0) (h : zWu T0 V0 K (zAl (V0 132) N cell st) (zBl (V0 132) N cell st) N cell E W Qe Qw Le Lw i T V) : ∃ V1 T2 V2, zcall 127 [(2, 0), (0, i), (0, q), (0, st)] T V = some ((9, 0), T, V1) ∧ zcall 113 [(2, 78), (2, 71), (0, i)] T V1 = some ((9, 0), T2, V2) ∧ zStr T ∧ zStr T2 ∧ zWu T0 V0 K (zAl (V0 132) N cell st) (zBl (V0 132) N cell st) N cell E W Qe Qw Le Lw (i + 1) T2 V2 := by
  have hn := h0.ok.n
  have hs0 : 153 ≤ zsz T0 := h0.str.1
  have hk : zcok K := by rw [← hK]; exact h0.cok
  obtain ⟨q1, q2, g1, g2, n1, n2, p, m, hw, hx, hr, hpl, hc, hmk⟩ := h
  have hS := hw.1
  have low : ∀ r, 0 ≤ r → r < 71 → V r = V0 r := fun r r1 r2 => hr r (Or.inl (Or.inl (by omega))) (by omega)
  have wl := h0.sr.wall (c := i) hi.1 (by omega)
  have w2 : V 2 i = V0 132 (300 + i) := by rw [low 2 (by decide) (by decide)]; exact wl.1
  have w3 : V 3 i = V0 132 (316 + i) := by rw [low 3 (by decide) (by decide)]; exact wl.2
  have wr := h0.ok.wall (c := i) hi.1 (by omega)
  have rd : zRd V K := by rw [← hK]; exact zRd_congr (fun r r1 r2 => low r (by omega) (by omega)) h0.rd
  have hq2 : q = 0 ∨ q = 1 := by
    rw [hq]
    by_cases c : i = cell
    · rw [if_pos c]; exact Or.inr rfl
    · rw [if_neg c]; exact Or.inl rfl
  obtain ⟨r1, T1, V1, a1, a2, a3, a4, a5⟩ := c127 (c := i) (q := q) (st := st) hS hpl rd hk (by omega) (by rw [w2]; exact wr.1) (by rw [w3]; exact wr.2) hq2
  subst a2
  rw [a3] at a1
  clear a3
  obtain ⟨hw1, hF1⟩ := zWs_congr hw a4
  obtain ⟨r, er⟩ : ∃ r, (N - (i + 1)).toNat = r := ⟨_, rfl⟩
  have rr : (N - i).toNat = r + 1 := by omega
  have ri : N - 1 - (r : Int) = i := by omega
  have pt : zPT V1 71 K (zAl (V0 132) N cell st (r : Int)) (zmq q) := zPT_A a5 (fun s s1 s2 => by
    unfold zAl zgn
    rw [ri, w2, w3, hq]
    by_cases c : i = cell
    · rw [if_pos c]; exact ⟨fun z => ⟨z.1, fun _ => z.2 rfl⟩, fun z => ⟨z.1, fun _ => z.2 c⟩⟩
    · rw [if_neg c]; exact ⟨fun z => ⟨z.1, fun y => absurd y c⟩, fun z => ⟨z.1, fun y => absurd y (by decide)⟩⟩)
  obtain ⟨T2, V2, g', n', e1, w1, x1, k1, f1⟩ := zWs_step hw1 (Or.inr rfl) (by omega) (zPT_tab hk pt)
  have hFm := hw1.2.2.2.2.2.2.1
  have kq : V1 q1 = V q1 := a4 q1 (by have := hw.2.1.2.1; omega)
  have kg : V1 (g1 + 7) = V (g1 + 7) := a4 _ (by have := hw.2.1.2.2.1.2.2.1; have := hw.2.1.2.1; omega)
  refine ⟨V1, T2, V2, a1, e1, hS, w1.1, q2, q1, g', g1, n', n1, p, m, w1, zHx_m (zHx_t hx x1) (fun a k _ z => z.elim id id), fun x hx1 hx2 => ?_, ?_, ?_, fun hcell j hj => ⟨fun hle => ⟨?_, ?_⟩, fun hlt => ?_⟩⟩
  · have hk1 : zKr T x ∨ (113 ≤ x ∧ x ≤ 119) := hx1.elim (fun z => Or.inl ((zKr_t hx hs0).2 z)) Or.inr
    rw [k1 x hk1, a4 x (by omega), hr x hx1 hx2]
  · exact zPL_congr (fun d d1 d2 => k1 _ (Or.inl (Or.inl (by omega)))) pt.1
  · rw [er]
    have s1 := zFo_stp (V := V1) (op := zoc) (z := 0) (O := zSt2 V1 K 1 71 i zoc 0 (fun c _ _ _ _ e w => min 1000000000000 (c * zW K 1 (zAl (V0 132) N cell st) r e w))) (O' := fun c _ _ _ _ e w => min 1000000000000 (c * zW K 1 (zAl (V0 132) N cell st) (r + 1) e w)) (q := q1) (g := g1) (Qe := Qe) (Qw := Qw) hFm (fun c k h l m e w v => zSt2_cnt (A := zAl (V0 132) N cell st) (zPT_ct pt) v)
    have s2 := f1 zoc 0 (fun c _ _ _ _ e w => min 1000000000000 (c * zW K 1 (zAl (V0 132) N cell st) r e w)) zoc_mo (zObs_cnt K 1 (zAl (V0 132) N cell st) r (i + 1))
    rw [rr, ← hF1] at hc
    exact s2.trans (s1.trans hc)
  · -- before the cell that is asked for: no marks
    have old := ((hmk hcell j hj).1 (by omega)).1
    rw [hq, if_neg (by omega)] at pt
    have z0 := zPT_0 pt
    have s2 := f1 max 0 (fun _ _ _ _ m e w => zif (zbt m j ∧ True) 1 0) (zomax_mo 0) (zObs_bit j hj (fun _ _ => True) (i + 1))
    have s1 := zFo_stp2 (V := V1) (op := max) (z := 0) (O := zSt2 V1 K 1 71 i max 0 (fun _ _ _ _ m e w => zif (zbt m j ∧ True) 1 0)) (O' := fun _ _ _ _ _ _ _ => 0) (q := q1) (g := g1) (Qe := Qe) (Qw := Qw) (fun x x1 x2 => by
      unfold zOe
      have nb : ¬ zbt (V1 (g1 + 7) x) j := by rw [kg]; exact old x x1 (by rw [← kq]; exact x2)
      have v := (hFm.2 x x1 x2).2.2.2.2.2
      have := zStp_max (K := K) (a := 1) (wy := V1 (71 + 1)) (ct := V1 (71 + 3)) (le := V1 (71 + 2)) (sh := V1 (71 + 4)) (n := i) (O := fun _ _ _ _ m e w => zif (zbt m j ∧ True) 1 0) (q := fun _ _ => False) (c := V1 (g1 + 3) x) (k := V1 (g1 + 4) x) (h := V1 (g1 + 5) x) (l := V1 (g1 + 6) x) (m := V1 (g1 + 7) x) (e := Qe (V1 (g1 + 1) x)) (w := Qw (V1 (g1 + 2) x)) (fun y z y1 y2 z1 z2 d0 d1 wy => by
        show zif (zbt (zor (V1 (g1 + 7) x) (V1 (71 + 4) (y * 27 + z))) j ∧ True) 1 0 = zif False 1 0
        rw [z0 (y * 27 + z) (by omega) (by omega) wy, zor_0 v, zif_f (fun z => nb z.1), zif_f id])
      show zStp K 1 max 0 (V1 (71 + 1)) (V1 (71 + 3)) (V1 (71 + 2)) (V1 (71 + 4)) i (fun _ _ _ _ m e w => zif (zbt m j ∧ True) 1 0) (V1 (g1 + 3) x) (V1 (g1 + 4) x) (V1 (g1 + 5) x) (V1 (g1 + 6) x) (V1 (g1 + 7) x) (Qe (V1 (g1 + 1) x)) (Qw (V1 (g1 + 2) x)) = 0
      rw [this]
      exact zif_f (fun ⟨_, _, z⟩ => z.2.2.2))
    have s3 : zFo V1 max 0 (fun _ _ _ _ _ _ _ => 0) q1 g1 Qe Qw = 0 := by
      unfold zFo
      exact zfo_zz (zomax_mo 0) (fun _ _ _ => rfl)
    have s4 : zfo max 0 (fun x => zif (zbt (V2 (g' + 7) x) j ∧ True) 1 0) (V2 q2 0).toNat = 0 := s2.trans (s1.trans s3)
    rw [zfo_max] at s4
    intro x x1 x2 hb
    rw [zif_t ⟨x, ⟨x1, by omega⟩, hb, trivial⟩] at s4
    exact absurd s4 (by decide)
  · -- before it: walls that will have the mark
    rw [er]
    have hne : ¬ i = cell := by omega
    have ob := ((hmk hcell j hj).1 (by omega)).2
    have hw2 : ∀ p, 0 ≤ p → p < 729 → V1 (71 + 1) p = zct K (zBl (V0 132) N cell st j (r : Int)) p := fun p p1 p2 => by
      rw [zPT_ct pt p p1 p2]
      exact zct_congr (fun s s1 s2 => ⟨fun z => ⟨z, fun y => absurd (by omega) hne⟩, fun z => z.1⟩)
    have s1 := zFo_stp (V := V1) (op := max) (z := 0) (O := zSt2 V1 K 1 71 i max 0 (fun c _ _ _ _ e w => zif (0 < c ∧ 0 < zW K 1 (zBl (V0 132) N cell st j) r e w) 1 0)) (O' := fun c _ _ _ _ e w => zif (0 < c ∧ 0 < zW K 1 (zBl (V0 132) N cell st j) (r + 1) e w) 1 0) (q := q1) (g := g1) (Qe := Qe) (Qw := Qw) hFm (fun c k h l m e w v => zStp_b3 (B := zBl (V0 132) N cell st j) hw2 v.1.1)
    have s2 := f1 max 0 (fun c _ _ _ _ e w => zif (0 < c ∧ 0 < zW K 1 (zBl (V0 132) N cell st j) r e w) 1 0) (zomax_mo 0) (zObs_pos (fun e w => 0 < zW K 1 (zBl (V0 132) N cell st j) r e w) (i + 1))
    rw [rr, ← hF1] at ob
    exact s2.trans (s1.trans ob)
  · rw [er]
    have s2 := f1 max 0 (fun _ _ _ _ m e w => zif (zbt m j ∧ 0 < zW K 1 (zAl (V0 132) N cell st) r e w) 1 0) (zomax_mo 0) (zObs_bit j hj (fun e w => 0 < zW K 1 (zAl (V0 132) N cell st) r e w) (i + 1))
    refine s2.trans ?_
    by_cases ce : i = cell
    · -- the cell itself
      rw [hq, if_pos ce] at pt
      have old := ((hmk hcell j hj).1 (by omega)).1
      have ob := ((hmk hcell j hj).1 (by omega)).2
      rw [rr, ← hF1] at ob
      refine Eq.trans ?_ ob
      refine zFo_stp2 (fun x x1 x2 => ?_)
      have nb : ¬ zbt (V1 (g1 + 7) x) j := by rw [kg]; exact old x x1 (by rw [← kq]; exact x2)
      have v := (hFm.2 x x1 x2).2.2
      unfold zOe
      refine zStp_b2 (A := zAl (V0 132) N cell st) (B := zBl (V0 132) N cell st j) (mk := zmq 1) (zPT_ct pt) (fun p p1 p2 p3 => ?_) (fun s => ?_) (fun c s c1 c2 _ _ => ?_) v.1.1
      · rw [zor_bt (by omega), ← zPT_1 pt hj p p1 p2 p3]
        exact ⟨fun z => z.elim (fun z => absurd z nb) id, Or.inr⟩
      · exact ⟨fun z => ⟨z.1, z.2 (by omega)⟩, fun z => ⟨z.1, fun _ => z.2⟩⟩
      · exact ⟨fun z => ⟨z, fun y => by omega⟩, fun z => z.1⟩
    · -- behind it
      rw [hq, if_neg ce] at pt
      have z0 := zPT_0 pt
      have ob := (hmk hcell j hj).2 (by omega)
      rw [rr, ← hF1] at ob
      refine Eq.trans ?_ ob
      refine zFo_stp hFm (fun c k h l m e w v => ?_)
      exact zStp_b1 (A := zAl (V0 132) N cell st) (zPT_ct pt) (fun p p1 p2 p3 => by rw [z0 p p1 p2 p3, zor_0 v.2.2.2])
end WALLS
