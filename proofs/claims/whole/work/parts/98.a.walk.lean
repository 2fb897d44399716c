/-! walking through the cells -/
def zKr (T : zT) (r : Int) : Prop := (0 ≤ r ∧ r < 78) ∨ r = 112 ∨ (120 ≤ r ∧ r < 153) ∨ ∃ k, (k = 0 ∨ k = 1) ∧ 0 ≤ zp T 55 k ∧ zp T 55 k ≤ r ∧ r ≤ zp T 55 k + 26
def zI55 (T : zT) : Prop := ∀ k, k = 0 ∨ k = 1 → 0 ≤ zp T 55 k → 153 ≤ zp T 55 k
def zWs (T : zT) (V : zM) (q1 q2 g1 g2 n1 n2 p m : Int) (K : Int → Int) (a E W : Int) (Qe Qw : Int → Int) (Le Lw : Int → List Int) (n : Int) : Prop := zStr T ∧ zGeo0 T q1 q2 g1 g2 n1 n2 p m ∧ (∀ j, 0 ≤ j → j < m → V p j = -1) ∧ E * W ≤ m ∧ zTri V 79 K a 0 E Qe Le ∧ zTri V 87 K a 1 W Qw Lw ∧ zFm V q1 g1 n1 E W n ∧ zI55 T
def zCx (x k : Int) : Prop := x = 95 ∨ x = 103 ∨ (x = 78 ∧ 2 ≤ k)
section WALK
variable {T : zT} {V : zM} {q1 q2 g1 g2 n1 n2 p m E W n a pb : Int} {K Qe Qw : Int → Int} {Le Lw : Int → List Int}
theorem zKr_g (hs : 153 ≤ zsz T) (hg : zGeo0 T q1 q2 g1 g2 n1 n2 p m) (h5 : zI55 T) {r : Int} (h : zKr T r ∨ (113 ≤ r ∧ r ≤ 119)) : r < zsz T ∧ (r ≠ q1 ∧ r ≠ q2) ∧ r ≠ p ∧ (r < g1 + 1 ∨ g1 + 7 < r) ∧ (r < g2 + 1 ∨ g2 + 7 < r) ∧ ¬ zmr r := by
  obtain ⟨⟨pp1, pp2, pp3⟩, qq, ly1, ly2, arp, pw, mm, ⟨ap1, ap2, ap3⟩, im, -⟩ := hg
  have l1 := ly1.2.2.1
  have l2 := ly2.2.2.1
  have low : (0 ≤ r ∧ r < 78) ∨ (112 ≤ r ∧ r < 153) → r < zsz T ∧ (r ≠ q1 ∧ r ≠ q2) ∧ r ≠ p ∧ (r < g1 + 1 ∨ g1 + 7 < r) ∧ (r < g2 + 1 ∨ g2 + 7 < r) ∧ ¬ zmr r := fun h => by
    clear ap1 ap2 ap3 im
    refine ⟨by omega, by omega, by omega, by omega, by omega, by unfold zmr; omega⟩
  rcases h with (h | h | h | ⟨k, hk, h0, h1, h2⟩) | h
  · exact low (Or.inl h)
  · exact low (by omega)
  · exact low (by omega)
  · have := h5 k hk h0
    obtain ⟨i1, i2, i3, i4⟩ := im k hk h0
    unfold zap at i1 i2 i3
    clear ap1 ap2 ap3 im low
    exact ⟨by omega, by omega, by omega, by omega, by omega, by unfold zmr; omega⟩
  · exact low (by omega)
theorem zWs_step (h : zWs T V q1 q2 g1 g2 n1 n2 p m K a E W Qe Qw Le Lw n) (hpb : pb = 65 ∨ pb = 71) (hn : 0 ≤ n ∧ n ≤ 15) (htab : zTab V pb) :
    ∃ T' V' g' n', zcall 113 [(2, 78), (2, pb), (0, n)] T V = some ((9, 0), T', V') ∧ zWs T' V' q2 q1 g' g1 n' n1 p m K a E W Qe Qw Le Lw (n + 1) ∧ zHx T T' zCx ∧ (∀ r, zKr T r ∨ (113 ≤ r ∧ r ≤ 119) → V' r = V r) ∧ ∀ op z O, zMo op z → zObs op z (n + 1) O → zFo V' op z O q2 g' Qe Qw = zFo V op z (zSt2 V K a pb n op z O) q1 g1 Qe Qw := by
  obtain ⟨hS, hg, hp, hm, t1, t2, hF, h5⟩ := h
  obtain ⟨T', V', g', n', e1, e2, e3, e4, e5, e6, e7⟩ := c113 hS hg hp hpb hn t1 t2 hm hF htab
  obtain ⟨f1, f2, f3, f4⟩ := id e6
  have hs := hS.1
  have l2 := hg.2.2.2.1.2.2.1
  have qq := hg.2.1
  have pw := hg.2.2.2.2.2.1
  have tr : ∀ r, 79 ≤ r → r ≤ 94 → ¬ zmr r → V' r = V r := fun r r1 r2 r3 => f3 r (by omega) (by omega) (by omega) (by omega) r3
  refine ⟨T', V', g', n', e1, ⟨e2, e3, e4, hm, zTri_congr t1 (f4 5 (by decide)).1 (fun k k1 k2 => tr _ (by omega) (by omega) (by unfold zmr; omega)), zTri_congr t2 (f4 5 (by decide)).2 (fun k k1 k2 => tr _ (by omega) (by omega) (by unfold zmr; omega)), e5, fun k hk => ?_⟩, f1, fun r hr => ?_, e7⟩
  · rw [f1.2.2 55 k (by omega) (fun z => by omega)]
    exact h5 k hk
  · obtain ⟨k1, k2, k3, k4, k5, k6⟩ := zKr_g hs hg h5 hr
    exact f3 r k1 k2.2 k3 k5 k6
theorem zWs_gather {g3 n3 j : Int} (h : zWs T V q1 q2 g1 g2 n1 n2 p m K a E W Qe Qw Le Lw n) (hn : 0 ≤ n ∧ n ≤ 16) (h3 : zRw T g3 g3 n3) (h111 : 111 ≤ g3 ∧ g3 ≤ 144) (hj : 0 ≤ j ∧ j < n3) :
    ∃ V', zcall 118 [(2, 78), (2, g3), (0, j)] T V = some ((9, 0), T, V') ∧ zWs T V' q1 q2 g1 g2 n1 n2 p m K a E W Qe Qw Le Lw n ∧ zGa V g3 j V' ∧ zEe V' g3 j n ∧ (∀ op z O, zFo V' op z O q1 g1 Qe Qw = zFo V op z O q1 g1 Qe Qw) ∧ ∀ op z O, zMo op z → zObs op z n O → ∀ e w, zOo V' O g3 j e w = zfo op z (zEnd V K a Qe Qw g1 z O e w) (V q1 0).toNat := by
  obtain ⟨hS, hg, hp, hm, t1, t2, hF, h5⟩ := h
  obtain ⟨V', e1, e2, e3, e4⟩ := c118 hS hg hn t1 t2 hF h3 h111 hj
  have l1 := hg.2.2.1.2.2.1
  have qq := hg.2.1
  have pw := hg.2.2.2.2.2.1
  have kq : V' q1 = V q1 := e2.1 q1 (by omega)
  have kk : ∀ k, 1 ≤ k → k ≤ 7 → V' (g1 + k) = V (g1 + k) := fun k k1 k2 => e2.1 _ (by omega)
  refine ⟨V', e1, ⟨hS, hg, by rw [e2.1 p (by omega)]; exact hp, hm, zTri_congr t1 (by rw [e2.1 79 (by omega)]) (fun k k1 k2 => e2.1 _ (by omega)), zTri_congr t2 (by rw [e2.1 87 (by omega)]) (fun k k1 k2 => e2.1 _ (by omega)), ?_, h5⟩, e2, e3, fun op z O => zFo_congr kq kk op z O Qe Qw, e4⟩
  unfold zFm
  rw [kq, kk 1 (by decide) (by decide), kk 2 (by decide) (by decide), kk 3 (by decide) (by decide), kk 4 (by decide) (by decide), kk 5 (by decide) (by decide), kk 6 (by decide) (by decide), kk 7 (by decide) (by decide)]
  exact hF
theorem zKr_t {T' : zT} (x : zHx T T' zCx) (hs : 153 ≤ zsz T) {r : Int} : zKr T' r ↔ zKr T r := by
  have e : ∀ k, zp T' 55 k = zp T 55 k := fun k => x.2.2 55 k (by omega) (fun z => by unfold zCx at z; omega)
  unfold zKr
  simp only [e]
end WALK
/-- the table of all sets -/
theorem zPT_tab {V : zM} {b : Int} {K : Int → Int} {A : Int → Prop} {mk : Int → Int} (hK : zcok K) (h : zPT V b K A mk) : zTab V b := by
  obtain ⟨h1, h2, h3, h4, h5, h6, h7⟩ := h
  intro x x1 x2 x3
  obtain ⟨a1, a2, a3, a4, -⟩ := h6 x x1 x2 x3
  refine ⟨⟨x3, ?_⟩, a1, ?_, (h7 x x1 x2 x3).1⟩
  · rw [h5 x x1 x2]; exact (zcnt_r _ 128).2
  · rw [a4]; exact zcst_r hK _
theorem zPT_pm {V : zM} {b : Int} {K : Int → Int} {mk : Int → Int} (h : zPT V b K (fun _ => True) mk) : zPm K (V (b + 1)) (V (b + 3)) (V (b + 2)) := by
  obtain ⟨h1, h2, h3, h4, h5, h6, h7⟩ := h
  intro x x1 x2
  refine ⟨?_, fun x3 => ?_⟩
  · rw [h5 x x1 x2, zcnt_pos]
    exact ⟨fun ⟨s, s1, s2⟩ => ⟨s, s1, s2.2⟩, fun ⟨s, s1, s2⟩ => ⟨s, s1, trivial, s2⟩⟩
  · obtain ⟨a1, a2, a3, a4, a5⟩ := h6 x x1 x2 x3
    exact ⟨a1, a3, a4, fun s s1 s2 s3 => a5 s s1 s2 trivial s3⟩
theorem zPT_ct {V : zM} {b : Int} {K : Int → Int} {A : Int → Prop} {mk : Int → Int} (h : zPT V b K A mk) : ∀ p, 0 ≤ p → p < 729 → V (b + 1) p = zct K A p := h.2.2.2.2.1
