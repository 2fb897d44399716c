/-! the loops of a step -/
noncomputable def zFb (V0 M : zM) (g1 i pb n : Int) (Qe Qw : Int → Int) (z : Int) (O : Int → Int → Int → Int → Int → Int → Int → Int) (a b : Int) : Int := zif (0 < V0 (pb + 1) (M 85 a * 27 + M 93 b)) (zIn V0 g1 i pb n O (M 85 a * 27 + M 93 b) (Qe (M 86 a)) (Qw (M 94 b))) z
noncomputable def zFa (V0 M : zM) (g1 i pb n : Int) (Qe Qw : Int → Int) (op : Int → Int → Int) (z : Int) (O : Int → Int → Int → Int → Int → Int → Int → Int) (a : Int) : Int := zfo op z (zFb V0 M g1 i pb n Qe Qw z O a) (M 87 8).toNat
def zTab (V0 : zM) (pb : Int) : Prop := ∀ x, 0 ≤ x → x < 729 → 0 < V0 (pb + 1) x → zPb (V0 (pb + 1)) (V0 (pb + 2)) (V0 (pb + 3)) (V0 (pb + 4)) x
section LOOPS
variable {T0 : zT} {V0 M : zM} {q1 q2 g1 g2 n1 p m E W n n2 pb i a e0 w0 : Int} {K Qe Qw : Int → Int} {S : (Int → Int → Int) → Int → (Int → Int → Int → Int → Int → Int → Int → Int) → Int} {Post : zV → zT → zM → Prop}
theorem c113_b (hg0 : zGeo0 T0 q1 q2 g1 g2 n1 n2 p m) (hs0 : 153 ≤ zsz T0) (hpb : pb = 65 ∨ pb = 71) (hW : V0 87 5 = W) (hE : E ≤ 196 ∧ W ≤ 196) (hm : E * W ≤ m) (hn : 0 ≤ n ∧ n ≤ 15) (hi : 0 ≤ i ∧ i < V0 q1 0) (hF : zFm V0 q1 g1 n1 E W n) (htab : zTab V0 pb) (h79 : zMv M 79 K a 0 E Qe e0) (h87 : zMv M 87 K a 1 W Qw w0) {x4 : Int} (h4 : 0 ≤ x4 ∧ x4 < M 79 8)
    (kont : ∀ T V g n3 v6 v7, zIs T0 V0 q1 q2 g1 g2 n1 p m E W n T V g n3 → (∀ r, zmr r → V r = M r) → (∀ op z O, zMo op z → zObs op z (n + 1) O → zFo V op z O q2 g Qe Qw = op (S op z O) (zfo op z (zFb V0 M g1 i pb n Qe Qw z O x4) (M 87 8).toNat)) → zwp (ev 113 161 [(2, 78), (2, pb), (0, n), (0, i), (0, x4), (0, M 87 8), v6, v7] [] T V) Post) :
    ∀ T V g n3 v6 v7, zIs T0 V0 q1 q2 g1 g2 n1 p m E W n T V g n3 → (∀ r, zmr r → V r = M r) → (∀ op z O, zMo op z → zObs op z (n + 1) O → zFo V op z O q2 g Qe Qw = S op z O ∧ op (S op z O) z = S op z O) → zwp (ev 113 71 [(2, 78), (2, pb), (0, n), (0, i), (0, x4), (0, 0), v6, v7] [] T V) Post := by
  intro T V g n3 v6 v7 hI hM hO
  have m1 := h79.1
  have m2 := h87.1
  have hpb1 : 65 ≤ pb ∧ pb ≤ 71 := by omega
  have key := zup (α := zT × zM × Int × Int × zV × zV) (fun b s => zIs T0 V0 q1 q2 g1 g2 n1 p m E W n s.1 s.2.1 s.2.2.1 s.2.2.2.1 ∧ (∀ r, zmr r → s.2.1 r = M r) ∧ ∀ op z O, zMo op z → zObs op z (n + 1) O → zFo s.2.1 op z O q2 s.2.2.1 Qe Qw = op (S op z O) (zfo op z (zFb V0 M g1 i pb n Qe Qw z O x4) b.toNat)) (fun b s => zwp (ev 113 71 [(2, 78), (2, pb), (0, n), (0, i), (0, x4), (0, b), s.2.2.2.2.1, s.2.2.2.2.2] [] s.1 s.2.1) Post) (lo := 0) (hi := M 87 8) m2.1 ?_ ?_ (T, V, g, n3, v6, v7) ⟨hI, hM, fun op z O h1 h2 => by
    have := hO op z O h1 h2
    show zFo V op z O q2 g Qe Qw = op (S op z O) z
    rw [this.2, this.1]⟩
  · exact key
  · rintro ⟨T, V, g, n3, v6, v7⟩ ⟨hI, hM, hO⟩
    show zwp (ev 113 71 [(2, 78), (2, pb), (0, n), (0, i), (0, x4), (0, M 87 8), v6, v7] [] T V) Post
    have r87 : V 87 = M 87 := hM 87 (by unfold zmr; omega)
    rw [b113_71 hI.1, if_pos (by rw [r87]; omega)]
    exact kont T V g n3 v6 v7 hI hM hO
  · rintro b ⟨T, V, g, n3, v6, v7⟩ b1 b2 ⟨hI, hM, hO⟩ next
    show zwp (ev 113 71 [(2, 78), (2, pb), (0, n), (0, i), (0, x4), (0, b), v6, v7] [] T V) Post
    have r85 : V 85 = M 85 := hM 85 (by unfold zmr; omega)
    have r86 : V 86 = M 86 := hM 86 (by unfold zmr; omega)
    have r87 : V 87 = M 87 := hM 87 (by unfold zmr; omega)
    have r93 : V 93 = M 93 := hM 93 (by unfold zmr; omega)
    have r94 : V 94 = M 94 := hM 94 (by unfold zmr; omega)
    have ka := h79.2.1 x4 h4.1 h4.2
    have kb := h87.2.1 b b1 b2
    have ka1 : 0 ≤ M 85 x4 ∧ M 85 x4 < 27 := ka.1
    have kb1 : 0 ≤ M 93 b ∧ M 93 b < 27 := kb.1
    have ka2 : 0 ≤ M 86 x4 ∧ M 86 x4 < E := ka.2.1
    have kb2 : 0 ≤ M 94 b ∧ M 94 b < W := kb.2.1
    have kp := zIs.keep hg0 hs0 hI
    have l02 := hg0.2.2.2.1.2.2.1
    have qq := hg0.2.1
    have hgg2 : 95 ≤ g2 := by omega
    have rp : V (pb + 1) = V0 (pb + 1) := kp.2.2.1 (pb + 1) (by omega) (by omega) (by omega) (by unfold zmr; omega) (by omega)
    have hxx : 0 ≤ M 85 x4 * 27 + M 93 b ∧ M 85 x4 * 27 + M 93 b < 729 := by omega
    have pt : zPairT T pb := by rcases hpb with rfl | rfl; exact st65 hI.1; exact st71 hI.1
    rw [b113_71 hI.1, if_neg (by rw [r87]; omega), b113_83 hI.1 (by omega) (by omega), r85, r93, c22 (by omega) (by omega)]
    simp only [Option.bind_some, zpush0]
    rw [b113_106 pt hxx, rp]
    by_cases c : V0 (pb + 1) (M 85 x4 * 27 + M 93 b) ≤ 0
    · rw [if_pos c, b113_155 (by omega)]
      refine next (T, V, g, n3, _, _) ⟨hI, hM, fun op z O h1 h2 => ?_⟩
      rw [zfo_s b1, show zFb V0 M g1 i pb n Qe Qw z O x4 b = z from zif_f (by omega), zfo_z h1]
      exact hO op z O h1 h2
    · have c' : 0 < V0 (pb + 1) (M 85 x4 * 27 + M 93 b) := by omega
      obtain ⟨at_, T', V1, V', g', n', y1, y2, y3, y4, y5⟩ := c113b hg0 hs0 hI hpb hW hE hm hn hi hF hxx (htab _ hxx.1 hxx.2 c') ka2 kb2
      rw [if_neg c, b113_118 hI.1 (by omega) (by omega), r86, r94, y1]
      simp only [Option.bind_some, zpush0]
      rw [b113_142 y3.1, y2]
      simp only [Option.bind_some, zpush9]
      rw [b113_155 (by omega)]
      refine next (T', V', g', n', _, _) ⟨y3, fun r hr => (y4 r hr).trans (hM r hr), fun op z O h1 h2 => ?_⟩
      show zFo V' op z O q2 g' Qe Qw = _
      rw [y5 op z O Qe Qw h1 h2, zfo_s b1, show zFb V0 M g1 i pb n Qe Qw z O x4 b = zIn V0 g1 i pb n O (M 85 x4 * 27 + M 93 b) (Qe (M 86 x4)) (Qw (M 94 b)) from zif_t c', ← h1.1]
      rw [show zFo V op z O q2 g Qe Qw = _ from hO op z O h1 h2]
theorem c113_a (hg0 : zGeo0 T0 q1 q2 g1 g2 n1 n2 p m) (hs0 : 153 ≤ zsz T0) (hpb : pb = 65 ∨ pb = 71) (hW : V0 87 5 = W) (hE : E ≤ 196 ∧ W ≤ 196) (hm : E * W ≤ m) (hn : 0 ≤ n ∧ n ≤ 15) (hi : 0 ≤ i ∧ i < V0 q1 0) (hF : zFm V0 q1 g1 n1 E W n) (htab : zTab V0 pb) (h79 : zMv M 79 K a 0 E Qe e0) (h87 : zMv M 87 K a 1 W Qw w0)
    (kont : ∀ T V g n3 v5 v6 v7, zIs T0 V0 q1 q2 g1 g2 n1 p m E W n T V g n3 → (∀ op z O, zMo op z → zObs op z (n + 1) O → zFo V op z O q2 g Qe Qw = op (S op z O) (zfo op z (zFa V0 M g1 i pb n Qe Qw op z O) (M 79 8).toNat)) → zwp (ev 113 167 [(2, 78), (2, pb), (0, n), (0, i), (0, M 79 8), v5, v6, v7] [] T V) Post) :
    ∀ T V g n3 v5 v6 v7, zIs T0 V0 q1 q2 g1 g2 n1 p m E W n T V g n3 → (∀ r, zmr r → V r = M r) → (∀ op z O, zMo op z → zObs op z (n + 1) O → zFo V op z O q2 g Qe Qw = S op z O ∧ op (S op z O) z = S op z O) → zwp (ev 113 56 [(2, 78), (2, pb), (0, n), (0, i), (0, 0), v5, v6, v7] [] T V) Post := by
  intro T V g n3 v5 v6 v7 hI hM hO
  have m1 := h79.1
  have key := zup (α := zT × zM × Int × Int × zV × zV × zV) (fun x s => zIs T0 V0 q1 q2 g1 g2 n1 p m E W n s.1 s.2.1 s.2.2.1 s.2.2.2.1 ∧ (∀ r, zmr r → s.2.1 r = M r) ∧ ∀ op z O, zMo op z → zObs op z (n + 1) O → zFo s.2.1 op z O q2 s.2.2.1 Qe Qw = op (S op z O) (zfo op z (zFa V0 M g1 i pb n Qe Qw op z O) x.toNat)) (fun x s => zwp (ev 113 56 [(2, 78), (2, pb), (0, n), (0, i), (0, x), s.2.2.2.2.1, s.2.2.2.2.2.1, s.2.2.2.2.2.2] [] s.1 s.2.1) Post) (lo := 0) (hi := M 79 8) m1.1 ?_ ?_ (T, V, g, n3, v5, v6, v7) ⟨hI, hM, fun op z O h1 h2 => by
    have := hO op z O h1 h2
    show zFo V op z O q2 g Qe Qw = op (S op z O) z
    rw [this.2, this.1]⟩
  · exact key
  · rintro ⟨T, V, g, n3, v5, v6, v7⟩ ⟨hI, hM, hO⟩
    show zwp (ev 113 56 [(2, 78), (2, pb), (0, n), (0, i), (0, M 79 8), v5, v6, v7] [] T V) Post
    have r79 : V 79 = M 79 := hM 79 (by unfold zmr; omega)
    rw [b113_56 hI.1, if_pos (by rw [r79]; omega)]
    exact kont T V g n3 v5 v6 v7 hI hO
  · rintro x ⟨T, V, g, n3, v5, v6, v7⟩ x1 x2 ⟨hI, hM, hO⟩ next
    show zwp (ev 113 56 [(2, 78), (2, pb), (0, n), (0, i), (0, x), v5, v6, v7] [] T V) Post
    have r79 : V 79 = M 79 := hM 79 (by unfold zmr; omega)
    rw [b113_56 hI.1, if_neg (by rw [r79]; omega), b113_68]
    refine c113_b (S := fun op z O => op (S op z O) (zfo op z (zFa V0 M g1 i pb n Qe Qw op z O) x.toNat)) hg0 hs0 hpb hW hE hm hn hi hF htab h79 h87 ⟨x1, x2⟩ ?_ T V g n3 v6 v7 hI hM (fun op z O h1 h2 => ⟨hO op z O h1 h2, by rw [h1.1, zfo_z h1]⟩)
    intro T V g n3 v6 v7 hI hM hO
    rw [b113_161 (by omega)]
    refine next (T, V, g, n3, _, _, _) ⟨hI, hM, fun op z O h1 h2 => ?_⟩
    show zFo V op z O q2 g Qe Qw = _
    rw [hO op z O h1 h2, zfo_s x1, ← h1.1]
    rfl
/-- all moves of an entry -/
theorem zFa_stp (h79 : zMv M 79 K a 0 E Qe e0) (h87 : zMv M 87 K a 1 W Qw w0) {op : Int → Int → Int} {z : Int} (hm : zMo op z) (O : Int → Int → Int → Int → Int → Int → Int → Int) (i1 : V0 (g1 + 1) i = e0) (i2 : V0 (g1 + 2) i = w0) : zfo op z (zFa V0 M g1 i pb n Qe Qw op z O) (M 79 8).toNat = zOe V0 (zStp K a op z (V0 (pb + 1)) (V0 (pb + 3)) (V0 (pb + 2)) (V0 (pb + 4)) n O) g1 Qe Qw i := by
  have s1 : ∀ x y : Int, 0 ≤ x → x < (M 79 8).toNat → zFa V0 M g1 i pb n Qe Qw op z O x = (fun x => zfo op z (fun y => zif (zdel K a 1 (Qw w0) y ≠ -1) (zif (0 < V0 (pb + 1) (x * 27 + y)) (zIn V0 g1 i pb n O (x * 27 + y) (zdel K a 0 (Qe e0) x) (zdel K a 1 (Qw w0) y)) z) z) 27) (M (79 + 6) x) := fun x y x1 x2 => by
    have ka := h79.2.1 x x1 (by omega)
    unfold zFa
    have e := zMv_fo hm h87 (fun y => zif (0 < V0 (pb + 1) (M (79 + 6) x * 27 + y)) (zIn V0 g1 i pb n O (M (79 + 6) x * 27 + y) (zdel K a 0 (Qe e0) (M (79 + 6) x)) (zdel K a 1 (Qw w0) y)) z)
    refine Eq.trans (zfo_congr fun b b1 b2 => ?_) e
    have kb := h87.2.1 b b1 (by omega)
    unfold zFb
    show _ = zif (0 < V0 (pb + 1) (M 85 x * 27 + M 93 b)) (zIn V0 g1 i pb n O (M 85 x * 27 + M 93 b) (zdel K a 0 (Qe e0) (M 85 x)) (zdel K a 1 (Qw w0) (M 93 b))) z
    rw [show zdel K a 0 (Qe e0) (M 85 x) = Qe (M 86 x) from ka.2.2.1, show zdel K a 1 (Qw w0) (M 93 b) = Qw (M 94 b) from kb.2.2.1]
  rw [zfo_congr (fun x x1 x2 => s1 x 0 x1 x2)]
  refine Eq.trans (zMv_fo hm h79 (fun x => zfo op z (fun y => zif (zdel K a 1 (Qw w0) y ≠ -1) (zif (0 < V0 (pb + 1) (x * 27 + y)) (zIn V0 g1 i pb n O (x * 27 + y) (zdel K a 0 (Qe e0) x) (zdel K a 1 (Qw w0) y)) z) z) 27)) ?_
  unfold zOe zStp zIn
  rw [i1, i2]
end LOOPS
