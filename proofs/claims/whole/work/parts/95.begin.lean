/-! the first layer -/
section BEGIN
variable {T : zT} {V : zM} {q1 q2 g1 g2 n1 n2 p m E W : Int}
theorem zGeo0_p {r : Int} (h : zGeo0 T q1 q2 g1 g2 n1 n2 p m) (hs : 153 ≤ zsz T) (hr : m < r ∧ r ≤ 38416) : zGeo0 (zqw (zn T 0 (min (2 * r) 38416)) 78 4 (zsz T)) q1 q2 g1 g2 n1 n2 (zsz T) (min (2 * r) 38416) := by
  obtain ⟨a1, a2, a3, a4, a5, a6, a7, a9, a10, a11, a12, a13⟩ := h
  have x1 := zHx_n T 0 (min (2 * r) 38416) (fun _ _ => False)
  have x2 := zHx_q (zn T 0 (min (2 * r) 38416)) 78 4 (zsz T)
  have x := zHx_t x1 x2
  have pk : ∀ y k, y < zsz T → ¬ (y = 78 ∧ k = 4) → zp (zqw (zn T 0 (min (2 * r) 38416)) 78 4 (zsz T)) y k = zp T y k := fun y k y1 y2 => x.2.2 y k y1 (fun z => z.elim id y2)
  have l1 := a3.2.2
  have l2 := a4.2.2
  refine ⟨⟨?_, ?_, ?_⟩, a2, ?_, ?_, zAr_x x2 (zAr_n T 0 _), Or.inr hs, by omega, ?_, fun k hk => ?_, ?_, ?_, ?_⟩
  · rw [pk 78 2 (by omega) (by omega)]; exact a1.1
  · rw [pk 78 3 (by omega) (by omega)]; exact a1.2.1
  · rw [zp_q, if_pos ⟨rfl, rfl⟩]
  · exact zLy_of (zRw_x (zLy_R a3) x (fun k z => by rcases z with z | z; exact z; omega)) a3.2.2.1 a3.2.2.2.2
  · exact zLy_of (zRw_x (zLy_R a4) x (fun k z => by rcases z with z | z; exact z; omega)) a4.2.2.1 a4.2.2.2.2
  · exact ⟨a9.1, Or.inl (by omega), Or.inl (by omega)⟩
  · rw [pk 55 k (by omega) (by omega)]
    intro h0
    obtain ⟨c1, c2, c3, c4⟩ := a10 k hk h0
    refine ⟨c1, c2, Or.inr (by omega), ?_⟩
    rw [zsz_q, zsz_n]; omega
  · rw [pk 55 0 (by omega) (by omega), pk 55 1 (by omega) (by omega)]; exact a11
  · rw [pk 55 0 (by omega) (by omega), pk 55 1 (by omega) (by omega), zsl_q, zsl_n]
    have hm : m ≠ 38416 := by omega
    rw [if_neg hm] at a12
    have e : ((min (2 * r) 38416).toNat : Int) = min (2 * r) 38416 := Int.toNat_of_nonneg (by omega)
    rw [Int.natCast_add, e]
    by_cases c : min (2 * r) 38416 = 38416
    · rw [if_pos c]; omega
    · rw [if_neg c]; omega
  · rw [pk 55 0 (by omega) (by omega), pk 55 1 (by omega) (by omega), zsz_q, zsz_n]; omega
/-- an empty entry at the start -/
def zBg (T : zT) (V : zM) (q g p : Int) (T' : zT) (V' : zM) (p' : Int) : Prop := zHx T T' (fun x k => x = 78 ∧ k = 4) ∧ (p' = p ∨ zsz T ≤ p') ∧ ∀ r, r < zsz T → r ≠ q → r < g + 1 ∨ g + 7 < r → V' r = V r
theorem c106t (hS : zStr T) (hg : zGeo0 T q1 q2 g1 g2 n1 n2 p m) {x1 : Int} : ∃ V', ev 106 47 [(2, 78), (0, x1), (9, 0)] [] T V = some ((9, 0), T, V') ∧ (∀ r, r < zsz T → r ≠ q1 → r < g1 + 1 ∨ g1 + 7 < r → V' r = V r) ∧ V' q1 0 = 1 ∧ V' (g1 + 1) 0 = 0 ∧ V' (g1 + 2) 0 = 0 ∧ V' (g1 + 3) 0 = 1 ∧ V' (g1 + 4) 0 = 0 ∧ V' (g1 + 5) 0 = 0 ∧ V' (g1 + 6) 0 = 0 ∧ V' (g1 + 7) 0 = 0 := by
  obtain ⟨⟨pp1, pp2, pp3⟩, qq, ly1, ly2, arp, pw, mm, ⟨ap1, ap2, ap3⟩, -⟩ := id hg
  have l1 := ly1.2.2
  have v0 : zwr V q1 0 0 q1 0 = 0 := by rw [zwr_same, if_pos rfl]
  obtain ⟨T', V1, g', n', e1, o⟩ := c107 (V := zwr V q1 0 0) (e := 0) (w := 0) (zLy_R ly1) (by omega) (by rw [v0]; omega) l1.2.2
  obtain ⟨o1, o2, o3, o4, o5, o6, o7, o8, o9, o10, o11, o12, o13, o14⟩ := o
  rw [v0] at e1 o2 o4 o6 o7 o8 o9 o10 o11 o12 o13 o14
  rcases o4 with ⟨rfl, rfl, rfl⟩ | o4
  · have l2 := ly2.2.2
    have r1 := zLy_R ly1
    obtain ⟨V2, e2, w1, w2, w3, w4, w5, w6⟩ := c112 (V := V1) (j := 0) (m := 1) (p := 0) (f := 0) (r := 0) (mk := 0) r1 (by omega) (by rw [o10]; omega)
    have ch : zCh (V1 (g' + 4) 0) (V1 (g' + 5) 0) (V1 (g' + 6) 0) 0 0 0 := Or.inl (by rw [o11]; decide)
    obtain ⟨w7, w8, w9⟩ := w5 ch
    refine ⟨V2, ?_, fun r h0 h1 h2 => ?_, ?_, ?_, ?_, ?_, w7, w8, w9, ?_⟩
    · rw [b106_47 hS (by rw [pp1]; exact ly1.1), pp1, e1]
      simp only [Option.bind_some, zpush0]
      rw [b106_64 hS (by rw [pp1]; exact ly1.1), pp1, e2]
      simp only [Option.bind_some, zpush9]
      rw [b106_78]
    · rw [w1 r (by omega), o5 r h0 h1 h2, zwr_ne h1]
    · rw [w1 q1 (by omega), o6, if_pos rfl]; rfl
    · rw [w1 (g' + 1) (by omega), o8]
    · rw [w1 (g' + 2) (by omega), o9]
    · rw [w3, o10]; decide
    · rw [w4, o14]; decide
  · omega
theorem c106 (hS : zStr T) (hg : zGeo0 T q1 q2 g1 g2 n1 n2 p m) (hp0 : ∀ j, 0 ≤ j → j < m → V p j = -1) (hE : V 79 5 = E ∧ 1 ≤ E ∧ E ≤ 196) (hW : V 87 5 = W ∧ 1 ≤ W ∧ W ≤ 196) :
    ∃ T' V' p' m', zcall 106 [(2, 78)] T V = some ((9, 0), T', V') ∧ zStr T' ∧ zGeo0 T' q1 q2 g1 g2 n1 n2 p' m' ∧ E * W ≤ m' ∧ (∀ j, 0 ≤ j → j < m' → V' p' j = -1) ∧ zBg T V q1 g1 p T' V' p' ∧ zFm V' q1 g1 n1 E W 0 ∧ ∀ op z O Qe Qw, zFo V' op z O q1 g1 Qe Qw = op z (O 1 0 0 0 0 (Qe 0) (Qw 0)) := by
  have hs : 153 ≤ zsz T := hS.1
  have hEW : E * W ≤ 196 * 196 := Int.mul_le_mul hE.2.2 hW.2.2 (by omega) (by omega)
  have hEW1 : 0 ≤ E * W := Int.mul_nonneg (by omega) (by omega)
  obtain ⟨⟨pp1, pp2, pp3⟩, qq, ly1, ly2, arp, pw, mm, ⟨ap1, ap2, ap3⟩, -⟩ := id hg
  have l1 := ly1.2.2
  have fm : ∀ V' : zM, V' q1 0 = 1 ∧ V' (g1 + 1) 0 = 0 ∧ V' (g1 + 2) 0 = 0 ∧ V' (g1 + 3) 0 = 1 ∧ V' (g1 + 4) 0 = 0 ∧ V' (g1 + 5) 0 = 0 ∧ V' (g1 + 6) 0 = 0 ∧ V' (g1 + 7) 0 = 0 → zFm V' q1 g1 n1 E W 0 ∧ ∀ op z O Qe Qw, zFo V' op z O q1 g1 Qe Qw = op z (O 1 0 0 0 0 (Qe 0) (Qw 0)) := by
    rintro V' ⟨b0, b1, b2, b3, b4, b5, b6, b7⟩
    refine ⟨⟨by omega, fun i i1 i2 => ?_⟩, fun op z O Qe Qw => ?_⟩
    · have : i = 0 := by omega
      subst this
      rw [b1, b2, b3, b4, b5, b6, b7]
      exact ⟨by omega, by omega, by decide, by decide, zHl_0, by decide⟩
    · unfold zFo
      rw [b0]
      show op z (zOe V' O g1 Qe Qw 0) = _
      unfold zOe
      rw [b1, b2, b3, b4, b5, b6, b7]
  rw [e106, b106_0 hS (by rw [hE.1, hW.1]; omega) (by rw [pp3]; exact arp), hE.1, hW.1]
  by_cases c : E * W ≤ m
  · rw [if_pos c]
    obtain ⟨V', e1, f1, f2⟩ := c106t (V := V) (x1 := E * W) hS hg
    obtain ⟨y1, y2⟩ := fm V' f2
    refine ⟨T, V', p, m, e1, hS, hg, c, fun j j1 j2 => ?_, ⟨zHx_r T _, Or.inl rfl, f1⟩, y1, y2⟩
    rw [f1 p arp.1.2.1 (by omega) (by unfold zap at ap2; omega)]
    exact hp0 j j1 j2
  · rw [if_neg c, b106_25 (by omega) (by omega)]
    have x1 := zHx_n T 0 (min (2 * (E * W)) 38416) (fun _ _ => False)
    have x2 := zHx_q (zn T 0 (min (2 * (E * W)) 38416)) 78 4 (zsz T)
    have x := zHx_t x1 x2
    have hS1 : zStr (zn T 0 (min (2 * (E * W)) 38416)) := zStr_x hS x1 (fun a k z => z.elim)
    have hS2 : zStr (zqw (zn T 0 (min (2 * (E * W)) 38416)) 78 4 (zsz T)) := zStr_x hS x (fun a k z => by rcases z with z | z; exact z.elim; omega)
    have hg2 := zGeo0_p hg hs (r := E * W) (by omega)
    obtain ⟨M, hM⟩ : ∃ M, min (2 * (E * W)) 38416 = M := ⟨_, rfl⟩
    rw [hM] at hg2 hS2 hS1 x1 x2 x
    rw [hM, b106_36 hS1, b106_39 hS2, hg2.1.2.2, c18 hg2.2.2.2.2.1 (by omega)]
    simp only [Option.bind_some, zpush9]
    obtain ⟨V', e1, f1, f2⟩ := c106t (V := zs (zs V (zsz T) fun _ => 0) (zsz T) fun j => if 0 ≤ j ∧ j < M then -1 else zs V (zsz T) (fun _ => 0) (zsz T) j) (x1 := E * W) hS2 hg2
    obtain ⟨y1, y2⟩ := fm V' f2
    refine ⟨_, V', zsz T, M, e1, hS2, hg2, by omega, fun j j1 j2 => ?_, ⟨zHx_m x (fun a k _ z => by rcases z with z | z; exact z.elim; exact z), Or.inr (Int.le_refl _), fun r r1 r2 r3 => ?_⟩, y1, y2⟩
    · rw [f1 (zsz T) (by rw [zsz_q, zsz_n]; omega) (by omega) (by omega)]
      unfold zs
      rw [if_pos rfl, if_pos ⟨j1, j2⟩]
    · rw [f1 r (by rw [zsz_q, zsz_n]; omega) r2 r3, zsr_ne (by omega), zsr_ne (by omega)]
end BEGIN
