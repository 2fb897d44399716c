/-! a place in the next layer -/
theorem zlor_s {x s : Int} (hx : 0 ≤ x ∧ x < 36028797018963968) (hs : 0 ≤ s ∧ s < 128) : zlor (x * 128) s = x * 128 + s := by
  obtain ⟨m, rfl⟩ := Int.eq_ofNat_of_zero_le hx.1
  obtain ⟨k, rfl⟩ := Int.eq_ofNat_of_zero_le hs.1
  unfold zlor
  show (BitVec.ofInt 64 ((m : Int) * 128) ||| BitVec.ofInt 64 (k : Int)).toInt = _
  have e1 : BitVec.ofInt 64 ((m : Int) * 128) = BitVec.ofNat 64 (m * 128) := by
    rw [show ((m : Int) * 128) = ((m * 128 : Nat) : Int) by omega, BitVec.ofInt_natCast]
  have e2 : (BitVec.ofNat 64 (m * 128) ||| BitVec.ofNat 64 k).toNat = m * 128 + k := by
    rw [BitVec.toNat_or, BitVec.toNat_ofNat, BitVec.toNat_ofNat, Nat.mod_eq_of_lt (by omega), Nat.mod_eq_of_lt (by omega)]
    have := Nat.shiftLeft_add_eq_or_of_lt (i := 7) (b := k) (by omega) m
    rw [Nat.shiftLeft_eq, show m * 2 ^ 7 = m * 128 from rfl] at this
    exact this.symm
  rw [e1, BitVec.ofInt_natCast, BitVec.toInt_eq_toNat_of_lt (by rw [e2]; omega), e2]
  omega
def zGeo0 (T : zT) (q1 q2 g1 g2 n1 n2 p m : Int) : Prop :=
  (zp T 78 2 = q1 ∧ zp T 78 3 = q2 ∧ zp T 78 4 = p) ∧ ((q1 = 95 ∧ q2 = 103) ∨ (q1 = 103 ∧ q2 = 95)) ∧ zLy T q1 g1 n1 ∧ zLy T q2 g2 n2 ∧ zAr T p 0 m ∧ (p = 111 ∨ 153 ≤ p) ∧ (0 ≤ m ∧ m ≤ 38416) ∧
  (zap (g1 + 1) 7 (g2 + 1) 7 ∧ zap (g1 + 1) 7 p 1 ∧ zap (g2 + 1) 7 p 1) ∧
  (∀ k, k = 0 ∨ k = 1 → 0 ≤ zp T 55 k → zap (g1 + 1) 7 (zp T 55 k) 27 ∧ zap (g2 + 1) 7 (zp T 55 k) 27 ∧ zap p 1 (zp T 55 k) 27 ∧ zp T 55 k + 26 < zsz T) ∧
  (0 ≤ zp T 55 0 → 0 ≤ zp T 55 1 → zap (zp T 55 0) 27 (zp T 55 1) 27) ∧
  ((T.2.1 : Int) ≤ 983018 + 14 * (n1 - 16) + 14 * (n2 - 16) + (2 * m + if m = 38416 then 38416 else 0) + (if 0 ≤ zp T 55 0 then 402 else 0) + (if 0 ≤ zp T 55 1 then 402 else 0)) ∧
  (zsz T ≤ 153 + (n1 - 16) + (n2 - 16) + m + (if 0 ≤ zp T 55 0 then 27 else 0) + (if 0 ≤ zp T 55 1 then 27 else 0))
theorem zGeo0_of {T : zT} {V : zM} {q1 q2 g1 g2 n1 n2 p m : Int} (h : zGeo1 T V q1 q2 g1 g2 n1 n2 p m) : zGeo0 T q1 q2 g1 g2 n1 n2 p m ∧ ∀ j, 0 ≤ j → j < m → V p j = -1 := by
  obtain ⟨a1, a2, a3, a4, a5, a6, a7, a8, a9, a10, a11, a12, a13⟩ := h
  exact ⟨⟨a1, a2, a3, a4, a5, a6, a7, a9, a10, a11, a12, a13⟩, a8⟩
theorem zGeo1_of {T : zT} {V : zM} {q1 q2 g1 g2 n1 n2 p m : Int} (h : zGeo0 T q1 q2 g1 g2 n1 n2 p m) (a8 : ∀ j, 0 ≤ j → j < m → V p j = -1) : zGeo1 T V q1 q2 g1 g2 n1 n2 p m := by
  obtain ⟨a1, a2, a3, a4, a5, a6, a7, a9, a10, a11, a12, a13⟩ := h
  exact ⟨a1, a2, a3, a4, a5, a6, a7, a8, a9, a10, a11, a12, a13⟩
theorem zGeo0_op {T T' : zT} {V V' : zM} {q1 q2 g1 g2 n1 n2 p m e w g' n' : Int} (h : zGeo0 T q1 q2 g1 g2 n1 n2 p m) (hs : 153 ≤ zsz T) (o : zOp T V q2 g2 n2 e w T' V' g' n') (hb : V q2 0 < 38416) : zGeo0 T' q1 q2 g1 g' n1 n' p m := by
  obtain ⟨o1, o2, o3, o4, -⟩ := o
  rcases o4 with ⟨rfl, rfl, rfl⟩ | ⟨b1, b2, b3, b4, b5⟩
  · exact h
  · obtain ⟨a1, a2, a3, a4, a5, a6, a7, a9, a10, a11, a12, a13⟩ := h
    have k3 := a3.2.2.2.1
    have k4 := a4.2.2.2.2
    have k5 := a5.1.2.1
    have pk : ∀ x k, x < zsz T → x ≠ q2 → zp T' x k = zp T x k := fun x k x1 x2 => o3.2.2 x k x1 (fun z => x2 z.1)
    refine ⟨by rw [pk 78 2 (by omega) (by omega), pk 78 3 (by omega) (by omega), pk 78 4 (by omega) (by omega)]; exact a1, a2, ?_, ?_, zAr_x o3 a5, a6, a7, ?_, fun k hk => ?_, ?_, ?_, ?_⟩
    · exact zLy_of (zRw_x (zLy_R a3) o3 (fun k z => by omega)) a3.2.2.1 a3.2.2.2.2
    · exact zLy_of o1 (Or.inr (by omega)) (by omega)
    · refine ⟨Or.inl (by omega), a9.2.1, Or.inr (by omega)⟩
    · rw [pk 55 k (by omega) (by omega)]
      intro h0
      obtain ⟨c1, c2, c3, c4⟩ := a10 k hk h0
      exact ⟨c1, Or.inr (by omega), c3, by omega⟩
    · rw [pk 55 0 (by omega) (by omega), pk 55 1 (by omega) (by omega)]; exact a11
    · rw [pk 55 0 (by omega) (by omega), pk 55 1 (by omega) (by omega)]; omega
    · rw [pk 55 0 (by omega) (by omega), pk 55 1 (by omega) (by omega)]; omega
/-- an entry; nothing yet; what is taken in -/
def zEv (n c k h l m : Int) : Prop := (0 < c ∧ c ≤ 1000000000000) ∧ (0 ≤ k ∧ k ≤ 693 * n) ∧ zHl n h l ∧ (0 ≤ m ∧ m < 16384)
def zEb (c k h l m : Int) : Prop := c = 0 ∧ k = 1000000 ∧ h = 0 ∧ l = 0 ∧ m = 0
def zEi (n c k h l m : Int) : Prop := (0 < c ∧ c ≤ 128000000000000) ∧ (0 ≤ k ∧ k ≤ 693 * n) ∧ zHl n h l ∧ (0 ≤ m ∧ m < 16384)
def zObs (op : Int → Int → Int) (z n : Int) (O : Int → Int → Int → Int → Int → Int → Int → Int) : Prop := (∀ e w, O 0 1000000 0 0 0 e w = z) ∧ ∀ c k h l m c2 k2 h2 l2 m2 k' h' l' e w, (zEv n c k h l m ∨ zEb c k h l m) → zEi n c2 k2 h2 l2 m2 → ((zCh k h l k2 h2 l2 ∧ k' = k2 ∧ h' = h2 ∧ l' = l2) ∨ (¬ zCh k h l k2 h2 l2 ∧ k' = k ∧ h' = h ∧ l' = l)) → O (min 1000000000000 (c + c2)) k' h' l' (zor m m2) e w = op (O c k h l m e w) (O c2 k2 h2 l2 m2 e w)
def zOe (V : zM) (O : Int → Int → Int → Int → Int → Int → Int → Int) (g : Int) (Qe Qw : Int → Int) (i : Int) : Int := O (V (g + 3) i) (V (g + 4) i) (V (g + 5) i) (V (g + 6) i) (V (g + 7) i) (Qe (V (g + 1) i)) (Qw (V (g + 2) i))
def zFo (V : zM) (op : Int → Int → Int) (z : Int) (O : Int → Int → Int → Int → Int → Int → Int → Int) (q g : Int) (Qe Qw : Int → Int) : Int := zfo op z (zOe V O g Qe Qw) (V q 0).toNat
def zTo (V : zM) (q g p m n2 E W n at_ : Int) : Prop :=
  (0 ≤ V q 0 ∧ V q 0 ≤ n2) ∧ V q 0 = zcnt (fun x => V p x ≠ -1) (E * W).toNat ∧
  (∀ x, E * W ≤ x → x < m → V p x = -1) ∧
  (∀ x, 0 ≤ x → x < E * W → V p x ≠ -1 → (0 ≤ V p x ∧ V p x < V q 0) ∧ V (g + 1) (V p x) * W + V (g + 2) (V p x) = x) ∧
  (∀ i, 0 ≤ i → i < V q 0 → (0 ≤ V (g + 1) i ∧ V (g + 1) i < E) ∧ (0 ≤ V (g + 2) i ∧ V (g + 2) i < W) ∧ V p (V (g + 1) i * W + V (g + 2) i) = i ∧ (zEv n (V (g + 3) i) (V (g + 4) i) (V (g + 5) i) (V (g + 6) i) (V (g + 7) i) ∨ (i = at_ ∧ zEb (V (g + 3) i) (V (g + 4) i) (V (g + 5) i) (V (g + 6) i) (V (g + 7) i))))
theorem zpx {e w E W : Int} (he : 0 ≤ e ∧ e < E) (hw : 0 ≤ w ∧ w < W) : 0 ≤ e * W ∧ e * W + w < E * W := by
  have h1 : 0 ≤ e * W := Int.mul_nonneg he.1 (by omega)
  have h2 : e * W ≤ (E - 1) * W := Int.mul_le_mul_of_nonneg_right (by omega) (by omega)
  rw [Int.sub_mul, Int.one_mul] at h2
  omega
theorem zpx_i {e w e2 w2 W : Int} (hw : 0 ≤ w ∧ w < W) (hw2 : 0 ≤ w2 ∧ w2 < W) (h : e * W + w = e2 * W + w2) : e = e2 ∧ w = w2 := by
  have a : (e * W + w) / W = e := by
    rw [Int.add_comm, Int.add_mul_ediv_right _ _ (by omega), Int.ediv_eq_zero_of_lt hw.1 hw.2]; omega
  have b : (e2 * W + w2) / W = e2 := by
    rw [Int.add_comm, Int.add_mul_ediv_right _ _ (by omega), Int.ediv_eq_zero_of_lt hw2.1 hw2.2]; omega
  rw [h, b] at a
  subst a
  exact ⟨rfl, by omega⟩
def zFr (T : zT) (V : zM) (q g p : Int) (T' : zT) (V' : zM) (g' : Int) : Prop := zHx T T' (fun x k => x = q ∧ 1 ≤ k ∧ k ≤ 7) ∧ (g' = g ∨ zsz T ≤ g' + 1) ∧ ∀ r, r < zsz T → r ≠ q → r ≠ p → r < g + 1 ∨ g + 7 < r → V' r = V r
theorem zFr_t {T T' T'' : zT} {V V' V'' : zM} {q p g g' g'' : Int} (h : zFr T V q g p T' V' g') (k : zFr T' V' q g' p T'' V'' g'') : zFr T V q g p T'' V'' g'' := by
  obtain ⟨h1, h2, h3⟩ := h
  obtain ⟨k1, k2, k3⟩ := k
  have := h1.1
  refine ⟨zHx_m (zHx_t h1 k1) (fun x k _ z => z.elim id id), by omega, fun r r1 r2 r3 r4 => ?_⟩
  rw [k3 r (by omega) r2 r3 (by omega), h3 r r1 r2 r3 r4]
section PLACE
variable {T : zT} {V : zM} {q1 q2 g1 g2 n1 n2 p m E W n e w : Int}
theorem c116 (hS : zStr T) (hg : zGeo0 T q1 q2 g1 g2 n1 n2 p m) (ht : zTo V q2 g2 p m n2 E W n (-1)) (hW : V 87 5 = W) (hE : E ≤ 196 ∧ W ≤ 196) (hm : E * W ≤ m) (he : 0 ≤ e ∧ e < E) (hw : 0 ≤ w ∧ w < W) :
    ∃ at_ T' V' g' n', zcall 116 [(2, 78), (0, e), (0, w)] T V = some ((0, at_), T', V') ∧ zStr T' ∧ zGeo0 T' q1 q2 g1 g' n1 n' p m ∧ zTo V' q2 g' p m n' E W n at_ ∧ zFr T V q2 g2 p T' V' g' ∧ (0 ≤ at_ ∧ at_ < V' q2 0) ∧ V' (g' + 1) at_ = e ∧ V' (g' + 2) at_ = w ∧ ∀ op z O Qe Qw, zMo op z → zObs op z n O → zFo V' op z O q2 g' Qe Qw = zFo V op z O q2 g2 Qe Qw := by
  obtain ⟨x1, x2⟩ := zpx he hw
  obtain ⟨x, hx⟩ : ∃ x, e * W + w = x := ⟨_, rfl⟩
  obtain ⟨⟨pp1, pp2, pp3⟩, qq, ly1, ly2, arp, pw, mm, ⟨ap1, ap2, ap3⟩, -⟩ := id hg
  have hsz : 153 ≤ zsz T := hS.1
  obtain ⟨t1, t2, t3, t4, t5⟩ := id ht
  have hEW : 0 ≤ E * W := by omega
  have lyq := ly2.2.2.1
  rw [e116, b116_0 hS (by rw [hW]; omega) (by rw [hW]; omega) (by rw [pp3]; exact arp) (by rw [hW]; omega), pp3, hW, hx]
  by_cases c : V p x = -1
  · rw [if_pos c, b116_22 hS (by rw [pp2]; exact ly2.1), pp2, pp3]
    have hlt : V q2 0 < E * W := by
      have h1 : zcnt (fun y => V p y ≠ -1 ∨ y = x) (E * W).toNat = zcnt (fun y => V p y ≠ -1) (E * W).toNat + 1 := zcnt_add (s0 := x) (by omega) (fun z => z c) (fun s => Iff.rfl)
      have h2 := (zcnt_r (fun y => V p y ≠ -1 ∨ y = x) (E * W).toNat).2
      omega
    obtain ⟨T', V1, g', n', e1, o⟩ := c107 (V := V) (e := e) (w := w) (zLy_R ly2) (by omega) t1 ly2.2.2.2.2
    have hge := zGeo0_op hg hsz o (by omega)
    obtain ⟨o1, o2, o3, o4, o5, o6, o7, o8, o9, o10, o11, o12, o13, o14⟩ := o
    have ly2' := hge.2.2.2.1
    have ap' := hge.2.2.2.2.2.2.2.1
    have pl := arp.1.2.1
    have vp : V1 p = V p := o5 p pl (by omega) (by unfold zap at ap3; omega)
    rw [e1]
    simp only [Option.bind_some, zpush0]
    have hS' : zStr T' := zStr_x hS o3 (fun a k z => by omega)
    rw [b116_36 (zAr_x o3 arp) (by omega), b116_37 hS' (by rw [hge.1.2.2]; exact zAr_x o3 arp) (by omega), hge.1.2.2, zwr_same, if_pos rfl]
    obtain ⟨N, hN⟩ : ∃ N, V q2 0 = N := ⟨_, rfl⟩
    rw [hN] at o2 o6 o7 o8 o9 o10 o11 o12 o13 o14 t1 t2 t4 t5 hlt
    rw [hN]
    have z1 : ∀ k, 1 ≤ k → k ≤ 7 → zwr V1 p x N (g' + k) = V1 (g' + k) := fun k k1 k2 => zwr_ne (by unfold zap at ap'; omega)
    have zq : zwr V1 p x N q2 = V1 q2 := zwr_ne (by omega)
    have q0 : V1 q2 0 = N + 1 := by rw [o6, if_pos rfl]
    have old : ∀ i, 0 ≤ i → i < N → ∀ k, 1 ≤ k → k ≤ 7 → zwr V1 p x N (g' + k) i = V (g2 + k) i := fun i i1 i2 k k1 k2 => by rw [z1 k k1 k2, o7 k k1 k2 i i1 i2]
    have pz : ∀ y, zwr V1 p x N p y = if y = x then N else V p y := fun y => by rw [zwr_same, vp]
    refine ⟨N, T', _, g', n', rfl, hS', hge, ⟨?_, ?_, fun y y1 y2 => ?_, fun y y1 y2 => ?_, fun i i1 i2 => ?_⟩, ⟨o3, ?_, fun r r1 r2 r3 r4 => by rw [zwr_ne r3, o5 r r1 r2 r4]⟩, ?_, ?_, ?_, fun op z O Qe Qw hmo hob => ?_⟩
    · rw [zq, q0]; omega
    · rw [zq, q0]
      have := zcnt_add (p := fun y => V p y ≠ -1) (q := fun y => zwr V1 p x N p y ≠ -1) (n := (E * W).toNat) (s0 := x) (by omega) (fun z => z c) (fun s => by
        rw [pz]
        by_cases cs : s = x
        · subst cs; rw [if_pos rfl]; exact ⟨fun _ => Or.inr rfl, fun _ => by omega⟩
        · rw [if_neg cs]; exact ⟨fun z => Or.inl z, fun z => z.elim id (fun z => absurd z cs)⟩)
      rw [this, ← t2]
    · rw [pz, if_neg (by omega)]; exact t3 y y1 y2
    · rw [pz, zq, q0]
      by_cases cs : y = x
      · subst cs
        rw [if_pos rfl]
        intro _
        rw [z1 1 (by decide) (by decide), z1 2 (by decide) (by decide), o8, o9]
        exact ⟨by omega, hx⟩
      · rw [if_neg cs]
        intro h
        obtain ⟨a1, a2⟩ := t4 y y1 y2 h
        rw [old _ a1.1 a1.2 1 (by decide) (by decide), old _ a1.1 a1.2 2 (by decide) (by decide)]
        exact ⟨by omega, a2⟩
    · rw [zq, q0] at i2
      by_cases ci : i = N
      · subst ci
        rw [z1 1 (by decide) (by decide), z1 2 (by decide) (by decide), z1 3 (by decide) (by decide), z1 4 (by decide) (by decide), z1 5 (by decide) (by decide), z1 6 (by decide) (by decide), z1 7 (by decide) (by decide), o8, o9, o10, o11, o12, o13, o14, hx, pz, if_pos rfl]
        exact ⟨he, hw, rfl, Or.inr ⟨rfl, rfl, rfl, rfl, rfl, rfl⟩⟩
      · have i3 : i < N := by omega
        rw [old i i1 i3 1 (by decide) (by decide), old i i1 i3 2 (by decide) (by decide), old i i1 i3 3 (by decide) (by decide), old i i1 i3 4 (by decide) (by decide), old i i1 i3 5 (by decide) (by decide), old i i1 i3 6 (by decide) (by decide), old i i1 i3 7 (by decide) (by decide)]
        obtain ⟨a1, a2, a3, a4⟩ := t5 i i1 i3
        refine ⟨a1, a2, ?_, a4.imp id (fun z => by omega)⟩
        rw [pz, if_neg (fun z => by rw [z, c] at a3; omega)]
        exact a3
    · rcases o4 with o4 | o4 <;> omega
    · rw [zq, q0]; omega
    · rw [z1 1 (by decide) (by decide), o8]
    · rw [z1 2 (by decide) (by decide), o9]
    · unfold zFo
      rw [zq, q0, hN, zfo_s (by omega)]
      have e2 : zOe (zwr V1 p x N) O g' Qe Qw N = z := by
        unfold zOe
        rw [z1 3 (by decide) (by decide), z1 4 (by decide) (by decide), z1 5 (by decide) (by decide), z1 6 (by decide) (by decide), z1 7 (by decide) (by decide), o10, o11, o12, o13, o14]
        exact hob.1 _ _
      rw [e2, zfo_z hmo]
      refine zfo_congr fun i i1 i2 => ?_
      unfold zOe
      have i3 : i < N := by omega
      rw [old i i1 i3 1 (by decide) (by decide), old i i1 i3 2 (by decide) (by decide), old i i1 i3 3 (by decide) (by decide), old i i1 i3 4 (by decide) (by decide), old i i1 i3 5 (by decide) (by decide), old i i1 i3 6 (by decide) (by decide), old i i1 i3 7 (by decide) (by decide)]
  · rw [if_neg c, b116_37 hS (by rw [pp3]; exact arp) (by omega), pp3]
    obtain ⟨a1, a2⟩ := t4 x (by omega) (by omega) c
    obtain ⟨b1, b2, b3, b4⟩ := t5 _ a1.1 a1.2
    obtain ⟨i1, i2⟩ := zpx_i b2 hw (a2.trans hx.symm)
    exact ⟨V p x, T, V, g2, n2, rfl, hS, hg, ⟨t1, t2, t3, t4, fun i i1 i2 => by
      obtain ⟨d1, d2, d3, d4⟩ := t5 i i1 i2
      exact ⟨d1, d2, d3, d4.imp id (fun z => by omega)⟩⟩, ⟨zHx_r T _, Or.inl rfl, fun _ _ _ _ _ => rfl⟩, a1, i1, i2, fun _ _ _ _ _ _ _ => rfl⟩
end PLACE
