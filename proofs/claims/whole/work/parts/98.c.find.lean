/-! findTellings -/
theorem zstory {T : zT} (hS : zStr T) : zRw T 112 112 17 := by
  have h := st112 hS
  obtain ⟨h1, r1, r2, r3, r4, r5, r6, r7⟩ := h
  rw [sp112_1 hS] at r1
  rw [sp112_2 hS] at r2
  rw [sp112_3 hS] at r3
  rw [sp112_4 hS] at r4
  rw [sp112_5 hS] at r5
  rw [sp112_6 hS] at r6
  rw [sp112_7 hS] at r7
  refine ⟨h1, fun k k1 k2 => ?_⟩
  have : k = 1 ∨ k = 2 ∨ k = 3 ∨ k = 4 ∨ k = 5 ∨ k = 6 ∨ k = 7 := by omega
  rcases this with e | e | e | e | e | e | e <;> subst e
  · exact ⟨sp112_1 hS, r1⟩
  · exact ⟨sp112_2 hS, r2⟩
  · exact ⟨sp112_3 hS, r3⟩
  · exact ⟨sp112_4 hS, r4⟩
  · exact ⟨sp112_5 hS, r5⟩
  · exact ⟨sp112_6 hS, r6⟩
  · exact ⟨sp112_7 hS, r7⟩
def zT1 (V : zM) (K : Int → Int) (n : Nat) : Prop := V 115 n = min 1000000000000 (zW K 0 (fun _ _ => True) n 0 0) ∧ (0 < V 115 n → V 116 n * 128 ^ 16 + zwall n (V 117 n) (V 118 n) = zB K n 0 0 ∧ 0 ≤ V 117 n ∧ 0 ≤ V 118 n ∧ V 117 n < 128 ^ 8 ∧ (8 < n → V 118 n < 128 ^ (n - 8)))
theorem zT1_of {V : zM} {K : Int → Int} {n : Nat} (hn : 1 ≤ n ∧ n ≤ 16) (he : zEe V 112 n n) (h1 : zOo V (fun c _ _ _ _ e w => min 1000000000000 (c * zW (fun _ => 0) 0 (fun _ _ => True) 0 e w)) 112 n 0 0 = min 1000000000000 (zW K 0 (fun _ _ => True) n 0 0)) (h2 : zOo V (fun _ k h l _ e w => zO2 (fun _ => 0) n 0 k h l e w) 112 n 0 0 = zB K n 0 0) : zT1 V K n := by
  have e0 : zW (fun _ => 0) 0 (fun _ _ => True) 0 0 0 = 1 := by rw [zW]; exact zif_t ⟨zfin0 0, zfin0 1⟩
  have e1 : zB (fun _ => 0) 0 0 0 = 0 := by rw [zB]; exact zif_t ⟨zfin0 0, zfin0 1⟩
  have a1 : min 1000000000000 (V 115 n * zW (fun _ => 0) 0 (fun _ _ => True) 0 0 0) = min 1000000000000 (zW K 0 (fun _ _ => True) n 0 0) := h1
  have a2 : zO2 (fun _ => 0) n 0 (V 116 n) (V 117 n) (V 118 n) 0 0 = zB K n 0 0 := h2
  have he : zEv n (V 115 n) (V 116 n) (V 117 n) (V 118 n) (V 119 n) ∨ zEb (V 115 n) (V 116 n) (V 117 n) (V 118 n) (V 119 n) := he
  rw [e0, Int.mul_one] at a1
  have c1 : V 115 n ≤ 1000000000000 := by
    rcases he with he | he
    · exact he.1.2
    · have := he.1; omega
  refine ⟨by omega, fun hp => ?_⟩
  rcases he with he | he
  · obtain ⟨v1, v2, v3, v4⟩ := he
    have hw := zwall_r (by omega) v3
    have hk : V 116 n < 1000000 := by omega
    unfold zO2 at a2
    rw [zif_t hk, e1, Int.pow_zero, Int.mul_one, Int.add_zero] at a2
    have hw2 := zpow_le (n : Int).toNat (by omega)
    have hb : V 116 n * 128 ^ 16 + zwall n (V 117 n) (V 118 n) ≤ zinf := by
      have q1 : V 116 n * 128 ^ 16 ≤ 1000000 * 128 ^ 16 := Int.mul_le_mul_of_nonneg_right (by omega) (by decide)
      have q2 : (1000000 : Int) * 128 ^ 16 + 128 ^ 16 ≤ zinf := by decide
      omega
    refine ⟨by omega, v3.1, v3.2.1, ?_, ?_⟩
    · by_cases c : (n : Int) ≤ 8
      · exact Int.lt_of_lt_of_le (v3.2.2.1 c).1 (zpow_mono (by omega))
      · exact (v3.2.2.2 (by omega)).1
    · intro c
      have q := (v3.2.2.2 (by omega)).2
      rw [show ((n : Int) - 8).toNat = n - 8 by omega] at q
      exact q
  · have := he.1; omega
/-- the walk of the tellings -/
def zWt (T0 : zT) (V0 : zM) (K : Int → Int) (E W : Int) (Qe Qw : Int → Int) (Le Lw : Int → List Int) (n : Int) (T : zT) (V : zM) : Prop := ∃ q1 q2 g1 g2 n1 n2 p m, zWs T V q1 q2 g1 g2 n1 n2 p m K 0 E W Qe Qw Le Lw n ∧ zHx T0 T zCx ∧ (∀ r, zKr T0 r → V r = V0 r) ∧ (∀ r : Nat, zFo V zoc 0 (fun c _ _ _ _ e w => min 1000000000000 (c * zW K 0 (fun _ _ => True) r e w)) q1 g1 Qe Qw = min 1000000000000 (zW K 0 (fun _ _ => True) (n.toNat + r) 0 0)) ∧ (∀ r : Nat, n + r ≤ 16 → zFo V min zinf (fun _ k h l _ e w => zO2 K n r k h l e w) q1 g1 Qe Qw = zB K (n.toNat + r) 0 0) ∧ ∀ k : Nat, 1 ≤ k → (k : Int) ≤ n → zT1 V K k
theorem zWt_s {T0 T : zT} {V0 V : zM} {K Qe Qw : Int → Int} {E W n : Int} {Le Lw : Int → List Int} (hs0 : 153 ≤ zsz T0) (hK : zcok K) (hP : zPT V0 65 K (fun _ => True) (fun _ => 0)) (hn : 0 ≤ n ∧ n ≤ 15) (h : zWt T0 V0 K E W Qe Qw Le Lw n T V) : ∃ T1 V1 V2, zcall 113 [(2, 78), (2, 65), (0, n)] T V = some ((9, 0), T1, V1) ∧ zcall 118 [(2, 78), (2, 112), (0, n + 1)] T1 V1 = some ((9, 0), T1, V2) ∧ zStr T1 ∧ zWt T0 V0 K E W Qe Qw Le Lw (n + 1) T1 V2 := by
  obtain ⟨q1, q2, g1, g2, n1, n2, p, m, hw, hx, hr, l1, l2, l3⟩ := h
  have row : ∀ r, 65 ≤ r → r ≤ 70 → V r = V0 r := fun r r1 r2 => hr r (Or.inl (by omega))
  have hP1 : zPT V 65 K (fun _ => True) (fun _ => 0) := zPT_congr (fun d d1 d2 => row _ (by omega) (by omega)) hP
  obtain ⟨T1, V1, g', n', e1, w1, x1, k1, f1⟩ := zWs_step hw (Or.inl rfl) hn (zPT_tab hK hP1)
  have hF := hw.2.2.2.2.2.2.1
  have hs : 153 ≤ zsz T := hw.1.1
  have c1 : ∀ r : Nat, zFo V1 zoc 0 (fun c _ _ _ _ e w => min 1000000000000 (c * zW K 0 (fun _ _ => True) r e w)) q2 g' Qe Qw = min 1000000000000 (zW K 0 (fun _ _ => True) ((n + 1).toNat + r) 0 0) := fun r => by
    have s1 := zFo_stp (V := V) (op := zoc) (z := 0) (O := zSt2 V K 0 65 n zoc 0 (fun c _ _ _ _ e w => min 1000000000000 (c * zW K 0 (fun _ _ => True) r e w))) (O' := fun c _ _ _ _ e w => min 1000000000000 (c * zW K 0 (fun _ _ => True) (r + 1) e w)) (q := q1) (g := g1) (Qe := Qe) (Qw := Qw) hF (fun c k h l m e w v => zSt2_cnt (A := fun _ _ => True) (zPT_ct hP1) v)
    have s2 := f1 zoc 0 (fun c _ _ _ _ e w => min 1000000000000 (c * zW K 0 (fun _ _ => True) r e w)) zoc_mo (zObs_cnt K 0 (fun _ _ => True) r (n + 1))
    have s3 := l1 (r + 1)
    rw [show n.toNat + (r + 1) = (n + 1).toNat + r by omega] at s3
    exact s2.trans (s1.trans s3)
  have c2 : ∀ r : Nat, n + 1 + r ≤ 16 → zFo V1 min zinf (fun _ k h l _ e w => zO2 K (n + 1) r k h l e w) q2 g' Qe Qw = zB K ((n + 1).toNat + r) 0 0 := fun r hr => by
    have s1 := zFo_stp (V := V) (op := min) (z := zinf) (O := zSt2 V K 0 65 n min zinf (fun _ k h l _ e w => zO2 K (n + 1) r k h l e w)) (O' := fun _ k h l _ e w => zO2 K n (r + 1) k h l e w) (q := q1) (g := g1) (Qe := Qe) (Qw := Qw) hF (fun c k h l m e w v => zSt2_key hK (zPT_pm hP1) (by omega) (by omega) v)
    have s2 := f1 min zinf (fun _ k h l _ e w => zO2 K (n + 1) r k h l e w) (zomin_mo zinf) (zObs_key K r (n + 1) (by omega) hr)
    have s3 := l2 (r + 1) (by omega)
    rw [show n.toNat + (r + 1) = (n + 1).toNat + r by omega] at s3
    exact s2.trans (s1.trans s3)
  obtain ⟨V2, e2, w2, ga, ee, f2, f3⟩ := zWs_gather (j := n + 1) w1 (by omega) (zstory w1.1) (by decide) (by omega)
  have hF1 := w1.2.2.2.2.2.2.1
  refine ⟨T1, V1, V2, e1, e2, w1.1, q2, q1, g', g1, n', n1, p, m, w2, zHx_m (zHx_t hx x1) (fun a k _ z => z.elim id id), fun r hr' => ?_, fun r => by rw [f2, c1], fun r hr' => by rw [f2, c2 r hr'], fun k k1' k2 => ?_⟩
  · have hk : zKr T r := (zKr_t hx hs0).2 hr'
    have r5 : r < 112 + 3 ∨ 112 + 7 < r := by
      rcases hr' with z | z | z | ⟨k, hk2, z0, z1, z2⟩
      · omega
      · omega
      · omega
      · have := w1.2.2.2.2.2.2.2 k hk2
        have e55 : zp T1 55 k = zp T0 55 k := by rw [x1.2.2 55 k (by omega) (fun z => by unfold zCx at z; omega), hx.2.2 55 k (by omega) (fun z => by unfold zCx at z; omega)]
        rw [e55] at this
        have := this z0
        omega
    rw [ga.1 r r5, k1 r (Or.inl hk), hr r hr']
  · by_cases c : (k : Int) = n + 1
    · have hk : ((n + 1).toNat : Int) = n + 1 := by omega
      have hkn : k = (n + 1).toNat := by omega
      subst hkn
      refine zT1_of (by omega) (by rw [hk]; exact ee) ?_ ?_
      · rw [hk]
        exact (f3 zoc 0 (fun c _ _ _ _ e w => min 1000000000000 (c * zW (fun _ => 0) 0 (fun _ _ => True) 0 e w)) zoc_mo (zObs_cnt (fun _ => 0) 0 (fun _ _ => True) 0 (n + 1)) 0 0).trans ((zEnd_cnt hF1).trans (c1 0))
      · rw [hk]
        exact (f3 min zinf (fun _ k h l _ e w => zO2 (fun _ => 0) (n + 1) 0 k h l e w) (zomin_mo zinf) (zObs_key (fun _ => 0) 0 (n + 1) (by omega) (by omega)) 0 0).trans ((zEnd_key (by omega) hF1).trans (c2 0 (by omega)))
    · have t := l3 k k1' (by omega)
      have v : ∀ y, 3 ≤ y → y ≤ 7 → V2 (112 + y) k = V (112 + y) k := fun y y1 y2 => by rw [ga.2 y y1 y2 k c, k1 (112 + y) (Or.inr (by omega))]
      have v3 : V2 115 k = V 115 k := v 3 (by decide) (by decide)
      have v4 : V2 116 k = V 116 k := v 4 (by decide) (by decide)
      have v5 : V2 117 k = V 117 k := v 5 (by decide) (by decide)
      have v6 : V2 118 k = V 118 k := v 6 (by decide) (by decide)
      unfold zT1 at t ⊢
      rw [v3, v4, v5, v6]
      exact t
