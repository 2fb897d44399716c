/-! the clauses by the class -/
def zFrm (V V' : zM) : Prop := ∀ r, r ≠ 58 → ¬ (28 ≤ r ∧ r ≤ 54) → V' r = V r
def zPcl (b : Int → Int) (m : Int) (V V' : zM) (R : zRes) (y : Int) : Prop := (R.1 = -1 ∧ y = 1 ∧ zRt V' b m R.2.1 ∧ zSR V' 28 R.2.2 ∧ V' 58 5 = V 58 5) ∨ (R.1 ≠ -1 ∧ y = 0 ∧ V' 58 5 = R.1)
theorem zFrm_t {V V1 V2 : zM} (h : zFrm V V1) (g : zFrm V1 V2) : zFrm V V2 := fun r r1 r2 => by rw [g r r1 r2, h r r1 r2]
theorem zFrm_58 {V V' : zM} (h : ∀ r, r ≠ 58 → V' r = V r) : zFrm V V' := fun r r1 _ => h r r1
theorem zFrm_w {V V' : zM} {x i v : Int} (h : zFrm V V') (hx : x = 58 ∨ (28 ≤ x ∧ x ≤ 54)) : zFrm V (zwr V' x i v) := fun r r1 r2 => by rw [zwr_ne (by omega), h r r1 r2]
section CLASS
variable {T : zT} {V : zM} {b K : Int → Int} {m g q : Int} {t : Nat}
/-- a step on -/
theorem zstep (hS : zStr T) (hB : zBy b m) (h : zRt V b m t) (hs : zSR V 28 K) : ∃ V1, zcall 43 [(2, 58)] T V = some ((9, 0), T, V1) ∧ zRt V1 b m (t + 1) ∧ zSR V1 28 K ∧ zFrm V V1 ∧ V1 58 5 = V 58 5 := by
  obtain ⟨r, T', V1, a1, a2, a3, a4, a5, a6⟩ := c43 hS hB h
  subst a2
  rw [a3] at a1
  exact ⟨V1, a1, a6, zSR_congr (fun d d1 d2 => a4 _ (by omega)) hs, zFrm_58 a4, a5⟩
/-- a fault at s -/
theorem zfail {V0 W : zM} {R : zRes} {s : Int} (hf : zFrm V0 W) (hs : 0 ≤ s) (hR : R.1 = s) : zFrm V0 (zwr W 58 5 s) ∧ ∃ y, ((0, 0) : zV) = (0, y) ∧ zPcl b m V0 (zwr W 58 5 s) R y := ⟨zFrm_w hf (Or.inl rfl), 0, rfl, Or.inr ⟨by omega, rfl, by rw [zwr_same, if_pos rfl, hR]⟩⟩
theorem c58 (hS : zStr T) (hB : zBy b m) (h : zRt V b m t) (hs : zSR V 28 K) (hg : (g = 0 ∧ q = 28 + 5) ∨ (g = 1 ∧ q = 28 + 13)) : zwp (zcall 58 [(2, 58), (2, q)] T V) fun r T' V' => T' = T ∧ zFrm V V' ∧ ∃ y, r = (0, y) ∧ zPcl b m V V' (zLet b m K g (t + 1)) y := by
  have s0 : ∀ t, 0 ≤ zS b m t := fun t => (zS_r hB.1.1 t).1
  have tg : zTongue T q := by
    rcases hg with ⟨-, rfl⟩ | ⟨-, rfl⟩
    · exact st33 hS
    · exact st41 hS
  obtain ⟨V1, a1, a2, a3, a4, a5⟩ := zstep hS hB h hs
  obtain ⟨y1, d1, d2⟩ := c59 hS hB a2
  rw [e58, b58_0 hS, a1]
  simp only [Option.bind_some, zpush9]
  rw [b58_4 hS, d1]
  simp only [Option.bind_some, zpush0]
  rw [b58_8]
  unfold zLet
  rcases d2 with ⟨d2, d3, d4⟩ | ⟨d2, d3⟩
  · rw [zfi_t d2, if_neg (by omega)]
    obtain ⟨V2, f1, f2, f3, f4, f5⟩ := zstep hS hB a2 a3
    obtain ⟨y2, g1, g2⟩ := c61 hS hB f2
    rw [b58_23 hS, f1]
    simp only [Option.bind_some, zpush9]
    rw [b58_27 hS, g1]
    simp only [Option.bind_some, zpush0]
    rw [b58_31]
    rcases g2 with ⟨g2, g3, g4⟩ | ⟨g2, g3⟩
    · rw [zfi_t g2, if_neg (by omega)]
      obtain ⟨V3, i1, i2, i3, i4, i5⟩ := zstep hS hB f2 f3
      obtain ⟨y3, j1, j2⟩ := c46 (x := 6) hS hB i2 (by decide)
      have fr3 : zFrm V V3 := zFrm_t a4 (zFrm_t f4 i4)
      rw [b58_45 hS, i1]
      simp only [Option.bind_some, zpush9]
      rw [b58_49 hS, j1]
      simp only [Option.bind_some, zpush0]
      rw [b58_58]
      rcases j2 with ⟨rfl, j2⟩ | ⟨rfl, j2⟩
      · rw [zfi_t j2, if_neg (by decide)]
        obtain ⟨V4, k1, k2, k3, k4, k5⟩ := zstep hS hB i2 i3
        obtain ⟨y4, l1, l2⟩ := c61 hS hB k2
        have fr4 : zFrm V V4 := zFrm_t fr3 k4
        have no : ¬ zStw b m (t + 1 + 3) (zSx b m (t + 1 + 1)) → ∀ x4, zwp (ev 58 83 [(2, 58), (2, q), (0, y1), (0, y2), (0, x4)] [] T V4) fun r T' V' => T' = T ∧ zFrm V V' ∧ ∃ y, r = (0, y) ∧ zPcl b m V V' (zS b m (t + 1 + 3), t + 1, K) y := fun _ x4 => by
          rw [b58_83 hS, c60 hS, k2.2.2.1]
          simp only [Option.bind_some, zpush0]
          rw [b58_91 (by decide)]
          exact zwp_ret ⟨rfl, zfail fr4 (s0 _) rfl⟩
        rw [b58_61 hS, k1]
        simp only [Option.bind_some, zpush9]
        rw [b58_65 hS, l1]
        simp only [Option.bind_some, zpush0]
        rw [b58_69]
        rcases l2 with ⟨l2, l3, l4⟩ | ⟨l2, l3⟩
        · rw [if_neg (by omega), b58_76]
          have but := zsv_but (b := b) (s := zS b m (t + 1 + 3)) (e := zF b m (zS b m (t + 1 + 3))) (x := y2) (by omega) l2.2
          have ey : zsb b (zS b m (t + 1 + 3)) (zF b m (zS b m (t + 1 + 3)) - zS b m (t + 1 + 3)).toNat = y4 := l3.symm
          rw [ey] at but
          have ey2 : zSx b m (t + 1 + 1) = y2 := g3.symm
          by_cases c : zand y4 y2 = 0
          · have ok : zStw b m (t + 1 + 3) (zSx b m (t + 1 + 1)) := ⟨l2.1, by rw [ey2]; exact but.1 c⟩
            obtain ⟨V5, m1, m2, m3, m4, m5⟩ := zstep hS hB k2 k3
            rw [if_pos c, zfi_t ok, b58_92 hS, m1]
            simp only [Option.bind_some, zpush9]
            rw [b58_96 tg d4]
            refine zwp_ret ⟨rfl, zFrm_w (zFrm_w (zFrm_t fr4 m4) (by omega)) (by omega), 1, rfl, Or.inl ⟨rfl, rfl, zRt_w (by omega) (zRt_w (by omega) m2), ?_, ?_⟩⟩
            · rw [← d3, ey2, show zSx b m (t + 1 + 3) = y4 from l3.symm]
              exact zSR_let m3 hg d4
            · rw [zwr_ne (by omega), zwr_ne (by omega), m5, k5, i5, f5, a5]
          · have nok : ¬ zStw b m (t + 1 + 3) (zSx b m (t + 1 + 1)) := fun z => c (but.2 (by rw [← ey2]; exact z.2))
            rw [if_neg c, zfi_f nok]
            exact no nok _
        · have nok : ¬ zStw b m (t + 1 + 3) (zSx b m (t + 1 + 1)) := fun z => l2 ⟨z.1, zsv_0 z.2⟩
          rw [if_pos l3, zfi_f nok]
          exact no nok _
      · rw [zfi_f j2, if_pos rfl, b58_96 tg d4]
        refine zwp_ret ⟨rfl, zFrm_w (zFrm_w fr3 (by omega)) (by omega), 1, rfl, Or.inl ⟨rfl, rfl, zRt_w (by omega) (zRt_w (by omega) i2), ?_, ?_⟩⟩
        · rw [← d3, show zSx b m (t + 1 + 1) = y2 from g3.symm]
          exact zSR_let i3 hg d4
        · rw [zwr_ne (by omega), zwr_ne (by omega), i5, f5, a5]
    · rw [zfi_f g2, if_pos g3, b58_36 hS, c60 hS, f2.2.2.1]
      simp only [Option.bind_some, zpush0]
      rw [b58_44 (by decide)]
      exact zwp_ret ⟨rfl, zfail (zFrm_t a4 f4) (s0 _) rfl⟩
  · rw [zfi_f d2, if_pos d3, b58_14 hS, c60 hS, a2.2.2.1]
    simp only [Option.bind_some, zpush0]
    rw [b58_22 (by decide)]
    exact zwp_ret ⟨rfl, zfail a4 (s0 _) rfl⟩
theorem c68 (hS : zStr T) (hB : zBy b m) (h : zRt V b m t) (hs : zSR V 28 K) : zwp (zcall 68 [(2, 58)] T V) fun r T' V' => T' = T ∧ zFrm V V' ∧ ∃ y, r = (0, y) ∧ zPcl b m V V' (zDro b m K t) y := by
  have s0 : ∀ t, 0 ≤ zS b m t := fun t => (zS_r hB.1.1 t).1
  obtain ⟨V1, a1, a2, a3, a4, a5⟩ := zstep hS hB h hs
  obtain ⟨y1, d1, d2⟩ := c63 hS hB a2
  have go : ∀ g q, ((g = 0 ∧ q = 28 + 5) ∨ (g = 1 ∧ q = 28 + 13)) → zwp (ev 68 22 [(2, 58), (2, q), (9, 0)] [] T V1) fun r T' V' => T' = T ∧ zFrm V V' ∧ ∃ y, r = (0, y) ∧ zPcl b m V V' (zDr2 b m K g t) y := fun g q hg => by
    have tg : zTongue T q := by
      rcases hg with ⟨-, rfl⟩ | ⟨-, rfl⟩
      · exact st33 hS
      · exact st41 hS
    obtain ⟨V2, f1, f2, f3, f4, f5⟩ := zstep hS hB a2 a3
    obtain ⟨y2, g1, g2⟩ := c59 hS hB f2
    rw [b68_22 hS, f1]
    simp only [Option.bind_some, zpush9]
    rw [b68_26 hS, g1]
    simp only [Option.bind_some, zpush0]
    rw [b68_30]
    unfold zDr2
    rcases g2 with ⟨g2, g3, g4⟩ | ⟨g2, g3⟩
    · rw [zfi_t g2, if_neg (by omega), b68_45 hS tg g4]
      have r2 : zRt (zwr (zwr V2 (q + 1) y2 0) (q + 2) y2 0) b m (t + 2) := zRt_w (by omega) (zRt_w (by omega) f2)
      have q2 : zSR (zwr (zwr V2 (q + 1) y2 0) (q + 2) y2 0) 28 (zku K (3 * (26 * g + y2)) 0) := zSR_dro f3 hg g4
      obtain ⟨V3, i1, i2, i3, i4, i5⟩ := zstep hS hB r2 q2
      rw [i1]
      simp only [Option.bind_some, zpush9]
      rw [b68_63]
      refine zwp_ret ⟨rfl, zFrm_t (zFrm_w (zFrm_w (zFrm_t a4 f4) (by omega)) (by omega)) i4, 1, rfl, Or.inl ⟨rfl, rfl, i2, ?_, ?_⟩⟩
      · rw [← g3]; exact i3
      · rw [i5, zwr_ne (by omega), zwr_ne (by omega), f5, a5]
    · rw [zfi_f g2, if_pos g3, b68_36 hS, c60 hS, f2.2.2.1]
      simp only [Option.bind_some, zpush0]
      rw [b68_44 (by decide)]
      exact zwp_ret ⟨rfl, zfail (zFrm_t a4 f4) (s0 _) rfl⟩
  rw [e68, b68_0 hS, a1]
  simp only [Option.bind_some, zpush9]
  rw [b68_4 hS, d1]
  simp only [Option.bind_some, zpush2]
  rw [b68_8]
  unfold zDro
  rcases d2 with ⟨d2, rfl⟩ | ⟨d2, d3, rfl⟩ | ⟨d2, d3, rfl⟩
  · rw [zfi_t d2, if_pos (by decide)]
    exact go 0 33 (Or.inl ⟨rfl, rfl⟩)
  · rw [zfi_f d2, zfi_t d3, if_pos (by decide)]
    exact go 1 41 (Or.inr ⟨rfl, rfl⟩)
  · rw [zfi_f d2, zfi_f d3, if_neg (by decide), b68_13 hS, c60 hS, a2.2.2.1]
    simp only [Option.bind_some, zpush0]
    rw [b68_21 (by decide)]
    exact zwp_ret ⟨rfl, zfail a4 (s0 _) rfl⟩
theorem c67 (hS : zStr T) (hB : zBy b m) (h : zRt V b m t) (hs : zSR V 28 K) : zwp (zcall 67 [(2, 58)] T V) fun r T' V' => T' = T ∧ zFrm V V' ∧ ∃ y, r = (0, y) ∧ zPcl b m V V' (zCos b m K t) y := by
  have s0 : ∀ t, 0 ≤ zS b m t := fun t => (zS_r hB.1.1 t).1
  obtain ⟨V1, a1, a2, a3, a4, a5⟩ := zstep hS hB h hs
  obtain ⟨y1, d1, d2⟩ := c64 hS hB a2
  have no1 : ∀ x, zwp (ev 67 20 [(2, 58), (0, x), (9, 0)] [] T V1) fun r T' V' => T' = T ∧ zFrm V V' ∧ ∃ y, r = (0, y) ∧ zPcl b m V V' (zS b m (t + 1), t, K) y := fun x => by
    rw [b67_20 hS, c60 hS, a2.2.2.1]
    simp only [Option.bind_some, zpush0]
    rw [b67_28 (by decide)]
    exact zwp_ret ⟨rfl, zfail a4 (s0 _) rfl⟩
  rw [e67, b67_0 hS, a1]
  simp only [Option.bind_some, zpush9]
  rw [b67_4 hS, d1]
  simp only [Option.bind_some, zpush0]
  rw [b67_8]
  unfold zCos
  by_cases c : zKd b m (zS b m (t + 1)) = 2 ∧ 1 ≤ zNx b m (t + 1) ∧ zNx b m (t + 1) ≤ 7
  · rcases d2 with ⟨d2, d3, d4⟩ | ⟨d2, d3⟩
    · have e1 : y1 = zNx b m (t + 1) := by omega
      rw [zfi_t c, if_neg (by omega), b67_14, if_pos (by omega)]
      obtain ⟨V2, f1, f2, f3, f4, f5⟩ := zstep hS hB a2 a3
      obtain ⟨y2, g1, g2⟩ := c64 hS hB f2
      have no2 : ∀ x2, zwp (ev 67 48 [(2, 58), (0, y1), (0, x2)] [] T V2) fun r T' V' => T' = T ∧ zFrm V V' ∧ ∃ y, r = (0, y) ∧ zPcl b m V V' (zS b m (t + 2), t, K) y := fun x2 => by
        rw [b67_48 hS, c60 hS, f2.2.2.1]
        simp only [Option.bind_some, zpush0]
        rw [b67_56 (by decide)]
        exact zwp_ret ⟨rfl, zfail (zFrm_t a4 f4) (s0 _) rfl⟩
      rw [b67_29 hS, f1]
      simp only [Option.bind_some, zpush9]
      rw [b67_33 hS, g1]
      simp only [Option.bind_some, zpush0]
      rw [b67_37]
      by_cases c2 : zKd b m (zS b m (t + 2)) = 2 ∧ zNx b m (t + 2) ≤ 99
      · rcases g2 with ⟨g2, g3, g4⟩ | ⟨g2, g3⟩
        · have g3' : y2 = min 1000 (zNx b m (t + 2)) := g3
          have g4' : 0 ≤ zNx b m (t + 2) := g4
          have e2 : y2 = zNx b m (t + 2) := by omega
          rw [zfi_t c2, if_neg (by omega), b67_42, if_pos (by omega), b67_57 hS (by omega) (by omega)]
          have r2 : zRt (zwr V2 32 (y1 - 1) y2) b m (t + 2) := zRt_w (by decide) f2
          have q2 : zSR (zwr V2 32 (y1 - 1) y2) 28 (zku K (293 + (y1 - 1)) y2) := by
            refine zSR_mc f3 (fun r r1 r2 => zwr_ne (by omega)) (fun i hi => zku_o (by omega)) (fun i i1 i2 => ?_)
            have q := f3.mir i1 i2
            rw [show (28 : Int) + 3 = 31 by decide, show (28 : Int) + 4 = 32 by decide] at q ⊢
            rw [zwr_ne (by decide), zwr_same, zku_o (by omega)]
            by_cases ci : i = y1 - 1
            · rw [if_pos ci, ci, zku_0]; rw [ci] at q; exact ⟨q.1, rfl⟩
            · rw [if_neg ci, zku_o (by omega)]; exact q
          obtain ⟨V3, i1, i2, i3, i4, i5⟩ := zstep hS hB r2 q2
          rw [i1]
          simp only [Option.bind_some, zpush9]
          rw [b67_73]
          refine zwp_ret ⟨rfl, zFrm_t (zFrm_w (zFrm_t a4 f4) (by decide)) i4, 1, rfl, Or.inl ⟨rfl, rfl, i2, ?_, ?_⟩⟩
          · rw [← e1, ← e2]; exact i3
          · rw [i5, zwr_ne (by decide), f5, a5]
        · exact absurd c2.1 g2
      · rw [zfi_f c2]
        by_cases cn : y2 < 0
        · rw [if_pos cn]; exact no2 _
        · rw [if_neg cn, b67_42, if_neg (by
            rcases g2 with ⟨g2, g3, g4⟩ | ⟨g2, g3⟩
            · have g3' : y2 = min 1000 (zNx b m (t + 2)) := g3
              have : ¬ zNx b m (t + 2) ≤ 99 := fun z => c2 ⟨g2, z⟩
              omega
            · omega)]
          exact no2 _
    · exact absurd c.1 d2
  · rw [zfi_f c]
    by_cases cn : y1 < 1
    · rw [if_pos cn]; exact no1 _
    · rw [if_neg cn, b67_14, if_neg (by
        rcases d2 with ⟨d2, d3, d4⟩ | ⟨d2, d3⟩
        · have : ¬ (1 ≤ zNx b m (t + 1) ∧ zNx b m (t + 1) ≤ 7) := fun z => c ⟨d2, z⟩
          omega
        · omega)]
      exact no1 _
end CLASS
