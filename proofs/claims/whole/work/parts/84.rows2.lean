/-! rows of words, rows of a story, moves -/
section ROWS2
variable {T : zT} {V : zM} {b q t : Int} {K : Int → Int}
def zTkeep (V V' : zM) (b : Int) : Prop := (∀ r, r < b ∨ b + 5 < r → V' r = V r) ∧ ∀ j, j ≠ 5 → V' b j = V b j
theorem c126 (h : zRows T b) (hq : zTongue T q) (hap : zap b 8 q 8) (ht : t = 0 ∨ t = 1) (hw : zTw V q K t) : zwp (zcall 126 [(2, b), (2, q), (0, t)] T V) fun r T' V' => r = (9, 0) ∧ T' = T ∧ zTkeep V V' b ∧ ∃ nd Q L, zTri V' b K 1 t nd Q L := by
  have hap' := hap
  unfold zap at hap
  have hms : zms K 1 t = 1 := if_pos rfl
  rw [e126, b126_0 h]
  obtain ⟨U, u1, a0, a1, a2, a3, a4, a5, a6⟩ := c103 (V := zwr V b 5 0) (k := 26) (nd := 0) h (by rw [zwr_same, if_pos rfl]) (by decide)
  rw [u1]
  simp only [Option.bind_some, zpush0]
  rw [b126_11]
  have ku : zTkeep V U b := ⟨fun r hr => by rw [a0 r hr, zwr_ne (by omega)], fun j hj => by rw [a1, if_neg hj, zwr_same, if_neg hj]⟩
  have hwU : zTw U q K t := zTw_congr (fun d g1 g2 => ku.1 _ (by omega)) hw
  have start : zTF U b K 1 t 0 0 0 1 (fun x => x) (fun _ => 0) (fun _ => 0) (fun _ => []) := by
    refine ⟨⟨by rw [a1, if_pos rfl]; rfl, by decide⟩, ?_, zTe_start (fun x x1 x2 => ⟨by rw [a5, if_pos (by omega)], by rw [a6, if_pos (by omega)]⟩)⟩
    have := zTi_start (K := K) (a := 1) (t := t) (le := U (b + 1)) (ch := U (b + 2)) (si := U (b + 3)) hw.1.2.1 (fun x x1 x2 => by rw [a3, if_pos (by omega)])
    rw [hms] at this
    exact this
  refine zup (α := zM × Int × zG × zV) (fun w c => zTkeep V c.1 b ∧ zTF c.1 b K 1 t 0 w 0 c.2.1 c.2.2.1.1 c.2.2.1.2.1 c.2.2.1.2.2.1 c.2.2.1.2.2.2) (fun w c => zwp (ev 126 15 [(2, b), (2, q), (0, t), (0, 0), (0, w), c.2.2.2] [] T c.1) fun r T' V' => r = (9, 0) ∧ T' = T ∧ zTkeep V V' b ∧ ∃ nd Q L, zTri V' b K 1 t nd Q L) (lo := 0) (hi := K (284 + t)) hw.1.2.1 ?_ ?_ (U, 1, ((fun x => x), (fun _ => 0), (fun _ => 0), (fun _ => [])), (9, 0)) ⟨ku, start⟩
  · intro c hc
    show zwp (ev 126 15 _ _ _ _) _
    obtain ⟨kc, ⟨nn, ti, te⟩⟩ := hc
    have hwc : zTw c.1 q K t := zTw_congr (fun d g1 g2 => kc.1 _ (by omega)) hw
    rw [b126_15 hq, if_pos (by rw [hwc.1.1]; omega), b126_57]
    refine zwp_ret ⟨rfl, rfl, kc, c.2.1, _, _, zTri_of (q := q) ht hwc (by omega) (Or.inr rfl) (M := c.2.2.1.1) (N := c.2.2.1.2.1) (O := c.2.2.1.2.2.1) (L := c.2.2.1.2.2.2) ⟨nn, ?_, ?_⟩⟩
    · have := zTi_next ti
      rw [hms]
      exact this
    · have := zTe_next te
      rw [hms]
      exact this
  · intro w c w1 w2 hc next
    show zwp (ev 126 15 _ _ _ _) _
    obtain ⟨kc, hT⟩ := hc
    have hwc : zTw c.1 q K t := zTw_congr (fun d g1 g2 => kc.1 _ (by omega)) hw
    have wl := (hwc.2.2.1 w w1 w2).2.2.1
    rw [b126_15 hq, if_neg (by rw [hwc.1.1]; omega), b126_24 h]
    refine zwp_seq (c104 (a := 1) h hq hap' ht hwc ⟨w1, w2⟩ (by omega) (Or.inl rfl) hT) ?_
    rintro r T1 V1 ⟨rfl, k1, k2, x, nd', M', N', O', L', rfl, x1, x2, x3, ⟨nn, ti, te⟩⟩
    simp only [zpush0]
    have nd196 : nd' ≤ 196 := by
      have h9 := ti.2.2.2.2.2.2.2.2
      rw [hms] at h9
      have := hw.1.2
      omega
    rw [b126_33 h (by omega) (by have := hw.1.2; omega)]
    have V2 : ∀ r, r ≠ b + 4 → r ≠ b + 5 → zwr (zwr V1 (b + 5) x 1) (b + 4) x 0 r = V1 r := fun r q1 q2 => by rw [zwr_ne q1, zwr_ne q2]
    refine next (zwr (zwr V1 (b + 5) x 1) (b + 4) x 0, nd', (M', N', O', L'), (0, x)) ⟨⟨fun r hr => by show zwr (zwr V1 (b + 5) x 1) (b + 4) x 0 r = V r; rw [V2 r (by omega) (by omega), k1 r hr, kc.1 r hr], fun j hj => by show zwr (zwr V1 (b + 5) x 1) (b + 4) x 0 b j = V b j; rw [V2 b (by omega) (by omega), k2 j hj, kc.2 j hj]⟩, ⟨⟨by show zwr (zwr V1 (b + 5) x 1) (b + 4) x 0 b 5 = nd'; rw [V2 b (by omega) (by omega)]; exact nn.1, nn.2⟩, ?_, ?_⟩⟩
    · show zTi K 1 t 0 (w + 1) 0 nd' (zwr (zwr V1 (b + 5) x 1) (b + 4) x 0 (b + 1)) (zwr (zwr V1 (b + 5) x 1) (b + 4) x 0 (b + 2)) (zwr (zwr V1 (b + 5) x 1) (b + 4) x 0 (b + 3)) M' N' O' L'
      rw [V2 (b + 1) (by omega) (by omega), V2 (b + 2) (by omega) (by omega), V2 (b + 3) (by omega) (by omega)]
      exact zTi_word ti wl.2 (fun _ => rfl) (by omega) (fun z => absurd (Or.inl rfl) z)
    · show zTe K 1 t 0 (w + 1) nd' M' N' O' (zwr (zwr V1 (b + 5) x 1) (b + 4) x 0 (b + 4)) (zwr (zwr V1 (b + 5) x 1) (b + 4) x 0 (b + 5))
      refine zTe_word te ti x1 x2 w1 (by omega) x3 rfl (Or.inl rfl) (fun z z1 z2 => ?_) (fun z z1 z2 => ?_)
      · rw [zwr_same, zwr_ne (by omega), if_pos rfl]
      · rw [zwr_ne (by omega), zwr_same, hms, if_pos (show (0 : Int) = 1 - 1 by decide)]
theorem zTri_0 {nd : Int} (hms : zms K 0 t = 0) (hn : nd = 1) (h5 : V b 5 = nd) (hc : V (b + 2) 0 = -1) (hg : V (b + 4) 0 = 0) (he : V (b + 5) 0 = 1) : zTri V b K 0 t nd (fun _ => 0) (fun _ => []) := by
  have del : ∀ s, zdel K 0 t 0 s = zif (s = 26) 0 (-1) := fun s => by
    unfold zdel
    rw [zif_t hms]
    exact zif_congr ⟨fun q => q.2, fun q => ⟨rfl, q⟩⟩ (fun _ => rfl) (fun _ => rfl)
  refine ⟨⟨h5, by omega, by omega⟩, rfl, fun x x1 x2 => ?_⟩
  have e : x = 0 := by omega
  subst e
  refine ⟨Int.le_refl 0, hc, by simp, fun y hy => absurd hy List.not_mem_nil, List.Pairwise.nil, fun s s1 s2 q => ?_, Or.inr ⟨by omega, ?_⟩, ?_⟩
  · have q' : zdel K 0 t 0 s ≠ -1 := q
    rw [del, zif_f (by omega)] at q'
    exact absurd rfl q'
  · show zdel K 0 t 0 26 = 0
    rw [del, zif_t rfl]
  · rw [he]
    exact (zif_t (Or.inl ⟨hms, rfl⟩)).symm
theorem c102 (h : zRows T b) (hq : zTongue T q) (hap : zap b 8 q 8) (ht : t = 0 ∨ t = 1) (hw : zTw V q K t) : zwp (zcall 102 [(2, b), (2, q), (0, t)] T V) fun r T' V' => r = (9, 0) ∧ T' = T ∧ zTkeep V V' b ∧ ∃ nd Q L, zTri V' b K 0 t nd Q L := by
  have hap' := hap
  unfold zap at hap
  have hms : zms K 0 t = K (374 + t) := if_neg (by decide)
  obtain ⟨ms, hm⟩ : ∃ ms, K (374 + t) = ms := ⟨_, rfl⟩
  rw [hm] at hms
  have hmr : 0 ≤ ms ∧ ms ≤ 4 := by rw [← hm]; exact hw.2.1.2
  rw [e102, b102_0 hq h, hw.2.1.1, hm]
  obtain ⟨U, u1, a0, a1, a2, a3, a4, a5, a6⟩ := c103 (V := zwr V b 5 0) (k := 26) (nd := 0) h (by rw [zwr_same, if_pos rfl]) (by decide)
  rw [u1]
  simp only [Option.bind_some, zpush0]
  rw [b102_16]
  have ku : zTkeep V U b := ⟨fun r hr => by rw [a0 r hr, zwr_ne (by omega)], fun j hj => by rw [a1, if_neg hj, zwr_same, if_neg hj]⟩
  by_cases m0 : ms = 0
  · rw [if_pos m0, b102_22 h (by decide), b102_39, b102_42, if_pos (by omega), b102_61, b102_64, if_pos (by omega), b102_183]
    refine zwp_ret ⟨rfl, rfl, ⟨fun r hr => by rw [zwr_ne (by omega), zwr_ne (by omega), ku.1 r hr], fun j hj => by rw [zwr_ne (by omega), zwr_ne (by omega), ku.2 j hj]⟩, 1, _, _, zTri_0 (by omega) rfl ?_ ?_ ?_ ?_⟩
    · rw [zwr_ne (by omega), zwr_ne (by omega), a1, if_pos rfl]; rfl
    · rw [zwr_ne (by omega), zwr_ne (by omega), a3, if_pos rfl]
    · rw [zwr_ne (by omega), zwr_same, if_pos rfl]
    · rw [zwr_same, if_pos rfl]
  rw [if_neg m0, b102_39]
  -- the roots
  refine zup (α := zM) (fun i W => zTkeep V W b ∧ W b 5 = i ∧ ∀ x, 0 ≤ x → x < i → W (b + 2) x = -1 ∧ W (b + 4) x = -1 ∧ W (b + 5) x = 0) (fun i W => zwp (ev 102 42 [(2, b), (2, q), (0, t), (0, ms), (0, 0), (0, i), (9, 0), (9, 0), (9, 0)] [] T W) fun r T' V' => r = (9, 0) ∧ T' = T ∧ zTkeep V V' b ∧ ∃ nd Q L, zTri V' b K 0 t nd Q L) (lo := 1) (hi := ms) (by omega) ?_ ?_ U ⟨ku, by rw [a1, if_pos rfl]; rfl, fun x x1 x2 => ⟨by rw [a3, if_pos (by omega)], by rw [a5, if_pos (by omega)], by rw [a6, if_pos (by omega)]⟩⟩
  · intro W hW
    show zwp (ev 102 42 _ _ _ _) _
    obtain ⟨kw, w5, wx⟩ := hW
    rw [b102_42, if_pos (by omega), b102_61]
    have start : zTF W b K 0 t 0 0 0 ms (fun x => x) (fun _ => 0) (fun _ => 0) (fun _ => []) := by
      refine ⟨⟨w5, by omega⟩, ?_, zTe_start (fun x x1 x2 => ⟨(wx x x1 x2).2.1, (wx x x1 x2).2.2⟩)⟩
      have := zTi_start (K := K) (a := 0) (t := t) (le := W (b + 1)) (ch := W (b + 2)) (si := W (b + 3)) hw.1.2.1 (fun x x1 x2 => (wx x x1 (by omega)).1)
      rw [hms] at this
      exact this
    -- the places of the story
    refine zup (α := zM × Int × zG × zV × zV × zV) (fun m c => zTkeep V c.1 b ∧ zTF c.1 b K 0 t m 0 0 c.2.1 c.2.2.1.1 c.2.2.1.2.1 c.2.2.1.2.2.1 c.2.2.1.2.2.2) (fun m c => zwp (ev 102 64 [(2, b), (2, q), (0, t), (0, ms), (0, 0), (0, m), c.2.2.2.1, c.2.2.2.2.1, c.2.2.2.2.2] [] T c.1) fun r T' V' => r = (9, 0) ∧ T' = T ∧ zTkeep V V' b ∧ ∃ nd Q L, zTri V' b K 0 t nd Q L) (lo := 0) (hi := ms) hmr.1 ?_ ?_ (W, ms, ((fun x => x), (fun _ => 0), (fun _ => 0), (fun _ => [])), (9, 0), (9, 0), (9, 0)) ⟨kw, start⟩
    · intro c hc
      show zwp (ev 102 64 _ _ _ _) _
      obtain ⟨kc, hT⟩ := hc
      have hwc : zTw c.1 q K t := zTw_congr (fun d g1 g2 => kc.1 _ (by omega)) hw
      rw [b102_64, if_pos (by omega), b102_183]
      refine zwp_ret ⟨rfl, rfl, kc, c.2.1, _, _, zTri_of (q := q) ht hwc (by omega) (Or.inl rfl) (M := c.2.2.1.1) (N := c.2.2.1.2.1) (O := c.2.2.1.2.2.1) (L := c.2.2.1.2.2.2) ?_⟩
      rw [hms]
      exact hT
    · intro m c m1 m2 hc next
      show zwp (ev 102 64 _ _ _ _) _
      obtain ⟨kc, hT⟩ := hc
      have hwc : zTw c.1 q K t := zTw_congr (fun d g1 g2 => kc.1 _ (by omega)) hw
      obtain ⟨mean, hmean⟩ : ∃ mean, K (366 + 4 * t + (if t = 0 then m else K (374 + t) - 1 - m)) = mean := ⟨_, rfl⟩
      have fitE : ∀ w, zfits K 0 t w m ↔ zmn K t w = mean := fun w => by
        unfold zfits
        rw [hmean]
        exact ⟨fun z => z.resolve_left (by decide), Or.inr⟩
      have toW : ∀ Q, zwp (ev 102 64 [(2, b), (2, q), (0, t), (0, ms), (0, 0), (0, m), c.2.2.2.1, c.2.2.2.2.1, c.2.2.2.2.2] [] T c.1) Q ↔ zwp (ev 102 95 [(2, b), (2, q), (0, t), (0, ms), (0, 0), (0, m), (0, mean), (0, 0), c.2.2.2.2.2] [] T c.1) Q := fun Q => by
        rw [b102_64, if_neg (by omega), b102_70 hq, ← hmean]
        rcases ht with e | e
        · subst e
          rw [if_pos rfl, if_pos rfl, b102_87, b102_89 hq.a7 (by omega), hwc.2.2.2 m m1 (by omega)]
        · subst e
          rw [if_neg (by decide), if_neg (by decide), b102_78 (by omega) (by omega), b102_89 hq.a7 (by omega), hm, hwc.2.2.2 (ms - 1 - m) (by omega) (by omega)]
      rw [toW]
      refine zup (α := zM × Int × zG × zV) (fun w d => zTkeep V d.1 b ∧ zTF d.1 b K 0 t m w 0 d.2.1 d.2.2.1.1 d.2.2.1.2.1 d.2.2.1.2.2.1 d.2.2.1.2.2.2) (fun w d => zwp (ev 102 95 [(2, b), (2, q), (0, t), (0, ms), (0, 0), (0, m), (0, mean), (0, w), d.2.2.2] [] T d.1) fun r T' V' => r = (9, 0) ∧ T' = T ∧ zTkeep V V' b ∧ ∃ nd Q L, zTri V' b K 0 t nd Q L) (lo := 0) (hi := K (284 + t)) hw.1.2.1 ?_ ?_ (c.1, c.2.1, c.2.2.1, c.2.2.2.2.2) ⟨kc, hT⟩
      · intro d hd
        show zwp (ev 102 95 _ _ _ _) _
        obtain ⟨kd, ⟨nn, ti, te⟩⟩ := hd
        have hwd : zTw d.1 q K t := zTw_congr (fun e g1 g2 => kd.1 _ (by omega)) hw
        rw [b102_95 hq, if_pos (by rw [hwd.1.1]; omega), b102_177 (by omega)]
        exact next (d.1, d.2.1, d.2.2.1, (0, mean), (0, K (284 + t)), d.2.2.2) ⟨kd, nn, zTi_next ti, zTe_next te⟩
      · intro w d w1 w2 hd next2
        show zwp (ev 102 95 _ _ _ _) _
        obtain ⟨kd, hT2⟩ := hd
        have hwd : zTw d.1 q K t := zTw_congr (fun e g1 g2 => kd.1 _ (by omega)) hw
        have wf := hwd.2.2.1 w w1 w2
        have w8 := hw.1.2
        rw [b102_95 hq, if_neg (by rw [hwd.1.1]; omega), b102_104 hq (by omega), wf.1]
        by_cases g : zmn K t w = mean
        · rw [if_pos g, b102_116 h]
          refine zwp_seq (c104 (a := 0) h hq hap' ht hwd ⟨w1, w2⟩ (by omega) ((fitE w).2 g) hT2) ?_
          rintro r T1 V1 ⟨rfl, k1, k2, x, nd', M', N', O', L', rfl, x1, x2, x3, ⟨nn, ti, te⟩⟩
          simp only [zpush0]
          have nd196 : nd' ≤ 196 := by
            have h9 := ti.2.2.2.2.2.2.2.2
            rw [hms] at h9
            have e1 : 6 * K (284 + t) * m ≤ 6 * K (284 + t) * (ms - 1) := Int.mul_le_mul_of_nonneg_left (by omega) (by omega)
            have e2 : 6 * K (284 + t) * (ms - 1) ≤ 48 * (ms - 1) := Int.mul_le_mul_of_nonneg_right (by omega) (by omega)
            have wl := wf.2.2.1
            omega
          -- what is written of the end
          have wr : ∀ (e g2 : Int), e = (if m = ms - 1 then 1 else 0) → g2 = (if m < ms - 1 then m + 1 else -1) → zwp (ev 102 171 [(2, b), (2, q), (0, t), (0, ms), (0, 0), (0, m), (0, mean), (0, w), (0, x)] [] T1 (zwr (zwr V1 (b + 5) x e) (b + 4) x g2)) fun r T' V' => r = (9, 0) ∧ T' = T1 ∧ zTkeep V V' b ∧ ∃ nd Q L, zTri V' b K 0 t nd Q L := fun e g2 he hg => by
            rw [b102_171 (by omega)]
            have V2 : ∀ r, r ≠ b + 4 → r ≠ b + 5 → zwr (zwr V1 (b + 5) x e) (b + 4) x g2 r = V1 r := fun r q1 q2 => by rw [zwr_ne q1, zwr_ne q2]
            refine next2 (zwr (zwr V1 (b + 5) x e) (b + 4) x g2, nd', (M', N', O', L'), (0, x)) ⟨⟨fun r hr => by show zwr (zwr V1 (b + 5) x e) (b + 4) x g2 r = V r; rw [V2 r (by omega) (by omega), k1 r hr, kd.1 r hr], fun j hj => by show zwr (zwr V1 (b + 5) x e) (b + 4) x g2 b j = V b j; rw [V2 b (by omega) (by omega), k2 j hj, kd.2 j hj]⟩, ⟨⟨by show zwr (zwr V1 (b + 5) x e) (b + 4) x g2 b 5 = nd'; rw [V2 b (by omega) (by omega)]; exact nn.1, nn.2⟩, ?_, ?_⟩⟩
            · show zTi K 0 t m (w + 1) 0 nd' (zwr (zwr V1 (b + 5) x e) (b + 4) x g2 (b + 1)) (zwr (zwr V1 (b + 5) x e) (b + 4) x g2 (b + 2)) (zwr (zwr V1 (b + 5) x e) (b + 4) x g2 (b + 3)) M' N' O' L'
              rw [V2 (b + 1) (by omega) (by omega), V2 (b + 2) (by omega) (by omega), V2 (b + 3) (by omega) (by omega)]
              exact zTi_word ti wf.2.2.1.2 (fun _ => rfl) (by have := wf.2.2.1; omega) (fun z => absurd ((fitE w).2 g) z)
            · show zTe K 0 t m (w + 1) nd' M' N' O' (zwr (zwr V1 (b + 5) x e) (b + 4) x g2 (b + 4)) (zwr (zwr V1 (b + 5) x e) (b + 4) x g2 (b + 5))
              refine zTe_word te ti x1 x2 w1 (by have := wf.2.2.1; omega) x3 rfl ((fitE w).2 g) (fun z z1 z2 => ?_) (fun z z1 z2 => ?_)
              · rw [zwr_same, zwr_ne (by omega), if_neg (show ¬ (0 : Int) = 1 by decide), hms, ← hg]
              · rw [zwr_ne (by omega), zwr_same, hms, ← he]
          rw [b102_126 h (by omega)]
          by_cases l : m = ms - 1
          · rw [if_pos l, b102_142, b102_147 h.a5 (by omega) (by decide) h (by omega), if_pos l, b102_162, b102_170 h.a4 (by omega)]
            exact wr 1 (-1) (by rw [if_pos l]) (by rw [if_neg (by omega)])
          · rw [if_neg l, b102_146, b102_147 h.a5 (by omega) (by decide) h (by omega), if_neg l, b102_166 (by omega), b102_170 h.a4 (by omega)]
            exact wr 0 (m + 1) (by rw [if_neg l]) (by rw [if_pos (by omega)])
        · rw [if_neg g, b102_171 (by omega)]
          obtain ⟨nn, ti, te⟩ := hT2
          have nf : ¬ zfits K 0 t w m := fun z => g ((fitE w).1 z)
          exact next2 (d.1, d.2.1, d.2.2.1, d.2.2.2) ⟨kd, nn, zTi_word ti (by decide) (fun z => absurd z nf) (by decide) (fun _ => rfl), zTe_skip te nf⟩
  · intro i W i1 i2 hW next
    show zwp (ev 102 42 _ _ _ _) _
    obtain ⟨kw, w5, wx⟩ := hW
    obtain ⟨X, v1, d0, d1, d2, d3, d4, d5, d6⟩ := c103 (V := W) (k := 26) (nd := i) h w5 (by omega)
    rw [b102_42, if_neg (by omega), b102_48 h, v1]
    simp only [Option.bind_some, zpush0]
    rw [b102_54 (by omega)]
    refine next X ⟨⟨fun r hr => by rw [d0 r hr, kw.1 r hr], fun j hj => by rw [d1, if_neg hj, kw.2 j hj]⟩, by rw [d1, if_pos rfl], fun x x1 x2 => ?_⟩
    rw [d3, d5, d6]
    by_cases e : x = i
    · rw [if_pos e, if_pos e, if_pos e]; exact ⟨rfl, rfl, rfl⟩
    · rw [if_neg e, if_neg e, if_neg e]; exact wx x x1 (by omega)
end ROWS2
