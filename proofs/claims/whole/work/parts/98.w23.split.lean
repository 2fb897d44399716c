/-! the reference: splits -/
def zTkn (V : zM) (b : Int → Int) (m : Int) (n : Nat) : Prop := ∀ t : Nat, t < n → zS b m t < m ∧ V 141 t = zS b m t ∧ V 139 t = zCd b m (zS b m t) ∧ zVo b m (zS b m t) (V 140 t)
section SPLIT2
variable {T : zT} {V : zM} {b : Int → Int} {m : Int}
/-- the end of a token -/
theorem c165e {k : Int} {v4 v5 : zV} {Q : zV → zT → zM → Prop} (hS : zStr T) (hc : zBc V b m) (hm : 0 ≤ m ∧ m ≤ 400) (hk : 0 ≤ k ∧ k < m) (kont : zwp (ev 165 100 [(2, 130), (0, m), (0, k), (0, V 137 k), (0, zF b m k), v5] [] T V) Q) : zwp (ev 165 31 [(2, 130), (0, m), (0, k), (0, V 137 k), v4, v5] [] T V) Q := by
  have zf : zF b m k = if zkb (b k) = 3 then k + 1 else zeb b m (zkb (b k)) (k + 1) := if_pos hk.2
  obtain ⟨f1, f2, f3, f4⟩ := zF_r (b := b) (m := m) (s := k) (by omega)
  obtain ⟨g1, g2, g3, g4⟩ := zBc_k hc hk.1 hk.2
  have fp := f2 hk.2
  -- digits
  have dig : zkb (b k) ≠ 1 → zwp (ev 165 68 [(2, 130), (0, m), (0, k), (0, V 137 k), (0, k + 1), v5] [] T V) Q := fun n1 => by
    rw [b165_68, c167]
    simp only [Option.bind_some, zpush0]
    rw [b165_72]
    by_cases c : zkb (b k) = 2
    · rw [if_pos (g2.1 c), if_neg (by decide)]
      refine zup (α := Unit) (fun _ _ => True) (fun x _ => zwp (ev 165 75 [(2, 130), (0, m), (0, k), (0, V 137 k), (0, x), v5] [] T V) Q) (lo := k + 1) (hi := zF b m k) (by omega) ?_ ?_ () trivial
      · intro _ _
        rw [b165_75]
        by_cases cm : m ≤ zF b m k
        · rw [if_pos cm]; exact kont
        · have q := (zBc_k hc (j := zF b m k) (by omega) (by omega)).2.1
          have := f4 hk.2 (by omega) (by omega)
          rw [if_neg cm, b165_81 hS (by omega), c167]
          simp only [Option.bind_some, zpush0]
          rw [b165_91, if_neg (c := 48 ≤ V 137 (zF b m k) ∧ V 137 (zF b m k) ≤ 57) (fun z => this (by rw [q.2 z, c])), if_pos rfl]
          exact kont
      · intro x _ x1 x2 _ next
        have q := (zBc_k hc (j := x) (by omega) (by omega)).2.1
        have := f3 hk.2 x (by omega) (by omega)
        rw [b165_75, if_neg (by omega), b165_81 hS (by omega), c167]
        simp only [Option.bind_some, zpush0]
        rw [b165_91, if_pos (c := 48 ≤ V 137 x ∧ V 137 x ≤ 57) (q.1 (by rw [this, c])), if_neg (by decide), b165_94 (by omega)]
        exact next () trivial
    · have k3 : zkb (b k) = 3 := by rcases zkb_r (b k) with q | q | q; exact absurd q n1; exact absurd q c; exact q
      rw [if_neg (fun z => c (g2.2 z)), if_pos rfl]
      rw [zf, if_pos k3] at kont
      exact kont
  rw [b165_31 (by omega), c166]
  simp only [Option.bind_some, zpush0]
  rw [b165_40]
  by_cases c : zkb (b k) = 1
  · rw [if_pos (g1.1 c), if_neg (by decide)]
    have nd : zwp (ev 165 68 [(2, 130), (0, m), (0, k), (0, V 137 k), (0, zF b m k), v5] [] T V) Q := by
      rw [b165_68, c167]
      simp only [Option.bind_some, zpush0]
      rw [b165_72, if_neg (c := 48 ≤ V 137 k ∧ V 137 k ≤ 57) (fun z => by have := g2.2 z; omega), if_pos rfl]
      exact kont
    refine zup (α := Unit) (fun _ _ => True) (fun x _ => zwp (ev 165 43 [(2, 130), (0, m), (0, k), (0, V 137 k), (0, x), v5] [] T V) Q) (lo := k + 1) (hi := zF b m k) (by omega) ?_ ?_ () trivial
    · intro _ _
      rw [b165_43]
      by_cases cm : m ≤ zF b m k
      · rw [if_pos cm]; exact nd
      · have q := (zBc_k hc (j := zF b m k) (by omega) (by omega)).1
        have := f4 hk.2 (by omega) (by omega)
        rw [if_neg cm, b165_49 hS (by omega), c166]
        simp only [Option.bind_some, zpush0]
        rw [b165_59, if_neg (c := 97 ≤ V 137 (zF b m k) ∧ V 137 (zF b m k) ≤ 122) (fun z => this (by rw [q.2 z, c])), if_pos rfl]
        exact nd
    · intro x _ x1 x2 _ next
      have q := (zBc_k hc (j := x) (by omega) (by omega)).1
      have := f3 hk.2 x (by omega) (by omega)
      rw [b165_43, if_neg (by omega), b165_49 hS (by omega), c166]
      simp only [Option.bind_some, zpush0]
      rw [b165_59, if_pos (c := 97 ≤ V 137 x ∧ V 137 x ≤ 122) (q.1 (by rw [this, c])), if_neg (by decide), b165_62 (by omega)]
      exact next () trivial
  · rw [if_neg (fun z => c (g1.2 z)), if_pos rfl]
    exact dig c
theorem c165 (hS : zStr T) (hw : zWd V) (hc : zBc V b m) (hm : 0 ≤ m ∧ m ≤ 400) : zwp (zcall 165 [(2, 130), (0, m)] T V) fun r T' V' => r = (9, 0) ∧ T' = T ∧ (∀ r, r ≠ 130 → ¬ (139 ≤ r ∧ r ≤ 141) → V' r = V r) ∧ (∀ j, j ≠ 17 → V' 130 j = V 130 j) ∧ ∃ N : Nat, V' 130 17 = N ∧ (N : Int) ≤ m ∧ zS b m N = m ∧ zTkn V' b m N ∧ V' 141 N = m ∧ V' 139 N = 0 := by
  rw [e165, b165_0 hS]
  have inv := zrec (σ := zM × Int × zV × zV × zV) (fun s => (m - s.2.1).toNat) (fun s => (∀ r, r ≠ 130 → ¬ (139 ≤ r ∧ r ≤ 141) → s.1 r = V r) ∧ (∀ j, j ≠ 17 → s.1 130 j = V 130 j) ∧ ∃ n : Nat, s.1 130 17 = n ∧ ((n : Int) ≤ s.2.1 ∧ s.2.1 ≤ m) ∧ zsk b m s.2.1 = zS b m n ∧ zTkn s.1 b m n) (fun s => zwp (ev 165 7 [(2, 130), (0, m), (0, s.2.1), s.2.2.1, s.2.2.2.1, s.2.2.2.2] [] T s.1) fun r T' V' => r = (9, 0) ∧ T' = T ∧ (∀ r, r ≠ 130 → ¬ (139 ≤ r ∧ r ≤ 141) → V' r = V r) ∧ (∀ j, j ≠ 17 → V' 130 j = V 130 j) ∧ ∃ N : Nat, V' 130 17 = N ∧ (N : Int) ≤ m ∧ zS b m N = m ∧ zTkn V' b m N ∧ V' 141 N = m ∧ V' 139 N = 0) ?_
  · exact inv (zwr V 130 17 0, 0, (9, 0), (9, 0), (9, 0)) ⟨fun r r1 r2 => zwr_ne r1, fun j hj => by show zwr V 130 17 0 130 j = _; rw [zwr_same, if_neg hj], 0, by show zwr V 130 17 0 130 17 = _; rw [zwr_same, if_pos rfl]; rfl, ⟨by show (0 : Int) ≤ 0; decide, hm.1⟩, rfl, fun t ht => by omega⟩
  · rintro ⟨W, k, v3, v4, v5⟩ ⟨w1, w2, n, w3, w4, w5, w6⟩ next
    show zwp (ev 165 7 [(2, 130), (0, m), (0, k), v3, v4, v5] [] T W) _
    replace w1 : ∀ r, r ≠ 130 → ¬ (139 ≤ r ∧ r ≤ 141) → W r = V r := w1
    replace w2 : ∀ j, j ≠ 17 → W 130 j = V 130 j := w2
    replace w3 : W 130 17 = n := w3
    replace w4 : (n : Int) ≤ k ∧ k ≤ m := w4
    replace w5 : zsk b m k = zS b m n := w5
    replace w6 : zTkn W b m n := w6
    have e137 := w1 137 (by decide) (by decide)
    have hc1 : zBc W b m := fun j j1 j2 => by rw [e137]; exact hc j j1 j2
    have hw1 : zWd W := fun j hj => by rw [w1 136 (by decide) (by decide)]; exact hw j hj
    rw [b165_7]
    by_cases ck : m ≤ k
    · have km : k = m := by omega
      have sn : zS b m n = m := by rw [← w5, zsk_n (by omega), km]
      have z1 : zwr W 141 (W 130 17) m 130 17 = n := by rw [zwr_ne (by decide), w3]
      have z2 : zwr (zwr W 141 n m) 139 n 0 130 17 = n := by rw [zwr_ne (by decide), zwr_ne (by decide), w3]
      have z1' : zwr W 141 n m 130 17 = n := by rw [zwr_ne (by decide), w3]
      rw [if_pos ck, b165_263 hS (by rw [w3]; omega) (by rw [z1]; omega) (by rw [w3, z1', z2]; omega), w3, z1', z2]
      refine zwp_ret ⟨rfl, rfl, fun r r1 r2 => by rw [zwr_ne (by omega), zwr_ne (by omega), zwr_ne (by omega), w1 r r1 r2], fun j hj => by rw [zwr_ne (by decide), zwr_ne (by decide), zwr_ne (by decide), w2 j hj], n, by rw [zwr_ne (by decide), zwr_ne (by decide), zwr_ne (by decide), w3], by omega, sn, fun t ht => ?_, by rw [zwr_ne (by decide), zwr_ne (by decide), zwr_same, if_pos rfl], by rw [zwr_ne (by decide), zwr_same, if_pos rfl]⟩
      obtain ⟨q1, q2, q3, q4⟩ := w6 t ht
      refine ⟨q1, ?_, ?_, ?_⟩
      · rw [zwr_ne (by decide), zwr_ne (by decide), zwr_same, if_neg (by omega)]; exact q2
      · rw [zwr_ne (by decide), zwr_same, if_neg (by omega), zwr_ne (by decide)]; exact q3
      · rw [zwr_same, if_neg (by omega), zwr_ne (by decide), zwr_ne (by decide)]; exact q4
    · have bk := (zBc_k hc1 (j := k) (by omega) (by omega)).2.2.1
      rw [if_neg ck, b165_12 hS (by omega)]
      by_cases cb : W 137 k = 32
      · rw [if_pos cb, b165_25 (by omega)]
        refine next (W, k + 1, _, _, _) (by show (m - (k + 1)).toNat < (m - k).toNat; omega) ⟨w1, w2, n, w3, ⟨by show (n : Int) ≤ k + 1; omega, by show k + 1 ≤ m; omega⟩, ?_, w6⟩
        show zsk b m (k + 1) = zS b m n
        rw [← w5, zsk_b (by omega) (bk.2 cb)]
      · have sn : zS b m n = k := by rw [← w5, zsk_n (fun z => cb (bk.1 z.2))]
        have fr := zF_r (b := b) (m := m) (s := k) (by omega)
        have fp := fr.2.1 (by omega)
        rw [if_neg cb]
        refine c165e hS hc1 hm (by omega) ?_
        have z1 : zwr W 141 (W 130 17) k 130 17 = n := by rw [zwr_ne (by decide), w3]
        have z1' : zwr W 141 n k 130 17 = n := by rw [zwr_ne (by decide), w3]
        have z2 : zwr (zwr W 141 n k) 140 n 0 130 17 = n := by rw [zwr_ne (by decide), zwr_ne (by decide), w3]
        obtain ⟨W1, hW1⟩ : ∃ W1, zwr (zwr W 141 n k) 140 n 0 = W1 := ⟨_, rfl⟩
        have y0 : ∀ r, r ≠ 140 → r ≠ 141 → W1 r = W r := fun r r1 r2 => by rw [← hW1, zwr_ne r1, zwr_ne r2]
        have y1 : ∀ j, W1 141 j = if j = n then k else W 141 j := fun j => by rw [← hW1, zwr_ne (by decide), zwr_same]
        have y2 : ∀ j, W1 140 j = if j = n then 0 else W 140 j := fun j => by rw [← hW1, zwr_same, zwr_ne (by decide)]
        rw [b165_100 hS (by rw [w3]; omega) (by rw [z1]; omega), w3, z1', z2, hW1, c166]
        simp only [Option.bind_some, zpush0]
        have hc2 : zBc W1 b m := fun j j1 j2 => by rw [y0 137 (by decide) (by decide)]; exact hc1 j j1 j2
        have kk := zBc_k hc1 (j := k) (by omega) (by omega)
        have bv := hc1 k (by omega) (by omega)
        have code : ∀ cd, cd = zCd b m k → zwp (ev 165 165 [(2, 130), (0, m), (0, k), (0, W 137 k), (0, zF b m k), v5] [(0, cd), (0, (n : Int)), (2, 139)] T W1) fun r T' V' => r = (9, 0) ∧ T' = T ∧ (∀ r, r ≠ 130 → ¬ (139 ≤ r ∧ r ≤ 141) → V' r = V r) ∧ (∀ j, j ≠ 17 → V' 130 j = V 130 j) ∧ ∃ N : Nat, V' 130 17 = N ∧ (N : Int) ≤ m ∧ zS b m N = m ∧ zTkn V' b m N ∧ V' 141 N = m ∧ V' 139 N = 0 := fun cd hcd => by
          rw [b165_165 hS (by omega)]
          -- behind the digits
          have fin : ∀ W2 v x5, (∀ r, ¬ (139 ≤ r ∧ r ≤ 141) → W2 r = W r) → (∀ j : Int, W2 141 j = if j = n then k else W 141 j) → (∀ j : Int, W2 139 j = if j = n then cd else W 139 j) → (∀ j : Int, W2 140 j = if j = n then v else W 140 j) → zVo b m k v → zwp (ev 165 247 [(2, 130), (0, m), (0, k), (0, W 137 k), (0, zF b m k), (0, x5)] [] T W2) fun r T' V' => r = (9, 0) ∧ T' = T ∧ (∀ r, r ≠ 130 → ¬ (139 ≤ r ∧ r ≤ 141) → V' r = V r) ∧ (∀ j, j ≠ 17 → V' 130 j = V 130 j) ∧ ∃ N : Nat, V' 130 17 = N ∧ (N : Int) ≤ m ∧ zS b m N = m ∧ zTkn V' b m N ∧ V' 141 N = m ∧ V' 139 N = 0 := fun W2 v x5 u1 u2 u3 u4 u5 => by
            have u17 : W2 130 17 = n := by rw [u1 130 (by decide), w3]
            rw [b165_247 hS (by rw [u17]; omega), u17]
            refine next (_, zF b m k, _, _, _) (by show (m - zF b m k).toNat < (m - k).toNat; omega) ⟨fun r r1 r2 => ?_, fun j hj => ?_, n + 1, ?_, ⟨by show ((n + 1 : Nat) : Int) ≤ zF b m k; omega, fr.1.2⟩, ?_, fun t ht => ?_⟩
            · show zwr W2 130 17 (n + 1) r = _
              rw [zwr_ne r1, u1 r r2, w1 r r1 r2]
            · show zwr W2 130 17 (n + 1) 130 j = _
              rw [zwr_same, if_neg hj, u1 130 (by decide), w2 j hj]
            · show zwr W2 130 17 (n + 1) 130 17 = _
              rw [zwr_same, if_pos rfl]; omega
            · show zsk b m (zF b m k) = zS b m (n + 1)
              rw [zS, sn]
            · show zS b m t < m ∧ zwr W2 130 17 (n + 1) 141 t = _ ∧ zwr W2 130 17 (n + 1) 139 t = _ ∧ zVo b m (zS b m t) (zwr W2 130 17 (n + 1) 140 t)
              rw [zwr_ne (by decide), zwr_ne (by decide), zwr_ne (by decide), u2, u3, u4]
              by_cases ct : t = n
              · rw [ct, if_pos rfl, if_pos rfl, if_pos rfl, sn]
                exact ⟨by omega, rfl, hcd, u5⟩
              · rw [if_neg (by omega), if_neg (by omega), if_neg (by omega)]
                exact w6 t (by omega)
          obtain ⟨W2, hW2⟩ : ∃ W2, zwr W1 139 n cd = W2 := ⟨_, rfl⟩
          rw [hW2]
          have x0 : ∀ r, ¬ (139 ≤ r ∧ r ≤ 141) → W2 r = W r := fun r hr => by rw [← hW2, zwr_ne (by omega), y0 r (by omega) (by omega)]
          have x1 : ∀ j, W2 141 j = if j = n then k else W 141 j := fun j => by rw [← hW2, zwr_ne (by decide), y1]
          have x2 : ∀ j, W2 139 j = if j = n then cd else W 139 j := fun j => by rw [← hW2, zwr_same, y0 139 (by decide) (by decide)]
          have x3 : ∀ j, W2 140 j = if j = n then 0 else W 140 j := fun j => by rw [← hW2, zwr_ne (by decide), y2]
          by_cases c2 : zkb (b k) = 2
          · have kd : ∀ x, k ≤ x → x < zF b m k → 48 ≤ b x ∧ b x ≤ 57 ∧ V 137 x = b x := fun x q1 q2 => by
              have e := fr.2.2.1 (by omega) x q1 q2
              rw [c2] at e
              have := zkb_2.1 e
              have q := (zBc_k hc (j := x) (by omega) (by omega)).2.2.2 (by rw [e]; decide)
              exact ⟨this.1, this.2, q⟩
            refine zup (α := zM × Int) (fun x s => (∀ r, ¬ (139 ≤ r ∧ r ≤ 141) → s.1 r = W r) ∧ (∀ j, s.1 141 j = if j = n then k else W 141 j) ∧ (∀ j, s.1 139 j = if j = n then cd else W 139 j) ∧ (∀ j, s.1 140 j = if j = n then s.2 else W 140 j) ∧ (0 ≤ s.2 ∧ s.2 ≤ 10000009) ∧ (s.2 = znv b k (x - k).toNat ∨ (1000000 < s.2 ∧ 1000000 < znv b k (x - k).toNat))) (fun x s => zwp (ev 165 169 [(2, 130), (0, m), (0, k), (0, W 137 k), (0, zF b m k), (0, x)] [] T s.1) fun r T' V' => r = (9, 0) ∧ T' = T ∧ (∀ r, r ≠ 130 → ¬ (139 ≤ r ∧ r ≤ 141) → V' r = V r) ∧ (∀ j, j ≠ 17 → V' 130 j = V 130 j) ∧ ∃ N : Nat, V' 130 17 = N ∧ (N : Int) ≤ m ∧ zS b m N = m ∧ zTkn V' b m N ∧ V' 141 N = m ∧ V' 139 N = 0) (lo := k) (hi := zF b m k) (by omega) ?_ ?_ (W2, 0) ⟨x0, x1, x2, x3, by show (0 : Int) ≤ 0 ∧ (0 : Int) ≤ 10000009; decide, Or.inl (by rw [show (k - k).toNat = 0 by omega]; rfl)⟩
            · rintro ⟨W3, v⟩ ⟨p1, p2, p3, p4, p5, p6⟩
              show zwp (ev 165 169 [(2, 130), (0, m), (0, k), (0, W 137 k), (0, zF b m k), (0, zF b m k)] [] T W3) _
              rw [b165_169, if_pos (by omega)]
              exact fin W3 v _ p1 p2 p3 p4 (fun _ => p6)
            · rintro x ⟨W3, v⟩ q1 q2 ⟨p1, p2, p3, p4, p5, p6⟩ next3
              show zwp (ev 165 169 [(2, 130), (0, m), (0, k), (0, W 137 k), (0, zF b m k), (0, x)] [] T W3) _
              replace p1 : ∀ r, ¬ (139 ≤ r ∧ r ≤ 141) → W3 r = W r := p1
              replace p2 : ∀ j, W3 141 j = if j = n then k else W 141 j := p2
              replace p3 : ∀ j, W3 139 j = if j = n then cd else W 139 j := p3
              replace p4 : ∀ j, W3 140 j = if j = n then v else W 140 j := p4
              replace p5 : 0 ≤ v ∧ v ≤ 10000009 := p5
              replace p6 : v = znv b k (x - k).toNat ∨ (1000000 < v ∧ 1000000 < znv b k (x - k).toNat) := p6
              have e17 : W3 130 17 = n := by rw [p1 130 (by decide), w3]
              have e140 : W3 140 n = v := by rw [p4, if_pos rfl]
              obtain ⟨k1, k2, k3⟩ := kd x q1 q2
              have e37 : W3 137 x = b x := by rw [p1 137 (by decide), e137, k3]
              have ei : k + ((x - k).toNat : Int) = x := by omega
              have nx : znv b k (x + 1 - k).toNat = znv b k (x - k).toNat * 10 + (b x - 48) := by
                rw [show (x + 1 - k).toNat = (x - k).toNat + 1 by omega, znv, ei]
              have put : ∀ v', (0 ≤ v' ∧ v' ≤ 10000009) → (v' = znv b k (x + 1 - k).toNat ∨ (1000000 < v' ∧ 1000000 < znv b k (x + 1 - k).toNat)) → zwp (ev 165 240 [(2, 130), (0, m), (0, k), (0, W 137 k), (0, zF b m k), (0, x)] [(0, v'), (0, (n : Int)), (2, 140)] T W3) fun r T' V' => r = (9, 0) ∧ T' = T ∧ (∀ r, r ≠ 130 → ¬ (139 ≤ r ∧ r ≤ 141) → V' r = V r) ∧ (∀ j, j ≠ 17 → V' 130 j = V 130 j) ∧ ∃ N : Nat, V' 130 17 = N ∧ (N : Int) ≤ m ∧ zS b m N = m ∧ zTkn V' b m N ∧ V' 141 N = m ∧ V' 139 N = 0 := fun v' r1 r2 => by
                rw [b165_240 hS (by omega) (by omega)]
                refine next3 (_, v') ⟨fun r hr => ?_, fun j => ?_, fun j => ?_, fun j => ?_, r1, r2⟩
                · show zwr W3 140 n v' r = _
                  rw [zwr_ne (by omega), p1 r hr]
                · show zwr W3 140 n v' 141 j = _
                  rw [zwr_ne (by decide), p2]
                · show zwr W3 140 n v' 139 j = _
                  rw [zwr_ne (by decide), p3]
                · show zwr W3 140 n v' 140 j = if j = n then v' else W 140 j
                  rw [zwr_same, p4]
                  by_cases cj : j = n
                  · rw [if_pos cj, if_pos cj]
                  · rw [if_neg cj, if_neg cj, if_neg cj]
              rw [b165_169, if_neg (by omega), b165_176, c167]
              simp only [Option.bind_some, zpush0]
              rw [b165_180, if_pos (kk.2.1.1 c2), if_neg (by decide), b165_183 hS (by rw [e17]; omega), e17, e140]
              by_cases c6 : v ≤ 1000000
              · rw [if_pos c6, b165_217 hS (by rw [e17]; omega) (by rw [e17, e140]; omega) (by omega) (by rw [e17, e140, e37]; omega) (by rw [e17, e140, e37]; omega), e17, e140, e37]
                exact put _ (by omega) (by omega)
              · rw [if_neg c6, b165_205 hS (by rw [e17]; omega), e17, e140]
                exact put _ p5 (by omega)
          · rw [b165_169, if_neg (by omega), b165_176, c167]
            simp only [Option.bind_some, zpush0]
            rw [b165_180, if_neg (c := 48 ≤ W 137 k ∧ W 137 k ≤ 57) (fun z => c2 (kk.2.1.2 z)), if_pos rfl]
            exact fin W2 0 _ x0 x1 x2 x3 (fun z => absurd (show zkb (b k) = 2 by rw [show zKd b m k = zkb (b k) from if_pos (by omega)] at z; exact z) c2)
        have zc : zCd b m k = if zkb (b k) = 1 then zWan b k (zF b m k) 7 else if zkb (b k) = 2 then 90 else 100 + b k := if_pos (by omega)
        rw [b165_132]
        by_cases c1 : zkb (b k) = 1
        · rw [if_pos (kk.1.1 c1), if_neg (by decide), b165_135 hS, c168 hS (fun j hj => by rw [y0 136 (by decide) (by decide)]; exact hw1 j hj) hc2 hm (by omega) (fun x q1 q2 => by rw [fr.2.2.1 (by omega) x q1 q2, c1])]
          simp only [Option.bind_some, zpush0]
          rw [b165_142]
          exact code _ (by rw [zc, if_pos c1])
        · rw [if_neg (fun z => c1 (kk.1.2 z)), if_pos rfl, b165_145, c167]
          simp only [Option.bind_some, zpush0]
          rw [b165_149]
          by_cases c2 : zkb (b k) = 2
          · rw [if_pos (kk.2.1.1 c2), if_neg (by decide), b165_152]
            exact code _ (by rw [zc, if_neg c1, if_pos c2])
          · have za : zand (W 137 k) 255 = b k := by rw [zand_255, bv.1]
            rw [if_neg (fun z => c2 (kk.2.1.2 z)), if_pos rfl, b165_157 (by rw [za]; have := bv; omega), za]
            exact code _ (by rw [zc, if_neg c1, if_neg c2])
end SPLIT2
