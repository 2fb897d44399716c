/-! layers -/
def zkd (k : Int) : Int := if k = 3 ∨ k = 5 ∨ k = 6 then 1 else 0
/-- seven rows behind g -/
def zRw (T : zT) (q g n : Int) : Prop := zO T q 1 ∧ ∀ k, 1 ≤ k → k ≤ 7 → zp T q k = g + k ∧ zAr T (g + k) (zkd k) n
theorem zRw_L {T : zT} {q g n : Int} (h : zRw T q g n) : zLayer T q n := by
  obtain ⟨h1, h2⟩ := h
  refine ⟨h1, ?_, ?_, ?_, ?_, ?_, ?_, ?_⟩
  · have := h2 1 (by decide) (by decide); rw [this.1]; exact this.2
  · have := h2 2 (by decide) (by decide); rw [this.1]; exact this.2
  · have := h2 3 (by decide) (by decide); rw [this.1]; exact this.2
  · have := h2 4 (by decide) (by decide); rw [this.1]; exact this.2
  · have := h2 5 (by decide) (by decide); rw [this.1]; exact this.2
  · have := h2 6 (by decide) (by decide); rw [this.1]; exact this.2
  · have := h2 7 (by decide) (by decide); rw [this.1]; exact this.2
theorem zLy_R {T : zT} {q g n : Int} (h : zLy T q g n) : zRw T q g n := by
  obtain ⟨⟨h1, r1, r2, r3, r4, r5, r6, r7⟩, ⟨p1, p2, p3, p4, p5, p6, p7⟩, -⟩ := h
  refine ⟨h1, fun k k1 k2 => ?_⟩
  have : k = 1 ∨ k = 2 ∨ k = 3 ∨ k = 4 ∨ k = 5 ∨ k = 6 ∨ k = 7 := by omega
  rcases this with e | e | e | e | e | e | e <;> subst e
  · rw [p1] at r1; exact ⟨p1, r1⟩
  · rw [p2] at r2; exact ⟨p2, r2⟩
  · rw [p3] at r3; exact ⟨p3, r3⟩
  · rw [p4] at r4; exact ⟨p4, r4⟩
  · rw [p5] at r5; exact ⟨p5, r5⟩
  · rw [p6] at r6; exact ⟨p6, r6⟩
  · rw [p7] at r7; exact ⟨p7, r7⟩
theorem zLy_of {T : zT} {q g n : Int} (h : zRw T q g n) (hg : g = q ∨ 152 ≤ g) (hn : 16 ≤ n ∧ n ≤ 80000) : zLy T q g n := by
  have h7 := (h.2 7 (by decide) (by decide)).2.1.2.1
  exact ⟨zRw_L h, ⟨(h.2 1 (by decide) (by decide)).1, (h.2 2 (by decide) (by decide)).1, (h.2 3 (by decide) (by decide)).1, (h.2 4 (by decide) (by decide)).1, (h.2 5 (by decide) (by decide)).1, (h.2 6 (by decide) (by decide)).1, (h.2 7 (by decide) (by decide)).1⟩, hg, h7, hn⟩
theorem zRw_x {T T' : zT} {C : Int → Int → Prop} {q g n : Int} (h : zRw T q g n) (x : zHx T T' C) (hc : ∀ k, ¬ C q k) : zRw T' q g n := by
  have hb := h.1.2.1
  exact ⟨zO_x x h.1, fun k k1 k2 => ⟨by rw [x.2.2 q k hb (hc k)]; exact (h.2 k k1 k2).1, zAr_x x (h.2 k k1 k2).2⟩⟩
section LAYER
variable {T : zT} {V : zM} {q g n : Int}
theorem c111 {j : Int} (h : zRw T q g n) (hj : 0 ≤ j ∧ j < n) : zcall 111 [(2, q), (0, j)] T V = some ((9, 0), T, zwr (zwr (zwr (zwr (zwr V (g + 3) j 0) (g + 4) j 1000000) (g + 5) j 0) (g + 6) j 0) (g + 7) j 0) := by
  rw [e111, b111_0 (zRw_L h) hj, (h.2 3 (by decide) (by decide)).1, (h.2 4 (by decide) (by decide)).1, (h.2 5 (by decide) (by decide)).1, (h.2 6 (by decide) (by decide)).1, (h.2 7 (by decide) (by decide)).1]
/-- what take leaves -/
def zCh (c h l p f r : Int) : Prop := p < c ∨ (p = c ∧ (f < h ∨ (f = h ∧ r < l)))
def zTk (V V' : zM) (g j m p f r mk : Int) : Prop := (∀ x, x < g + 3 ∨ g + 7 < x → V' x = V x) ∧ (∀ k, 3 ≤ k → k ≤ 7 → ∀ i, i ≠ j → V' (g + k) i = V (g + k) i) ∧ V' (g + 3) j = min 1000000000000 (V (g + 3) j + m) ∧ V' (g + 7) j = zor (V (g + 7) j) mk ∧ (zCh (V (g + 4) j) (V (g + 5) j) (V (g + 6) j) p f r → V' (g + 4) j = p ∧ V' (g + 5) j = f ∧ V' (g + 6) j = r) ∧ (¬ zCh (V (g + 4) j) (V (g + 5) j) (V (g + 6) j) p f r → V' (g + 4) j = V (g + 4) j ∧ V' (g + 5) j = V (g + 5) j ∧ V' (g + 6) j = V (g + 6) j)
theorem c112 {j m p f r mk : Int} (h : zRw T q g n) (hj : 0 ≤ j ∧ j < n) (hm : -9223372036854775808 ≤ V (g + 3) j + m ∧ V (g + 3) j + m ≤ 9223372036854775807) : ∃ V', zcall 112 [(2, q), (0, j), (1, m), (0, p), (1, f), (1, r), (0, mk)] T V = some ((9, 0), T, V') ∧ zTk V V' g j m p f r mk := by
  have hl := zRw_L h
  have p3 := (h.2 3 (by decide) (by decide)).1
  have p4 := (h.2 4 (by decide) (by decide)).1
  have p5 := (h.2 5 (by decide) (by decide)).1
  have p6 := (h.2 6 (by decide) (by decide)).1
  have p7 := (h.2 7 (by decide) (by decide)).1
  obtain ⟨W, hW⟩ : ∃ W, zwr (zwr V (g + 3) j (min 1000000000000 (V (g + 3) j + m))) (g + 7) j (zor (V (g + 7) j) mk) = W := ⟨_, rfl⟩
  have w4 : W (g + 4) = V (g + 4) := by rw [← hW, zwr_ne (by omega), zwr_ne (by omega)]
  have w5 : W (g + 5) = V (g + 5) := by rw [← hW, zwr_ne (by omega), zwr_ne (by omega)]
  have w6 : W (g + 6) = V (g + 6) := by rw [← hW, zwr_ne (by omega), zwr_ne (by omega)]
  have w3 : ∀ i, W (g + 3) i = if i = j then min 1000000000000 (V (g + 3) j + m) else V (g + 3) i := fun i => by rw [← hW, zwr_ne (by omega), zwr_same]
  have w7 : ∀ i, W (g + 7) i = if i = j then zor (V (g + 7) j) mk else V (g + 7) i := fun i => by rw [← hW, zwr_same, zwr_ne (by omega)]
  have wr : ∀ x, x < g + 3 ∨ g + 7 < x → W x = V x := fun x hx => by rw [← hW, zwr_ne (by omega), zwr_ne (by omega)]
  have keep : ¬ zCh (V (g + 4) j) (V (g + 5) j) (V (g + 6) j) p f r → zTk V W g j m p f r mk := fun q1 => by
    refine ⟨wr, fun k k1 k2 i hi => ?_, by rw [w3, if_pos rfl], by rw [w7, if_pos rfl], fun q2 => absurd q2 q1, fun _ => by rw [w4, w5, w6]; exact ⟨rfl, rfl, rfl⟩⟩
    have : k = 3 ∨ k = 4 ∨ k = 5 ∨ k = 6 ∨ k = 7 := by omega
    rcases this with e | e | e | e | e <;> subst e
    · rw [w3, if_neg hi]
    · rw [w4]
    · rw [w5]
    · rw [w6]
    · rw [w7, if_neg hi]
  have new : zCh (V (g + 4) j) (V (g + 5) j) (V (g + 6) j) p f r → zTk V (zwr (zwr (zwr W (g + 4) j p) (g + 5) j f) (g + 6) j r) g j m p f r mk := fun q1 => by
    refine ⟨fun x hx => by rw [zwr_ne (by omega), zwr_ne (by omega), zwr_ne (by omega), wr x hx], fun k k1 k2 i hi => ?_, by rw [zwr_ne (by omega), zwr_ne (by omega), zwr_ne (by omega), w3, if_pos rfl], by rw [zwr_ne (by omega), zwr_ne (by omega), zwr_ne (by omega), w7, if_pos rfl], fun _ => ⟨by rw [zwr_ne (by omega), zwr_ne (by omega), zwr_same, if_pos rfl], by rw [zwr_ne (by omega), zwr_same, if_pos rfl], by rw [zwr_same, if_pos rfl]⟩, fun q2 => absurd q1 q2⟩
    have : k = 3 ∨ k = 4 ∨ k = 5 ∨ k = 6 ∨ k = 7 := by omega
    rcases this with e | e | e | e | e <;> subst e
    · rw [zwr_ne (by omega), zwr_ne (by omega), zwr_ne (by omega), w3, if_neg hi]
    · rw [zwr_ne (by omega), zwr_ne (by omega), zwr_same, if_neg hi, w4]
    · rw [zwr_ne (by omega), zwr_same, if_neg hi, zwr_ne (by omega), w5]
    · rw [zwr_same, if_neg hi, zwr_ne (by omega), zwr_ne (by omega), w6]
    · rw [zwr_ne (by omega), zwr_ne (by omega), zwr_ne (by omega), w7, if_neg hi]
  have r7 : ∀ v, zwr V (g + 3) j v (g + 7) j = V (g + 7) j := fun v => by rw [zwr_ne (by omega)]
  -- behind the question which is lower
  have tail : ∀ y, (y = 1 ∧ (f < V (g + 5) j ∨ (f = V (g + 5) j ∧ r < V (g + 6) j))) ∨ (y = 0 ∧ ¬ (f < V (g + 5) j ∨ (f = V (g + 5) j ∧ r < V (g + 6) j))) → ∃ V', ev 112 72 [(2, q), (0, j), (1, m), (9, 0), (0, p), (1, f), (9, 0), (1, r), (9, 0), (0, mk), (9, 0)] [(0, y)] T W = some ((9, 0), T, V') ∧ zTk V V' g j m p f r mk := fun y hy => by
    rw [b112_72 hl hj, p4, w4]
    by_cases c1 : p < V (g + 4) j
    · exact ⟨_, by rw [if_pos c1, b112_101 hl hj, p4, p5, p6, b112_125], new (Or.inl c1)⟩
    · rw [if_neg c1, b112_85 hl hj, p4, w4]
      by_cases c2 : p = V (g + 4) j
      · rw [if_pos c2, b112_96]
        by_cases c3 : y = 0
        · refine ⟨_, by rw [if_pos c3, b112_125], keep (fun z => ?_)⟩
          rcases hy with hy | hy
          · omega
          · rcases z with z | z
            · exact c1 z
            · exact hy.2 z.2
        · refine ⟨_, by rw [if_neg c3, b112_101 hl hj, p4, p5, p6, b112_125], new (Or.inr ⟨c2, ?_⟩)⟩
          rcases hy with hy | hy
          · exact hy.2
          · exact absurd hy.1 c3
      · exact ⟨_, by rw [if_neg c2, b112_125], keep (fun z => z.elim c1 (fun z => c2 z.1))⟩
  rw [e112, b112_0 hl hj (by rw [p3]; exact hm), p3, p5, p7, r7, hW, w5]
  by_cases d1 : f < V (g + 5) j
  · rw [if_pos d1, b112_67]
    exact tail 1 (Or.inl ⟨rfl, Or.inl d1⟩)
  · rw [if_neg d1, b112_43 hl hj, p5, w5]
    by_cases d2 : f = V (g + 5) j
    · rw [if_pos d2, b112_55 hl hj, p6, w6]
      by_cases d3 : V (g + 6) j ≤ r
      · rw [if_pos d3, b112_71]
        exact tail 0 (Or.inr ⟨rfl, fun z => by omega⟩)
      · rw [if_neg d3, b112_67]
        exact tail 1 (Or.inl ⟨rfl, Or.inr ⟨d2, by omega⟩⟩)
    · rw [if_neg d2, b112_71]
      exact tail 0 (Or.inr ⟨rfl, fun z => by omega⟩)
/-- growing: i rows are new -/
def zGr (T : zT) (V : zM) (q g n i : Int) (T' : zT) (V' : zM) : Prop := zHx T T' (fun x k => x = q ∧ 1 ≤ k ∧ k ≤ 7) ∧ zsz T' = zsz T + i ∧ (T'.2.1 : Int) = (T.2.1 : Int) + 2 * n * i ∧ (∀ k, 1 ≤ k → k ≤ i → zp T' q k = zsz T - 1 + k ∧ zAr T' (zsz T - 1 + k) (zkd k) (2 * n)) ∧ (∀ k, i < k → k ≤ 7 → zp T' q k = g + k) ∧ (∀ r, r < zsz T → V' r = V r) ∧ ∀ k, 1 ≤ k → k ≤ i → ∀ j, 0 ≤ j → j < n → V' (zsz T - 1 + k) j = V (g + k) j
theorem zGr_s {i : Int} {T' : zT} {V' : zM} (hR : zRw T q g n) (hn : 0 < n) (h : zGr T V q g n i T' V') (hi : 0 ≤ i ∧ i < 7) : zGr T V q g n (i + 1) (zqw (zn T' (zkd (i + 1)) (2 * n)) q (i + 1) (zsz T')) (zcp (zs V' (zsz T') (fun _ => 0)) (zsz T') (g + (i + 1)) 0 0 n) := by
  obtain ⟨h1, h2, h3, h4, h5, h6, h7⟩ := h
  have hq := hR.1.2.1
  have hg := (hR.2 (i + 1) (by omega) (by omega)).2.1.2.1
  have x1 := zHx_n T' (zkd (i + 1)) (2 * n) (fun _ _ => False)
  have x2 := zHx_q (zn T' (zkd (i + 1)) (2 * n)) q (i + 1) (zsz T')
  refine ⟨zHx_m (zHx_t h1 (zHx_t x1 x2)) (fun x k _ z => ?_), ?_, ?_, fun k k1 k2 => ?_, fun k k1 k2 => ?_, fun r hr => ?_, fun k k1 k2 j j1 j2 => ?_⟩
  · rcases z with z | z | z
    · exact z
    · exact z.elim
    · omega
  · rw [zsz_q, zsz_n]; omega
  · rw [zsl_q, zsl_n]
    have e : 2 * n * (i + 1) = 2 * n * i + 2 * n := by rw [Int.mul_add, Int.mul_one]
    omega
  · rw [zp_q]
    by_cases e : k = i + 1
    · subst e
      rw [if_pos ⟨rfl, rfl⟩, show zsz T - 1 + (i + 1) = zsz T' by omega]
      exact ⟨rfl, zAr_x x2 (zAr_n T' _ _)⟩
    · rw [if_neg (fun z => e z.2), x1.2.2 q k (by omega) (fun z => z)]
      have := h4 k k1 (by omega)
      exact ⟨this.1, zAr_x x2 (zAr_x x1 this.2)⟩
  · rw [zp_q, if_neg (fun z => by omega), x1.2.2 q k (by omega) (fun z => z)]
    exact h5 k (by omega) k2
  · rw [zcp_ne (by omega), zsr_ne (by omega)]
    exact h6 r hr
  · by_cases e : k = i + 1
    · subst e
      rw [show zsz T - 1 + (i + 1) = zsz T' by omega, zcp_same, if_pos (by omega), zsr_ne (by omega), h6 _ hg, show 0 + (j - 0) = j by omega]
    · rw [zcp_ne (by omega), zsr_ne (by omega)]
      exact h7 k k1 (by omega) j j1 j2
theorem zGr_t {i k c : Int} {T' : zT} {V' : zM} (hR : zRw T q g n) (hn : 0 < n) (h : zGr T V q g n i T' V') (hi : 0 ≤ i ∧ i < 7) (hk : i + 1 = k) (hc : zkd k = c) : zGr T V q g n k (zqw (zn T' c (2 * n)) q k (zsz T')) (zcp (zs V' (zsz T') (fun _ => 0)) (zsz T') (g + k) 0 0 n) := by
  subst hk; subst hc
  exact zGr_s hR hn h hi
theorem c108 (hR : zRw T q g n) (hn : 16 ≤ n ∧ n ≤ 80000) : ∃ T' V', zcall 108 [(2, q), (0, 2 * n)] T V = some ((9, 0), T', V') ∧ zGr T V q g n 7 T' V' := by
  have s0 : zGr T V q g n 0 T V := ⟨zHx_r T _, by omega, by simp, fun k k1 k2 => by omega, fun k k1 k2 => (hR.2 k (by omega) k2).1, fun r _ => rfl, fun k k1 k2 => by omega⟩
  have hO := hR.1
  have ar : ∀ (i k c : Int) (Ti : zT) (Vi : zM), 0 ≤ i → i < 7 → i + 1 = k → zkd k = c → zGr T V q g n i Ti Vi → zO Ti q 1 ∧ zp Ti q k = g + k ∧ zAr Ti (g + k) c n := fun i k c Ti Vi i1 i2 hk hc z => by
    subst hk; subst hc
    exact ⟨zO_x z.1 hO, z.2.2.2.2.1 (i + 1) (by omega) (by omega), zAr_x z.1 (hR.2 (i + 1) (by omega) (by omega)).2⟩
  have hm : n < 2 * n ∧ 2 * n ≤ 1000000 := by omega
  obtain ⟨o1, p1, r1⟩ := ar 0 1 0 _ _ (by decide) (by decide) (by decide) (by decide) s0
  have s1 := zGr_t (k := 1) (c := 0) hR (by omega) s0 (by decide) (by decide) (by decide)
  obtain ⟨o2, p2, r2⟩ := ar 1 2 0 _ _ (by decide) (by decide) (by decide) (by decide) s1
  have s2 := zGr_t (k := 2) (c := 0) hR (by omega) s1 (by decide) (by decide) (by decide)
  obtain ⟨o3, p3, r3⟩ := ar 2 3 1 _ _ (by decide) (by decide) (by decide) (by decide) s2
  have s3 := zGr_t (k := 3) (c := 1) hR (by omega) s2 (by decide) (by decide) (by decide)
  obtain ⟨o4, p4, r4⟩ := ar 3 4 0 _ _ (by decide) (by decide) (by decide) (by decide) s3
  have s4 := zGr_t (k := 4) (c := 0) hR (by omega) s3 (by decide) (by decide) (by decide)
  obtain ⟨o5, p5, r5⟩ := ar 4 5 1 _ _ (by decide) (by decide) (by decide) (by decide) s4
  have s5 := zGr_t (k := 5) (c := 1) hR (by omega) s4 (by decide) (by decide) (by decide)
  obtain ⟨o6, p6, r6⟩ := ar 5 6 1 _ _ (by decide) (by decide) (by decide) (by decide) s5
  have s6 := zGr_t (k := 6) (c := 1) hR (by omega) s5 (by decide) (by decide) (by decide)
  obtain ⟨o7, p7, r7⟩ := ar 6 7 0 _ _ (by decide) (by decide) (by decide) (by decide) s6
  have s7 := zGr_t (k := 7) (c := 0) hR (by omega) s6 (by decide) (by decide) (by decide)
  have no : ∀ {Ti : zT} {c m : Int}, zO Ti q 1 → zO (zn Ti c m) q 1 := fun z => zO_x (zHx_n _ _ _ (fun _ _ => False)) z
  refine ⟨_, _, ?_, s7⟩
  rw [e108, o108_0 o1, p1, c109 r1 hm (by omega)]
  simp only [Option.bind_some, zpush2]
  rw [o108_9 (no o1), o108_12 o2, p2, c109 r2 hm (by omega)]
  simp only [Option.bind_some, zpush2]
  rw [o108_21 (no o2), o108_24 o3, p3, c110 r3 hm (by omega)]
  simp only [Option.bind_some, zpush2]
  rw [o108_33 (no o3), o108_36 o4, p4, c109 r4 hm (by omega)]
  simp only [Option.bind_some, zpush2]
  rw [o108_45 (no o4), o108_48 o5, p5, c110 r5 hm (by omega)]
  simp only [Option.bind_some, zpush2]
  rw [o108_57 (no o5), o108_60 o6, p6, c110 r6 hm (by omega)]
  simp only [Option.bind_some, zpush2]
  rw [o108_69 (no o6), o108_72 o7, p7, c109 r7 hm (by omega)]
  simp only [Option.bind_some, zpush2]
  rw [o108_81 (no o7), b108_84]
end LAYER
