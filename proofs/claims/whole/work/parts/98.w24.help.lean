/-! the reference: tokens taken -/
def zMk (V : zM) (b : Int → Int) (m : Int) (N : Nat) : Prop := V 130 20 = m ∧ V 130 17 = N ∧ (N : Int) ≤ m ∧ zS b m N = m ∧ zTkn V b m N ∧ V 141 N = m ∧ V 139 N = 0 ∧ zBc V b m
def zMs (V : zM) (b : Int → Int) (m : Int) (N t : Nat) : Prop := zMk V b m N ∧ V 130 18 = t ∧ V 130 19 = -1 ∧ t ≤ N
def zMe (V V' : zM) : Prop := (∀ r, r ≠ 130 → V' r = V r) ∧ ∀ j, j ≠ 18 → j ≠ 19 → j ≠ 21 → V' 130 j = V 130 j
theorem zMe_w {V : zM} {i v : Int} (hi : i = 18 ∨ i = 19 ∨ i = 21) : zMe V (zwr V 130 i v) := ⟨fun r hr => zwr_ne hr, fun j j1 j2 j3 => by rw [zwr_same, if_neg (by omega)]⟩
theorem zMe_t {V V1 V2 : zM} (h : zMe V V1) (g : zMe V1 V2) : zMe V V2 := ⟨fun r hr => by rw [g.1 r hr, h.1 r hr], fun j j1 j2 j3 => by rw [g.2 j j1 j2 j3, h.2 j j1 j2 j3]⟩
theorem zMe_r {V : zM} : zMe V V := ⟨fun _ _ => rfl, fun _ _ _ _ => rfl⟩
section TAKE
variable {T : zT} {V V' : zM} {b : Int → Int} {m : Int} {N t : Nat}
theorem zMk_e (h : zMk V b m N) (e : zMe V V') : zMk V' b m N := by
  obtain ⟨a1, a2, a3, a4, a5, a6, a7, a8⟩ := h
  refine ⟨by rw [e.2 20 (by decide) (by decide) (by decide), a1], by rw [e.2 17 (by decide) (by decide) (by decide), a2], a3, a4, fun s hs => ?_, by rw [e.1 141 (by decide), a6], by rw [e.1 139 (by decide), a7], fun j j1 j2 => by rw [e.1 137 (by decide)]; exact a8 j j1 j2⟩
  rw [e.1 141 (by decide), e.1 139 (by decide), e.1 140 (by decide)]
  exact a5 s hs
theorem zMk_p (h : zMk V b m N) (ht : t ≤ N) : V 141 t = zS b m t ∧ V 139 t = zCd b m (zS b m t) ∧ (zS b m t < m ↔ t < N) ∧ zVo b m (zS b m t) (V 140 t) := by
  obtain ⟨a1, a2, a3, a4, a5, a6, a7, a8⟩ := h
  by_cases c : t = N
  · rw [c, a4]
    exact ⟨a6, by rw [a7]; exact (if_neg (by omega)).symm, ⟨fun z => by omega, fun z => by omega⟩, fun z => absurd z (by rw [show zKd b m m = 0 from if_neg (by omega)]; decide)⟩
  · obtain ⟨q1, q2, q3, q4⟩ := a5 t (by omega)
    exact ⟨q2, q3, ⟨fun _ => by omega, fun _ => q1⟩, q4⟩
/-- which code stands for which token -/
theorem zCd_n {x : Int} (hB : zBy b m) (hx : 0 ≤ x ∧ x < 7) : zCd b m (zS b m t) = x + 1 ↔ zNa b m t x := by
  have sr := zS_r (b := b) hB.1.1 t
  unfold zCd
  by_cases c : zS b m t < m
  · rw [if_pos c]
    have by_ := hB.2 (zS b m t) sr.1 c
    by_cases c1 : zkb (b (zS b m t)) = 1
    · rw [if_pos c1]
      exact (zWan_r 7 (by decide)).2 x (by omega) hx.2
    · rw [if_neg c1]
      have nn : ¬ zNa b m t x := fun z => c1 (by have := zNa_k hx z; rwa [show zKd b m (zS b m t) = zkb (b (zS b m t)) from if_pos c] at this)
      by_cases c2 : zkb (b (zS b m t)) = 2
      · rw [if_pos c2]; exact ⟨fun z => by omega, fun z => absurd z nn⟩
      · rw [if_neg c2]; exact ⟨fun z => by omega, fun z => absurd z nn⟩
  · rw [if_neg c]
    exact ⟨fun z => by omega, fun z => absurd (zNa_k hx z) (by rw [show zKd b m (zS b m t) = 0 from if_neg c]; decide)⟩
theorem zCd_s (hB : zBy b m) : (zCd b m (zS b m t) = 90 ↔ zKd b m (zS b m t) = 2) ∧ (zCd b m (zS b m t) = 159 ↔ zKd b m (zS b m t) = 3 ∧ b (zS b m t) = 59) := by
  have sr := zS_r (b := b) hB.1.1 t
  unfold zCd zKd
  by_cases c : zS b m t < m
  · rw [if_pos c, if_pos c]
    have by_ := hB.2 (zS b m t) sr.1 c
    by_cases c1 : zkb (b (zS b m t)) = 1
    · rw [if_pos c1, c1]
      have r := (zWan_r (b := b) (s := zS b m t) (e := zF b m (zS b m t)) 7 (by decide)).1
      exact ⟨⟨fun z => by omega, fun z => absurd z (by decide)⟩, fun z => by omega, fun z => absurd z.1 (by decide)⟩
    · rw [if_neg c1]
      by_cases c2 : zkb (b (zS b m t)) = 2
      · rw [if_pos c2, c2]; exact ⟨⟨fun _ => rfl, fun _ => rfl⟩, fun z => by omega, fun z => absurd z.1 (by decide)⟩
      · have c3 : zkb (b (zS b m t)) = 3 := by rcases zkb_r (b (zS b m t)) with q | q | q; exact absurd q c1; exact absurd q c2; exact q
        rw [if_neg c2, c3]; exact ⟨⟨fun z => by omega, fun z => absurd z (by decide)⟩, fun z => ⟨rfl, by omega⟩, fun z => by omega⟩
  · rw [if_neg c, if_neg c]
    exact ⟨⟨fun z => absurd z (by decide), fun z => absurd z (by decide)⟩, fun z => absurd z (by decide), fun z => absurd z.1 (by decide)⟩
theorem zKd_q (h : zMk V b m N) (ht : t ≤ N) (hk : zKd b m (zS b m t) ≠ 0) : t < N := by
  refine (zMk_p h ht).2.2.1.1 ?_
  by_cases c : zS b m t < m
  · exact c
  · exact absurd (if_neg c) hk
theorem c171 (hS : zStr T) (h : V 130 19 = -1) : zcall 171 [(2, 130)] T V = some ((0, 1), T, V) := by rw [e171, b171_0 hS, if_pos h, b171_8, b171_13 (by decide)]
theorem c171n (hS : zStr T) (h : V 130 19 ≠ -1) : zcall 171 [(2, 130)] T V = some ((0, 0), T, V) := by rw [e171, b171_0 hS, if_neg h, b171_12, b171_13 (by decide)]
theorem c174 (hS : zStr T) (hm : m ≤ 400) (h : zMs V b m N t) : zcall 174 [(2, 130)] T V = some ((9, 0), T, zwr V 130 19 (zS b m t)) := by
  obtain ⟨h1, h2, h3, h4⟩ := h
  have p := zMk_p h1 h4
  have hN := h1.2.2.1
  rw [e174, b174_0 hS, c171 hS h3]
  simp only [Option.bind_some, zpush0]
  rw [b174_4, if_neg (by decide), b174_7 hS (by rw [h2]; omega), h2, p.1, b174_20]
theorem zMs_n {v : Int} (h : zMs V b m N t) (ht : t < N) : zMs (zwr (zwr V 130 21 v) 130 18 ((t : Int) + 1)) b m N (t + 1) ∧ zMe V (zwr (zwr V 130 21 v) 130 18 ((t : Int) + 1)) ∧ zwr (zwr V 130 21 v) 130 18 ((t : Int) + 1) 130 21 = v := by
  have e : zMe V (zwr (zwr V 130 21 v) 130 18 ((t : Int) + 1)) := zMe_t (zMe_w (Or.inr (Or.inr rfl))) (zMe_w (Or.inl rfl))
  exact ⟨⟨zMk_e h.1 e, by rw [zwr_same, if_pos rfl]; omega, by rw [zwr_same, if_neg (by decide), zwr_same, if_neg (by decide), h.2.2.1], by omega⟩, e, by rw [zwr_same, if_neg (by decide), zwr_same, if_pos rfl]⟩
theorem c170 {x : Int} {P : Prop} (hS : zStr T) (hm : m ≤ 400) (h : zMs V b m N t) (hP : zCd b m (zS b m t) = x ↔ P) (hx : x ≠ 0) : ∃ y V', zcall 170 [(2, 130), (0, x)] T V = some ((0, y), T, V') ∧ ((y = 1 ∧ P ∧ zMs V' b m N (t + 1) ∧ zMe V V') ∨ (y = 0 ∧ ¬ P ∧ V' = V)) := by
  obtain ⟨h1, h2, h3, h4⟩ := id h
  have p := zMk_p h1 h4
  have hN := h1.2.2.1
  rw [e170, b170_0 hS, c171 hS h3]
  simp only [Option.bind_some, zpush0]
  rw [b170_4, if_neg (by decide), b170_7 hS (by rw [h2]; omega), h2, p.2.1]
  by_cases c : zCd b m (zS b m t) = x
  · have ht : t < N := by
      refine p.2.2.1.1 ?_
      by_cases cs : zS b m t < m
      · exact cs
      · exact absurd (c.symm.trans (if_neg cs)) hx
    rw [if_pos c, b170_20, b170_25, if_neg (by decide), b170_30 hS (by rw [h2]; omega), b170_40 (by decide), h2]
    have e : zMe V (zwr V 130 18 ((t : Int) + 1)) := zMe_w (Or.inl rfl)
    exact ⟨1, _, rfl, Or.inl ⟨rfl, hP.1 c, ⟨zMk_e h1 e, by rw [zwr_same, if_pos rfl]; omega, by rw [zwr_same, if_neg (by decide), h3], by omega⟩, e⟩⟩
  · rw [if_neg c, b170_24, b170_25, if_pos rfl, b170_40 (by decide)]
    exact ⟨0, V, rfl, Or.inr ⟨rfl, fun z => c (hP.2 z), rfl⟩⟩
/-- taken with a number got, or a fault -/
def zGt (b : Int → Int) (m : Int) (N t : Nat) (V V' : zM) (y : Int) (P : Prop) (v : Int) : Prop := zMe V V' ∧ ((y = 1 ∧ P ∧ zMs V' b m N (t + 1) ∧ V' 130 21 = v) ∨ (y = 0 ∧ ¬ P ∧ V' 130 19 = zS b m t))
theorem zGt_f (h : zMs V b m N t) {P : Prop} {v : Int} (hp : ¬ P) : zGt b m N t V (zwr V 130 19 (zS b m t)) 0 P v := ⟨zMe_w (Or.inr (Or.inl rfl)), Or.inr ⟨rfl, hp, by rw [zwr_same, if_pos rfl]⟩⟩
theorem c173 (hS : zStr T) (hB : zBy b m) (h : zMs V b m N t) : ∃ y V', zcall 173 [(2, 130)] T V = some ((0, y), T, V') ∧ zGt b m N t V V' y (zNa b m t 0 ∨ zNa b m t 1) (zif (zNa b m t 0) 0 1) := by
  obtain ⟨h1, h2, h3, h4⟩ := id h
  have p := zMk_p h1 h4
  have hN := h1.2.2.1
  have mm := hB.1
  have n0 := zCd_n (t := t) (x := 0) hB (by decide)
  have n1 := zCd_n (t := t) (x := 1) hB (by decide)
  rw [e173, b173_0 hS, c171 hS h3]
  simp only [Option.bind_some, zpush0]
  rw [b173_4, if_neg (by decide), b173_7 hS (by rw [h2]; omega), h2, p.2.1]
  have e18 : ∀ v, zwr V 130 21 v 130 18 = t := fun v => by rw [zwr_same, if_neg (by decide), h2]
  by_cases c0 : zCd b m (zS b m t) = 1
  · have a : zNa b m t 0 := n0.1 c0
    have ht := zKd_q h1 h4 (by rw [zNa_k (by decide) a]; decide)
    obtain ⟨q1, q2, q3⟩ := zMs_n (v := 0) h ht
    rw [if_pos c0, b173_33 hS (by rw [h2]; omega) (by rw [h2, p.2.1, c0]; decide) (by rw [e18]; omega), h2, p.2.1, c0, e18]
    exact ⟨1, _, rfl, q2, Or.inl ⟨rfl, Or.inl a, q1, by rw [zif_t a]; exact q3⟩⟩
  · rw [if_neg c0, b173_20 hS (by rw [h2]; omega), h2, p.2.1]
    by_cases c1 : zCd b m (zS b m t) = 2
    · have a : zNa b m t 1 := n1.1 c1
      have na : ¬ zNa b m t 0 := fun z => c0 (n0.2 z)
      have ht := zKd_q h1 h4 (by rw [zNa_k (by decide) a]; decide)
      obtain ⟨q1, q2, q3⟩ := zMs_n (v := 1) h ht
      rw [if_pos c1, b173_33 hS (by rw [h2]; omega) (by rw [h2, p.2.1, c1]; decide) (by rw [e18]; omega), h2, p.2.1, c1, e18]
      exact ⟨1, _, rfl, q2, Or.inl ⟨rfl, Or.inr a, q1, by rw [zif_f na]; exact q3⟩⟩
    · rw [if_neg c1, b173_60 hS, c174 hS mm.2 h]
      simp only [Option.bind_some, zpush9]
      rw [b173_64]
      exact ⟨0, _, rfl, zGt_f h (fun z => z.elim (fun z => c0 (n0.2 z)) (fun z => c1 (n1.2 z)))⟩
theorem c175 {lo hi : Int} (hS : zStr T) (hB : zBy b m) (h : zMs V b m N t) (hh : hi ≤ 99) : ∃ y V', zcall 175 [(2, 130), (0, lo), (0, hi)] T V = some ((0, y), T, V') ∧ zGt b m N t V V' y (zKd b m (zS b m t) = 2 ∧ lo ≤ zNx b m t ∧ zNx b m t ≤ hi) (zNx b m t) := by
  obtain ⟨h1, h2, h3, h4⟩ := id h
  have p := zMk_p h1 h4
  have hN := h1.2.2.1
  have mm := hB.1
  have fail : ∀ P v, ¬ P → ∃ y V', ev 175 63 [(2, 130), (0, lo), (0, hi)] [] T V = some ((0, y), T, V') ∧ zGt b m N t V V' y P v := fun P v hp => by
    rw [b175_63 hS, c174 hS mm.2 h]
    simp only [Option.bind_some, zpush9]
    rw [b175_67]
    exact ⟨0, _, rfl, zGt_f h hp⟩
  rw [e175, b175_0 hS, c171 hS h3]
  simp only [Option.bind_some, zpush0]
  rw [b175_4, if_neg (by decide), b175_7 hS (by rw [h2]; omega), h2, p.2.1]
  by_cases c : zCd b m (zS b m t) = 90
  · have k2 := (zCd_s (t := t) hB).1.1 c
    have vo := p.2.2.2 k2
    have vo' : V 140 t = zNx b m t ∨ (1000000 < V 140 t ∧ 1000000 < zNx b m t) := vo
    rw [if_pos c, b175_21 hS (by rw [h2]; omega), h2, c150]
    simp only [Option.bind_some, zpush0]
    rw [b175_35]
    by_cases c2 : lo ≤ V 140 t ∧ V 140 t ≤ hi
    · have ev : V 140 t = zNx b m t := by omega
      have ht := zKd_q h1 h4 (by rw [k2]; decide)
      obtain ⟨q1, q2, q3⟩ := zMs_n (v := zNx b m t) h ht
      have e18 : ∀ v, zwr V 130 21 v 130 18 = t := fun v => by rw [zwr_same, if_neg (by decide), h2]
      rw [if_pos c2, if_neg (by decide), b175_38 hS (by rw [h2]; omega) (by rw [e18]; omega), h2, ev, e18]
      exact ⟨1, _, rfl, q2, Or.inl ⟨rfl, ⟨k2, by omega, by omega⟩, q1, q3⟩⟩
    · rw [if_neg c2, if_pos rfl]
      exact fail _ _ (fun z => c2 (by omega))
  · rw [if_neg c]
    exact fail _ _ (fun z => c ((zCd_s (t := t) hB).1.2 z.1))
theorem c176 (hS : zStr T) (hB : zBy b m) (h : zMs V b m N t) : ∃ n, zcall 176 [(2, 130)] T V = some ((0, n), T, V) ∧ ((zKd b m (zS b m t) = 1 ∧ n = zF b m (zS b m t) - zS b m t) ∨ (zKd b m (zS b m t) ≠ 1 ∧ n = 0)) := by
  obtain ⟨h1, h2, h3, h4⟩ := id h
  have p := zMk_p h1 h4
  have hN := h1.2.2.1
  have mm := hB.1
  have bc := h1.2.2.2.2.2.2.2
  have sr := zS_r (b := b) hB.1.1 t
  obtain ⟨f1, f2, f3, f4⟩ := zF_r (b := b) sr.2
  rw [e176, b176_0 hS (by rw [h2]; omega), h2, p.1]
  by_cases cs : zS b m t < m
  · have kd : zKd b m (zS b m t) = zkb (b (zS b m t)) := if_pos cs
    have fp := f2 cs
    by_cases c : zkb (b (zS b m t)) = 1
    · refine ⟨zF b m (zS b m t) - zS b m t, ?_, Or.inl ⟨by rw [kd, c], rfl⟩⟩
      have key := zfor (fun x => ev 176 12 [(2, 130), (0, x - zS b m t), (0, x)] [] T V) (lo := zS b m t) (hi := zF b m (zS b m t)) f1.1 (fun x x1 x2 => by
        show ev 176 12 [(2, 130), (0, x - zS b m t), (0, x)] [] T V = ev 176 12 [(2, 130), (0, x + 1 - zS b m t), (0, x + 1)] [] T V
        have q := (zBc_k bc (j := x) (by omega) (by omega)).1.1 (by rw [f3 cs x x1 x2, c])
        rw [b176_12 hS, h1.1, if_neg (by omega), b176_20 hS (by omega), c166, if_pos q]
        simp only [Option.bind_some, zpush0]
        rw [b176_29, if_neg (by decide), b176_32 (by omega) (by omega), show x - zS b m t + 1 = x + 1 - zS b m t by omega])
      rw [show zS b m t - zS b m t = 0 by omega] at key
      rw [key, b176_12 hS, h1.1]
      by_cases cm : m ≤ zF b m (zS b m t)
      · rw [if_pos cm, b176_41]
      · have q := (zBc_k bc (j := zF b m (zS b m t)) (by omega) (by omega)).1
        have := f4 cs (by omega) (by omega)
        rw [if_neg cm, b176_20 hS (by omega), c166, if_neg (fun z => this (by rw [q.2 z, c]))]
        simp only [Option.bind_some, zpush0]
        rw [b176_29, if_pos rfl, b176_41]
    · have q := (zBc_k bc (j := zS b m t) sr.1 cs).1
      refine ⟨0, ?_, Or.inr ⟨by rw [kd]; exact c, rfl⟩⟩
      rw [b176_12 hS, h1.1, if_neg (by omega), b176_20 hS (by omega), c166, if_neg (fun z => c (q.2 z))]
      simp only [Option.bind_some, zpush0]
      rw [b176_29, if_pos rfl, b176_41]
  · refine ⟨0, ?_, Or.inr ⟨by rw [show zKd b m (zS b m t) = 0 from if_neg cs]; decide, rfl⟩⟩
    rw [b176_12 hS, h1.1, if_pos (by omega), b176_41]
theorem c178 (hS : zStr T) (hB : zBy b m) (h : zMs V b m N t) : ∃ y V', zcall 178 [(2, 130)] T V = some ((0, y), T, V') ∧ zGt b m N t V V' y (zOl b m t) (b (zS b m t) - 97) := by
  obtain ⟨h1, h2, h3, h4⟩ := id h
  have p := zMk_p h1 h4
  have hN := h1.2.2.1
  have mm := hB.1
  have bc := h1.2.2.2.2.2.2.2
  have sr := zS_r (b := b) hB.1.1 t
  have fail : ∀ P v, ¬ P → ∃ y V', ev 178 59 [(2, 130)] [] T V = some ((0, y), T, V') ∧ zGt b m N t V V' y P v := fun P v hp => by
    rw [b178_59 hS, c174 hS mm.2 h]
    simp only [Option.bind_some, zpush9]
    rw [b178_63]
    exact ⟨0, _, rfl, zGt_f h hp⟩
  obtain ⟨n, d1, d2⟩ := c176 hS hB h
  rw [e178, b178_0 hS, c171 hS h3]
  simp only [Option.bind_some, zpush0]
  rw [b178_4, if_neg (by decide), b178_7 hS, h1.2.1, h2]
  by_cases ct : (N : Int) ≤ (t : Int)
  · rw [if_pos ct]
    refine fail _ _ (fun z => ?_)
    have := zKd_q h1 h4 (by rw [z.1]; decide)
    omega
  · have sm := p.2.2.1.2 (by omega)
    rw [if_neg ct, b178_18 hS, d1]
    simp only [Option.bind_some, zpush0]
    rw [b178_22]
    by_cases c : n = 1
    · have ol : zOl b m t := by
        rcases d2 with d2 | d2
        · exact ⟨d2.1, by omega⟩
        · omega
      have l := zOl_r hB ol
      have ek : V 137 (zS b m t) = b (zS b m t) := (zBc_k bc (j := zS b m t) sr.1 sm).2.2.2 (by
        have := ol.1
        rw [show zKd b m (zS b m t) = zkb (b (zS b m t)) from if_pos sm] at this
        rw [this]; decide)
      obtain ⟨q1, q2, q3⟩ := zMs_n (v := b (zS b m t) - 97) h (by omega)
      have e18 : ∀ v, zwr V 130 21 v 130 18 = t := fun v => by rw [zwr_same, if_neg (by decide), h2]
      rw [if_pos c, b178_26 hS (by rw [h2]; omega) (by rw [h2, p.1]; omega) (by rw [h2, p.1, ek]; omega) (by rw [e18]; omega), h2, p.1, ek, e18]
      exact ⟨1, _, rfl, q2, Or.inl ⟨rfl, ol, q1, q3⟩⟩
    · rw [if_neg c]
      refine fail _ _ (fun z => ?_)
      rcases d2 with d2 | d2
      · exact c (by rw [d2.2]; exact z.2)
      · exact d2.1 z.1
end TAKE
