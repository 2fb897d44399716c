/-! the draft: a table more told -/
theorem zTg_q {V : zM} {q t : Int} {K K' : Int → Int} (h : zTg V q K t) (e : ∀ i, (3 * (26 * t) ≤ i ∧ i < 3 * (26 * t) + 78) ∨ (156 + 8 * (8 * t) ≤ i ∧ i < 156 + 8 * (8 * t) + 64) ∨ i = 284 + t ∨ 300 ≤ i → K' i = K i) (ht : 0 ≤ t ∧ t ≤ 1) : zTg V q K' t := by
  obtain ⟨a1, a2, a3, a4, a5, a6, a7, a8, a9⟩ := h
  refine ⟨fun l h1 h2 => by rw [e _ (by omega), e _ (by omega)]; exact a1 l h1 h2, fun l h1 h2 h3 => ?_, fun w h1 h2 => by rw [e _ (by omega), e _ (by omega)]; exact a3 w h1 h2, fun w i h1 h2 h3 h4 => by rw [e _ (by omega)]; exact a4 w i h1 h2 h3 h4, fun i h1 h2 => by rw [e _ (by omega)]; exact a5 i h1 h2, fun i h1 h2 => by rw [e _ (by omega)]; exact a6 i h1 h2, by rw [e _ (by omega)]; exact a7, by rw [e _ (by omega)]; exact a8, by rw [e _ (by omega)]; exact a9⟩
  rw [e _ (by omega)] at h3
  rw [e _ (by omega)]
  exact a2 l h1 h2 h3
theorem zYr_k {V : zM} {q : Int} {K K' : Int → Int} (h : zYr V q K) (e : ∀ i, 300 ≤ i → K' i = K i) : zYr V q K' := by
  refine ⟨by rw [e 426 (by decide)]; exact h.1, fun y h1 h2 => ?_⟩
  rw [e _ (by omega), e _ (by omega), e _ (by omega), e _ (by omega), e _ (by omega)]
  exact h.2 y h1 h2
/-- a tongue of the state changed -/
theorem zSR_tg {V V' : zM} {K K' : Int → Int} {B g q : Int} (h : zSR V B K) (hg : (g = 0 ∧ q = B + 5) ∨ (g = 1 ∧ q = B + 13)) (ev : ∀ r, r < q ∨ q + 7 < r → V' r = V r) (e : ∀ i, (286 ≤ i) ∨ (3 * (26 * (1 - g)) ≤ i ∧ i < 3 * (26 * (1 - g)) + 78) ∨ (156 + 8 * (8 * (1 - g)) ≤ i ∧ i < 156 + 8 * (8 * (1 - g)) + 64) ∨ i = 284 + (1 - g) → K' i = K i) (ht : zTg V' q K' g) : zSR V' B K' := by
  obtain ⟨a1, a2, a3, a4, a5, a6⟩ := h
  have low : ∀ d, 0 ≤ d → d ≤ 4 → V' (B + d) = V (B + d) := fun d d1 d2 => ev _ (by omega)
  have l0 := low 0 (by decide) (by decide)
  rw [Int.add_zero] at l0
  refine ⟨by rw [l0, e 427 (by omega)]; exact a1, fun c h1 h2 => by rw [low 1 (by decide) (by decide), low 2 (by decide) (by decide), e _ (by omega), e _ (by omega)]; exact a2 c h1 h2, fun i h1 h2 => by rw [low 3 (by decide) (by decide), low 4 (by decide) (by decide), e _ (by omega), e _ (by omega)]; exact a3 i h1 h2, ?_, ?_, zYr_congr (fun d d1 d2 => ev _ (by omega)) (zYr_k a6 (fun i hi => e i (by omega)))⟩
  · rcases hg with ⟨rfl, rfl⟩ | ⟨rfl, rfl⟩
    · exact ht
    · exact zTg_congr (fun d d1 d2 => ev _ (by omega)) (zTg_q a4 (fun i hi => e i (by omega)) (by decide))
  · rcases hg with ⟨rfl, rfl⟩ | ⟨rfl, rfl⟩
    · exact zTg_congr (fun d d1 d2 => ev _ (by omega)) (zTg_q a5 (fun i hi => e i (by omega)) (by decide))
    · exact ht
section DRAFT
variable {V V' : zM} {K : Int → Int} {B g q l : Int}
theorem zSR.tg (h : zSR V B K) (hg : (g = 0 ∧ q = B + 5) ∨ (g = 1 ∧ q = B + 13)) : zTg V q K g := by
  rcases hg with ⟨rfl, rfl⟩ | ⟨rfl, rfl⟩
  · exact h.east
  · exact h.west
theorem zSR_let {x y : Int} (h : zSR V B K) (hg : (g = 0 ∧ q = B + 5) ∨ (g = 1 ∧ q = B + 13)) (hl : 0 ≤ l ∧ l < 26) : zSR (zwr (zwr V (q + 1) l x) (q + 2) l y) B (zk3 K (3 * (26 * g + l)) 1 x y) := by
  have o : ∀ j, j < 3 * (26 * g + l) ∨ 3 * (26 * g + l) + 2 < j → zk3 K (3 * (26 * g + l)) 1 x y j = K j := fun j hj => zk3_o (by omega) (by omega) (by omega)
  refine zSR_tg h hg (fun r hr => by rw [zwr_ne (by omega), zwr_ne (by omega)]) (fun i hi => o i (by omega)) ?_
  obtain ⟨a1, a2, a3, a4, a5, a6, a7, a8, a9⟩ := h.tg hg
  have r : ∀ d, d = 0 ∨ (3 ≤ d ∧ d ≤ 7) → zwr (zwr V (q + 1) l x) (q + 2) l y (q + d) = V (q + d) := fun d hd => by rw [zwr_ne (by omega), zwr_ne (by omega)]
  have r0 := r 0 (Or.inl rfl)
  rw [Int.add_zero] at r0
  refine ⟨fun l' h1 h2 => ?_, fun l' h1 h2 h3 => ?_, fun w h1 h2 => by rw [r 3 (by decide), r 4 (by decide), o _ (by omega), o _ (by omega)]; exact a3 w h1 h2, fun w i h1 h2 h3 h4 => by rw [r 5 (by decide), o _ (by omega)]; exact a4 w i h1 h2 h3 h4, fun i h1 h2 => by rw [r 6 (by decide), o _ (by omega)]; exact a5 i h1 h2, fun i h1 h2 => by rw [r 7 (by decide), o _ (by omega)]; exact a6 i h1 h2, by rw [r0, o _ (by omega)]; exact a7, by rw [r0, o _ (by omega)]; exact a8, by rw [r0, o _ (by omega)]; exact a9⟩
  · rw [zwr_ne (by omega), zwr_same]
    by_cases c : l' = l
    · rw [c, if_pos rfl, zk3_0, if_pos rfl, zk3_1]
    · rw [if_neg c, o _ (by omega), o _ (by omega)]
      exact a1 l' h1 h2
  · rw [zwr_same]
    by_cases c : l' = l
    · rw [c, if_pos rfl, zk3_2]
    · rw [o _ (by omega)] at h3
      rw [if_neg c, zwr_ne (by omega), o _ (by omega)]
      exact a2 l' h1 h2 h3
theorem zSR_dro (h : zSR V B K) (hg : (g = 0 ∧ q = B + 5) ∨ (g = 1 ∧ q = B + 13)) (hl : 0 ≤ l ∧ l < 26) : zSR (zwr (zwr V (q + 1) l 0) (q + 2) l 0) B (zku K (3 * (26 * g + l)) 0) := by
  have o : ∀ j, j ≠ 3 * (26 * g + l) → zku K (3 * (26 * g + l)) 0 j = K j := fun j hj => zku_o hj
  refine zSR_tg h hg (fun r hr => by rw [zwr_ne (by omega), zwr_ne (by omega)]) (fun i hi => o i (by omega)) ?_
  obtain ⟨a1, a2, a3, a4, a5, a6, a7, a8, a9⟩ := h.tg hg
  have r : ∀ d, d = 0 ∨ (3 ≤ d ∧ d ≤ 7) → zwr (zwr V (q + 1) l 0) (q + 2) l 0 (q + d) = V (q + d) := fun d hd => by rw [zwr_ne (by omega), zwr_ne (by omega)]
  have r0 := r 0 (Or.inl rfl)
  rw [Int.add_zero] at r0
  refine ⟨fun l' h1 h2 => ?_, fun l' h1 h2 h3 => ?_, fun w h1 h2 => by rw [r 3 (by decide), r 4 (by decide), o _ (by omega), o _ (by omega)]; exact a3 w h1 h2, fun w i h1 h2 h3 h4 => by rw [r 5 (by decide), o _ (by omega)]; exact a4 w i h1 h2 h3 h4, fun i h1 h2 => by rw [r 6 (by decide), o _ (by omega)]; exact a5 i h1 h2, fun i h1 h2 => by rw [r 7 (by decide), o _ (by omega)]; exact a6 i h1 h2, by rw [r0, o _ (by omega)]; exact a7, by rw [r0, o _ (by omega)]; exact a8, by rw [r0, o _ (by omega)]; exact a9⟩
  · rw [zwr_ne (by omega), zwr_same]
    by_cases c : l' = l
    · rw [c, if_pos rfl, zku_0, if_neg (by decide)]
    · rw [if_neg c, o _ (by omega), o _ (by omega)]
      exact a1 l' h1 h2
  · by_cases c : l' = l
    · rw [c, zku_0] at h3; exact absurd h3 (by decide)
    · rw [o _ (by omega)] at h3
      rw [zwr_same, if_neg c, zwr_ne (by omega), o _ (by omega)]
      exact a2 l' h1 h2 h3
theorem zSR_wrd {b : Int → Int} {mn s n w : Int} (h : zSR V B K) (hg : (g = 0 ∧ q = B + 5) ∨ (g = 1 ∧ q = B + 13)) (hw : K (284 + g) = w ∧ 0 ≤ w ∧ w < 8) (hn : 1 ≤ n ∧ n ≤ 6) (er : ∀ r, r ≠ q → r ≠ q + 3 → r ≠ q + 4 → r ≠ q + 5 → V' r = V r) (e0 : V' q 5 = w + 1 ∧ ∀ j, j ≠ 5 → V' q j = V q j) (e3 : ∀ j, V' (q + 3) j = if j = w then mn else V (q + 3) j) (e4 : ∀ j, V' (q + 4) j = if j = w then n else V (q + 4) j) (e5 : (∀ i, 0 ≤ i → i < n → V' (q + 5) (w * 6 + i) = b (s + i) - 97) ∧ ∀ j, j < w * 6 ∨ w * 6 + n ≤ j → V' (q + 5) j = V (q + 5) j) : zSR V' B (zkw b K g mn s n) := by
  obtain ⟨hw0, hw1⟩ := hw
  have o : ∀ j, j ≠ 284 + g → j < 156 + 8 * (8 * g + w) ∨ 156 + 8 * (8 * g + w) + 2 + n ≤ j → zkw b K g mn s n j = K j := fun j h1 h2 => by
    unfold zkw
    rw [hw0, if_neg h1, if_neg (by omega), if_neg (by omega), if_neg (by omega)]
  refine zSR_tg h hg (fun r hr => er r (by omega) (by omega) (by omega) (by omega)) (fun i hi => o i (by omega) (by omega)) ?_
  obtain ⟨a1, a2, a3, a4, a5, a6, a7, a8, a9⟩ := h.tg hg
  refine ⟨fun l' h1 h2 => ?_, fun l' h1 h2 h3 => ?_, fun w' h1 h2 => ?_, fun w' i h1 h2 h3 h4 => ?_, fun i h1 h2 => ?_, fun i h1 h2 => ?_, ?_, ?_, ?_⟩
  · rw [er _ (by omega) (by omega) (by omega) (by omega), o _ (by omega) (by omega), o _ (by omega) (by omega)]
    exact a1 l' h1 h2
  · rw [o _ (by omega) (by omega)] at h3
    rw [er _ (by omega) (by omega) (by omega) (by omega), o _ (by omega) (by omega)]
    exact a2 l' h1 h2 h3
  · rw [e3, e4]
    by_cases c : w' = w
    · rw [if_pos c, if_pos c, c]
      refine ⟨?_, ?_⟩
      · unfold zkw; rw [hw0, if_neg (by omega), if_pos rfl]
      · unfold zkw; rw [hw0, if_neg (by omega), if_neg (by omega), if_pos rfl]
    · rw [if_neg c, if_neg c, o _ (by omega) (by omega), o _ (by omega) (by omega)]
      exact a3 w' h1 h2
  · by_cases c : w' = w ∧ i < n
    · rw [c.1, e5.1 i h3 c.2]
      unfold zkw
      rw [hw0, if_neg (by omega), if_neg (by omega), if_neg (by omega), if_pos (by omega), show s + (156 + 8 * (8 * g + w) + (2 + i) - (156 + 8 * (8 * g + w) + 2)) = s + i by omega]
    · rw [e5.2 _ (by omega), o _ (by omega) (by omega)]
      exact a4 w' i h1 h2 h3 h4
  · rw [er _ (by omega) (by omega) (by omega) (by omega), o _ (by omega) (by omega)]
    exact a5 i h1 h2
  · rw [er _ (by omega) (by omega) (by omega) (by omega), o _ (by omega) (by omega)]
    exact a6 i h1 h2
  · rw [e0.1, zkw_n, hw0]
  · rw [e0.2 7 (by decide), o _ (by omega) (by omega)]; exact a8
  · rw [e0.2 9 (by decide), o _ (by omega) (by omega)]; exact a9
theorem zSR_mc {K' : Int → Int} (h : zSR V B K) (er : ∀ r, r ≠ B + 3 → r ≠ B + 4 → V' r = V r) (e : ∀ i, i < 286 ∨ 300 ≤ i → K' i = K i) (h3 : ∀ i, 0 ≤ i → i < 7 → V' (B + 3) i = K' (286 + i) + 1 ∧ V' (B + 4) i = K' (293 + i)) : zSR V' B K' := by
  obtain ⟨a1, a2, a3, a4, a5, a6⟩ := h
  exact ⟨by rw [er B (by omega) (by omega), e 427 (by omega)]; exact a1, fun c h1 h2 => by rw [er _ (by omega) (by omega), er _ (by omega) (by omega), e _ (by omega), e _ (by omega)]; exact a2 c h1 h2, h3, zTg_congr (fun d d1 d2 => er _ (by omega) (by omega)) (zTg_q a4 (fun i hi => e i (by omega)) (by decide)), zTg_congr (fun d d1 d2 => er _ (by omega) (by omega)) (zTg_q a5 (fun i hi => e i (by omega)) (by decide)), zYr_congr (fun d d1 d2 => er _ (by omega) (by omega)) (zYr_k a6 (fun i hi => e i (by omega)))⟩
end DRAFT
/-- the row behind "not", read beside what must be -/
theorem zsv_but {b : Int → Int} {s e x : Int} (hx : 0 ≤ x ∧ x < 128) (h : zsv b s e 0) : zand (zsb b s (e - s).toNat) x = 0 ↔ zsv b s e x := by
  obtain ⟨r, g⟩ := zsb_r (b := b) (s := s) (e - s).toNat (fun i hi => zsv_d h (by omega))
  rw [zand_e0 (k := 7) (by decide) r.1 r.2]
  constructor
  · intro z i hi
    obtain ⟨d, nb⟩ := h i hi
    refine ⟨d, fun y => ?_⟩
    rw [zor_bt (by omega)] at y nb
    rcases y with y | y
    · exact nb (Or.inl y)
    · exact z (b (s + i) - 49).toNat (by omega) ⟨(g _ (by omega)).2 ⟨i, by omega, rfl⟩, y⟩
  · rintro z j hj ⟨y1, y2⟩
    obtain ⟨i, i1, i2⟩ := (g j (by omega)).1 y1
    obtain ⟨d, nb⟩ := z i (by omega)
    rw [i2, zor_bt (by omega)] at nb
    exact nb (Or.inr y2)
theorem zsv_0 {b : Int → Int} {s e x : Int} (h : zsv b s e x) : zsv b s e 0 := fun i hi => by
  obtain ⟨d, nb⟩ := h i hi
  refine ⟨d, fun y => nb ?_⟩
  rw [zor_bt (by omega)] at y ⊢
  exact y.elim Or.inl (fun z => absurd z zbt_z)
/-- seven strokes, none twice, are all -/
theorem zcnt_all {p : Int → Prop} : ∀ n : Nat, zcnt p n = n → ∀ j : Int, 0 ≤ j → j < n → p j
  | 0, _, j, h1, h2 => by omega
  | n + 1, h, j, h1, h2 => by
    rw [zcnt] at h
    have r := zcnt_r p n
    by_cases c : p n
    · rw [zif_t c] at h
      by_cases cj : j = n
      · rw [cj]; exact c
      · exact zcnt_all n (by omega) j h1 (by omega)
    · rw [zif_f c] at h
      omega
theorem zcnt_no (k : Nat) : zcnt (fun _ => False) k = 0 := by
  induction k with
  | zero => rfl
  | succ k ih => rw [zcnt, ih, zif_f id]; rfl
theorem zsv_7 {b : Int → Int} {s e : Int} (h : zsv b s e 0) (h7 : e - s = 7) : zsb b s (e - s).toNat = 127 := by
  have key : ∀ n : Nat, n ≤ 7 → zcnt (fun j => (0 ≤ j ∧ j < 7) ∧ zbt (zsb b s n) j.toNat) 7 = n := by
    intro n
    induction n with
    | zero =>
      intro _
      rw [zcnt_congr (q := fun _ => False) (fun j _ _ => ⟨fun z => absurd z.2 (by rw [zsb]; exact zbt_z), fun z => z.elim⟩), zcnt_no]
      rfl
    | succ n ih =>
      intro hn
      obtain ⟨d, nb⟩ := h n (by omega)
      obtain ⟨r, g⟩ := zsb_r (b := b) (s := s) n (fun i hi => zsv_d h (by omega))
      rw [zor_0 (by omega)] at nb
      rw [zcnt_add (p := fun j => (0 ≤ j ∧ j < 7) ∧ zbt (zsb b s n) j.toNat) (s0 := b (s + n) - 49) (by omega) (fun z => nb z.2), ih (by omega)]
      · omega
      · intro j
        rw [zsb]
        constructor
        · rintro ⟨j1, j2⟩
          rw [zor_bt (by omega), zbt_p2] at j2
          rcases j2 with j2 | j2
          · exact Or.inl ⟨j1, j2⟩
          · exact Or.inr (by omega)
        · rintro (⟨j1, j2⟩ | j1)
          · exact ⟨j1, (zor_bt (by omega)).2 (Or.inl j2)⟩
          · exact ⟨by omega, (zor_bt (by omega)).2 (Or.inr (zbt_p2.2 (by rw [j1])))⟩
  obtain ⟨r, g⟩ := zsb_r (b := b) (s := s) (e - s).toNat (fun i hi => zsv_d h (by omega))
  have k7 := key (e - s).toNat (by omega)
  have k8 : zcnt (fun j => (0 ≤ j ∧ j < 7) ∧ zbt (zsb b s (e - s).toNat) j.toNat) 7 = ((7 : Nat) : Int) := by rw [k7]; omega
  have all := zcnt_all 7 k8
  refine zbt_ext 7 r.1 r.2 (by decide) (by decide) (fun j hj => ⟨fun _ => z127 hj, fun _ => ?_⟩)
  have := (all (j : Int) (by omega) (by omega)).2
  rw [Int.toNat_natCast] at this
  exact this
