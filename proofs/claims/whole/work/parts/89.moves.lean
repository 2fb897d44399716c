/-! moves from a node -/
def zMl (V : zM) (b : Int) (l : List (Int × Int)) : Prop := V b 8 = l.length ∧ ∀ (i : Nat) (p : Int × Int), l[i]? = some p → V (b + 6) i = p.1 ∧ V (b + 7) i = p.2
def zMf (V V' : zM) (b : Int) : Prop := (∀ r, r ≠ b → r ≠ b + 6 → r ≠ b + 7 → V' r = V r) ∧ ∀ j, j ≠ 8 → V' b j = V b j
theorem zMf_t {V V' V'' : zM} {b : Int} (h : zMf V V' b) (g : zMf V' V'' b) : zMf V V'' b := ⟨fun r h1 h2 h3 => by rw [g.1 r h1 h2 h3, h.1 r h1 h2 h3], fun j hj => by rw [g.2 j hj, h.2 j hj]⟩
def zMv (V : zM) (b : Int) (K : Int → Int) (a t nd : Int) (Q : Int → Int) (x : Int) : Prop := (0 ≤ V b 8 ∧ V b 8 ≤ 9) ∧ (∀ i, 0 ≤ i → i < V b 8 → (0 ≤ V (b + 6) i ∧ V (b + 6) i < 27) ∧ (0 ≤ V (b + 7) i ∧ V (b + 7) i < nd) ∧ zdel K a t (Q x) (V (b + 6) i) = Q (V (b + 7) i) ∧ 0 ≤ Q (V (b + 7) i)) ∧ (∀ i j, 0 ≤ i → i < j → j < V b 8 → V (b + 6) i ≠ V (b + 6) j) ∧ ∀ s, 0 ≤ s → s < 27 → zdel K a t (Q x) s ≠ -1 → ∃ i, (0 ≤ i ∧ i < V b 8) ∧ V (b + 6) i = s
section MOVES
variable {T : zT} {V : zM} {b : Int}
theorem c115 {k y : Int} {l : List (Int × Int)} (hR : zRows T b) (h : zMl V b l) (hl : l.length < 9) : ∃ V', zcall 115 [(2, b), (0, k), (0, y)] T V = some ((9, 0), T, V') ∧ zMf V V' b ∧ zMl V' b (l ++ [(k, y)]) := by
  obtain ⟨h1, h2⟩ := h
  have e1 : ∀ v, zwr V (b + 6) (V b 8) v b 8 = V b 8 := fun v => by rw [zwr_ne (by omega)]
  have e2 : ∀ v u, zwr (zwr V (b + 6) (V b 8) v) (b + 7) (V b 8) u b 8 = V b 8 := fun v u => by rw [zwr_ne (by omega), zwr_ne (by omega)]
  have e3 : ∀ v u, zwr (zwr V (b + 6) (V b 8) v) (b + 7) (zwr V (b + 6) (V b 8) v b 8) u b 8 = V b 8 := fun v u => by rw [e1, e2]
  rw [e115, b115_0 hR, if_neg (by omega), b115_9 hR (by omega) (by rw [e1]; omega) (by rw [e3]; omega), e3, e1, b115_39]
  refine ⟨_, rfl, ⟨fun r r1 r2 r3 => by rw [zwr_ne r1, zwr_ne r3, zwr_ne r2], fun j hj => by rw [zwr_same, if_neg hj, zwr_ne (by omega), zwr_ne (by omega)]⟩, ?_, fun i p hp => ?_⟩
  · rw [zwr_same, if_pos rfl, h1, List.length_append]
    simp
  · rw [zwr_ne (by omega), zwr_ne (by omega), zwr_same, zwr_ne (by omega), zwr_same, zwr_ne (by omega), h1]
    by_cases c : i = l.length
    · subst c
      rw [List.getElem?_append_right (Nat.le_refl _)] at hp
      simp at hp
      subst hp
      rw [if_pos rfl, if_pos rfl]
      exact ⟨rfl, rfl⟩
    · have hi : i < l.length := by
        have := (List.getElem?_eq_some_iff.1 hp).1
        rw [List.length_append] at this
        simp at this
        omega
      rw [List.getElem?_append_left hi] at hp
      rw [if_neg (by omega), if_neg (by omega)]
      exact h2 i p hp
theorem c114l {x : Int} {le si : Int → Int} (hR : zRows T b) : ∀ (l : List Int) (p i : Int) (V : zM) (m : List (Int × Int)), V (b + 1) = le → V (b + 3) = si → zch si p l → (∀ y, y ∈ l → 0 ≤ y ∧ y < 196) → 0 ≤ i → i + l.length ≤ 8 → m.length + l.length ≤ 9 → zMl V b m → ∃ V', ev 114 36 [(2, b), (0, x), (0, p), (0, i)] [] T V = some ((9, 0), T, V') ∧ zMf V V' b ∧ zMl V' b (m ++ l.map (fun y => (le y, y)))
  | [], p, i, V, m, e1, e2, hc, hy, i1, i2, i3, hm => by
    refine ⟨V, ?_, ⟨fun _ _ _ _ => rfl, fun _ _ => rfl⟩, by simpa using hm⟩
    rw [b114_36]
    by_cases c : 8 ≤ i
    · rw [if_pos c, b114_71]
    · rw [if_neg c, b114_42, if_pos (show p = -1 from hc), b114_71]
  | y :: l, p, i, V, m, e1, e2, hc, hy, i1, i2, i3, hm => by
    have hp : p = y := hc.1
    subst hp
    have y1 := hy p (List.mem_cons_self ..)
    rw [List.length_cons] at i2 i3
    obtain ⟨V1, q1, q2, q3⟩ := c115 (k := le p) (y := p) hR hm (by omega)
    have f1 : V1 (b + 1) = le := by rw [q2.1 (b + 1) (by omega) (by omega) (by omega), e1]
    have f3 : V1 (b + 3) = si := by rw [q2.1 (b + 3) (by omega) (by omega) (by omega), e2]
    obtain ⟨V2, r1, r2, r3⟩ := c114l (x := x) hR l (si p) (i + 1) V1 (m ++ [(le p, p)]) f1 f3 hc.2 (fun z hz => hy z (List.mem_cons_of_mem _ hz)) (by omega) (by omega) (by rw [List.length_append]; simp; omega) q3
    refine ⟨V2, ?_, zMf_t q2 r2, ?_⟩
    · rw [b114_36, if_neg (by omega), b114_42, if_neg (by omega), b114_47 hR y1, e1, q1]
      simp only [Option.bind_some, zpush9]
      rw [b114_58 hR y1 (by omega), f3, r1]
    · rw [List.map_cons]
      rw [List.append_assoc] at r3
      exact r3
theorem zMl_0 (V : zM) (b : Int) : zMl (zwr V b 8 0) b [] := ⟨by rw [zwr_same, if_pos rfl]; rfl, fun i p hp => by simp at hp⟩
theorem c114 {K Q : Int → Int} {L : Int → List Int} {a t nd x : Int} (hR : zRows T b) (h : zTri V b K a t nd Q L) (hx : 0 ≤ x ∧ x < nd) : ∃ V', zcall 114 [(2, b), (0, x)] T V = some ((9, 0), T, V') ∧ zMf V V' b ∧ zMv V' b K a t nd Q x := by
  obtain ⟨⟨n1, n2, n3⟩, -, hh⟩ := h
  obtain ⟨a1, a2, a3, a4, a5, a6, a7, a8⟩ := hh x hx.1 hx.2
  have hx2 : 0 ≤ x ∧ x < 196 := by omega
  have w4 : zwr V b 8 0 (b + 4) x = V (b + 4) x := by rw [zwr_ne (by omega)]
  -- the siblings
  have sib : ∀ (W : zM) (m : List (Int × Int)), zMf V W b → m.length ≤ 1 → zMl W b m → ∃ V', ev 114 27 [(2, b), (0, x), (9, 0), (9, 0)] [] T W = some ((9, 0), T, V') ∧ zMf V V' b ∧ zMl V' b (m ++ (L x).map (fun y => (V (b + 1) y, y))) := fun W m f1 f2 f3 => by
    obtain ⟨V', r1, r2, r3⟩ := c114l (x := x) (T := T) hR (L x) (V (b + 2) x) 0 W m (f1.1 (b + 1) (by omega) (by omega) (by omega)) (f1.1 (b + 3) (by omega) (by omega) (by omega)) a2 (fun y hy => by have := (a4 y hy).1; omega) (by omega) (by omega) (by omega) f3
    exact ⟨V', by rw [b114_27 hR hx2, f1.1 (b + 2) (by omega) (by omega) (by omega), r1], zMf_t f1 r2, r3⟩
  have f0 : zMf V (zwr V b 8 0) b := ⟨fun r r1 _ _ => by rw [zwr_ne r1], fun j hj => by rw [zwr_same, if_neg hj]⟩
  -- from the list to the law
  have law : ∀ (V' : zM) (m : List (Int × Int)), m.length ≤ 1 → (∀ p, p ∈ m → p.1 = 26 ∧ (0 ≤ p.2 ∧ p.2 < nd) ∧ zdel K a t (Q x) 26 = Q p.2) → (zdel K a t (Q x) 26 ≠ -1 → ∃ y, (26, y) ∈ m) → zMl V' b (m ++ (L x).map (fun y => (V (b + 1) y, y))) → zMv V' b K a t nd Q x := fun V' m m1 m2 m3 hm => by
    obtain ⟨g1, g2⟩ := hm
    have len : (m ++ (L x).map (fun y => (V (b + 1) y, y))).length = m.length + (L x).length := by rw [List.length_append, List.length_map]
    have at_ : ∀ i : Int, 0 ≤ i → i < V' b 8 → ∃ p, (m ++ (L x).map (fun y => (V (b + 1) y, y)))[i.toNat]? = some p ∧ p ∈ (m ++ (L x).map (fun y => (V (b + 1) y, y))) ∧ V' (b + 6) i = p.1 ∧ V' (b + 7) i = p.2 := fun i i1 i2 => by
      have hi : i.toNat < (m ++ (L x).map (fun y => (V (b + 1) y, y))).length := by omega
      refine ⟨_, List.getElem?_eq_getElem hi, List.getElem_mem hi, ?_⟩
      have := g2 i.toNat _ (List.getElem?_eq_getElem hi)
      rw [Int.toNat_of_nonneg i1] at this
      exact this
    have pw : (m ++ (L x).map (fun y => (V (b + 1) y, y))).Pairwise (fun p q => p.1 ≠ q.1) := by
      rw [List.pairwise_append]
      refine ⟨?_, ?_, fun p hp q hq => ?_⟩
      · match m, m1 with
        | [], _ => exact List.Pairwise.nil
        | [p], _ => exact List.pairwise_singleton _ _
      · rw [List.pairwise_map]; exact a5
      · obtain ⟨y, hy, e⟩ := List.mem_map.1 hq
        subst e
        have := (a4 y hy).2.1
        have := (m2 p hp).1
        show p.1 ≠ V (b + 1) y
        omega
    refine ⟨by omega, fun i i1 i2 => ?_, fun i j i1 i2 i3 => ?_, fun s s1 s2 hs => ?_⟩
    · obtain ⟨p, -, hp, e6, e7⟩ := at_ i i1 i2
      rw [e6, e7]
      rcases List.mem_append.1 hp with hp | hp
      · have := m2 p hp
        rw [this.1]
        exact ⟨by omega, this.2.1, this.2.2, (hh p.2 this.2.1.1 this.2.1.2).1⟩
      · obtain ⟨y, hy, e⟩ := List.mem_map.1 hp
        subst e
        obtain ⟨b1, b2, b3⟩ := a4 y hy
        exact ⟨by show 0 ≤ V (b + 1) y ∧ V (b + 1) y < 27; omega, b1, b3, (hh y b1.1 b1.2).1⟩
    · obtain ⟨p, hp, -, e6, -⟩ := at_ i i1 (by omega)
      obtain ⟨q, hq, -, e6', -⟩ := at_ j (by omega) i3
      rw [e6, e6']
      obtain ⟨k1, k2⟩ := List.getElem?_eq_some_iff.1 hp
      obtain ⟨l1, l2⟩ := List.getElem?_eq_some_iff.1 hq
      have := List.pairwise_iff_getElem.1 pw i.toNat j.toNat k1 l1 (by omega)
      rw [k2, l2] at this
      exact this
    · have : ∃ p, p ∈ (m ++ (L x).map (fun y => (V (b + 1) y, y))) ∧ p.1 = s := by
        by_cases c : s = 26
        · subst c
          obtain ⟨y, hy⟩ := m3 hs
          exact ⟨_, List.mem_append_left _ hy, rfl⟩
        · obtain ⟨y, hy, e⟩ := a6 s s1 (by omega) hs
          exact ⟨_, List.mem_append_right _ (List.mem_map.2 ⟨y, hy, rfl⟩), e⟩
      obtain ⟨p, hp, e⟩ := this
      obtain ⟨i, hi, e2⟩ := List.mem_iff_getElem.1 hp
      refine ⟨i, by omega, ?_⟩
      rw [(g2 i p (by rw [List.getElem?_eq_getElem hi, e2])).1, e]
  rw [e114, b114_0 hR hx2, w4]
  rcases a7 with ⟨g1, g2⟩ | ⟨g1, g2⟩
  · rw [if_pos g1]
    obtain ⟨V', r1, r2, r3⟩ := sib _ [] f0 (by decide) (zMl_0 V b)
    exact ⟨V', r1, r2, law V' [] (by decide) (fun p hp => by simp at hp) (fun z => absurd g2 z) r3⟩
  · rw [if_neg (by omega), b114_15 hR hx2, w4]
    obtain ⟨V1, q1, q2, q3⟩ := c115 (k := 26) (y := V (b + 4) x) hR (zMl_0 V b) (by decide)
    rw [q1]
    simp only [Option.bind_some, zpush9]
    obtain ⟨V', r1, r2, r3⟩ := sib V1 [(26, V (b + 4) x)] (zMf_t f0 q2) (Nat.le_refl 1) q3
    exact ⟨V', r1, r2, law V' [(26, V (b + 4) x)] (Nat.le_refl 1) (fun p hp => by simp at hp; subst hp; exact ⟨rfl, g1, g2⟩) (fun z => ⟨V (b + 4) x, by simp⟩) r3⟩
/-- a fold over the moves is a fold over the letters -/
theorem zMv_fo {op : Int → Int → Int} {z : Int} (hm : zMo op z) {K Q : Int → Int} {a t nd x : Int} (h : zMv V b K a t nd Q x) (g : Int → Int) : zfo op z (fun i => g (V (b + 6) i)) (V b 8).toNat = zfo op z (fun s => zif (zdel K a t (Q x) s ≠ -1) (g s) z) 27 := by
  obtain ⟨h1, h2, h3, h4⟩ := h
  rw [zfo_inj hm (k := V (b + 6)) (N := 27) (V b 8).toNat (fun i i1 i2 => (h2 i i1 (by omega)).1) (fun i j i1 i2 i3 => h3 i j i1 i2 (by omega))]
  refine zfo_congr fun s s1 s2 => ?_
  refine zif_congr ⟨fun ⟨i, hi, e⟩ => ?_, fun c => ?_⟩ (fun _ => rfl) (fun _ => rfl)
  · have := h2 i hi.1 (by omega)
    rw [e] at this
    omega
  · obtain ⟨i, hi, e⟩ := h4 s s1 s2 c
    exact ⟨i, by omega, e⟩
end MOVES
