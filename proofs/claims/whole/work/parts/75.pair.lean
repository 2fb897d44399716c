/-! tables of pairs -/
theorem zcnt_add {p q : Int → Prop} {n : Nat} {s0 : Int} (h0 : 0 ≤ s0 ∧ s0 < n) (hp : ¬ p s0) (h : ∀ s, q s ↔ (p s ∨ s = s0)) : zcnt q n = zcnt p n + 1 := by
  induction n with
  | zero => omega
  | succ n ih =>
    rw [zcnt, zcnt]
    by_cases e : s0 = n
    · have e1 : zcnt q n = zcnt p n := zcnt_congr fun l h1 h2 => by rw [h]; exact ⟨fun g => g.resolve_right (by omega), Or.inl⟩
      rw [e1, zif_t ((h n).2 (Or.inr e.symm)), zif_f (fun g => hp (e ▸ g)), Int.add_zero]
    · rw [ih (by omega)]
      have e1 : zif (q n) 1 0 = zif (p n) 1 0 := zif_congr (by rw [h]; exact ⟨fun g => g.resolve_right (fun e' => e e'.symm), Or.inl⟩) (fun _ => rfl) (fun _ => rfl)
      rw [e1]
      omega
section PAIR
variable {T : zT} {V V' : zM} {b : Int} {K : Int → Int} {A : Int → Prop} {mk : Int → Int}
theorem zbit_bt {x j : Int} : zbit x j ↔ zbt x j.toNat := Iff.rfl
theorem zPT_cl {K : Int → Int} {mk : Int → Int} (h1 : V b 5 = 0) (h2 : ∀ p, 0 ≤ p → p < 729 → V (b + 1) p = 0) (hA : ∀ s, ¬ A s) : zPT V b K A mk := by
  refine ⟨⟨by omega, fun i g1 g2 => by omega, fun p g1 g2 g3 => absurd (h2 p g1 g2) g3⟩, ?_, fun i j g1 g2 g3 => by omega, fun i g1 g2 => by omega, fun p g1 g2 => ?_, fun p g1 g2 g3 => by rw [h2 p g1 g2] at g3; omega, fun p g1 g2 g3 => by rw [h2 p g1 g2] at g3; omega⟩
  · have := (zcnt_r A 128).1; omega
  · rw [h2 p g1 g2]
    have := zcnt_r (fun s => A s ∧ zpr K s = p) 128
    by_cases q : 0 < zcnt (fun s => A s ∧ zpr K s = p) 128
    · obtain ⟨s, -, hs, -⟩ := zcnt_pos.1 q
      exact absurd hs (hA s)
    · omega
theorem c20 (h : zPairT T b) (hl : zPL V b) : zwp (zcall 20 [(2, b)] T V) fun r T' V' => r = (9, 0) ∧ T' = T ∧ (∀ r, r ≠ b → r ≠ b + 1 → V' r = V r) ∧ (∀ j, j ≠ 5 → V' b j = V b j) ∧ V' b 5 = 0 ∧ ∀ p, 0 ≤ p → p < 729 → V' (b + 1) p = 0 := by
  obtain ⟨l1, l2, l3⟩ := hl
  rw [e20, b20_0]
  refine zup (α := zM) (fun i W => (∀ r, r ≠ b + 1 → W r = V r) ∧ (∀ j, 0 ≤ j → j < i → W (b + 1) (V (b + 5) j) = 0) ∧ ∀ p, W (b + 1) p = V (b + 1) p ∨ W (b + 1) p = 0) (fun i W => zwp (ev 20 2 [(2, b), (0, i)] [] T W) fun r T' V' => r = (9, 0) ∧ T' = T ∧ (∀ r, r ≠ b → r ≠ b + 1 → V' r = V r) ∧ (∀ j, j ≠ 5 → V' b j = V b j) ∧ V' b 5 = 0 ∧ ∀ p, 0 ≤ p → p < 729 → V' (b + 1) p = 0) (lo := 0) (hi := V b 5) l1.1 ?_ ?_ V ⟨fun r _ => rfl, fun j g1 g2 => by omega, fun p => Or.inl rfl⟩
  · intro W hW
    show zwp (ev 20 2 _ _ _ _) _
    have eb : W b = V b := hW.1 b (by omega)
    rw [b20_2 h, if_pos (by rw [eb]; omega), b20_28 h]
    refine zwp_ret ⟨rfl, rfl, fun r g1 g2 => by rw [zwr_ne g1, hW.1 r g2], fun j g => by rw [zwr_same, if_neg g, eb], by rw [zwr_same, if_pos rfl], fun p g1 g2 => ?_⟩
    rw [zwr_ne (by omega)]
    rcases hW.2.2 p with q | q
    · by_cases z : V (b + 1) p = 0
      · rw [q, z]
      · obtain ⟨i, i1, i2⟩ := l3 p g1 g2 z
        rw [← i2]
        exact hW.2.1 i i1.1 i1.2
    · exact q
  · intro i W i1 i2 hW next
    show zwp (ev 20 2 _ _ _ _) _
    have eb : W b = V b := hW.1 b (by omega)
    have e5 : W (b + 5) = V (b + 5) := hW.1 _ (by omega)
    have q := l2 i i1 i2
    rw [b20_2 h, if_neg (by rw [eb]; omega), b20_10 h (by omega) (by rw [e5]; omega) (by omega), e5]
    refine next _ ⟨fun r hr => by rw [zwr_ne hr, hW.1 r hr], fun j g1 g2 => ?_, fun p => ?_⟩
    · rw [zwr_same]
      split
      · rfl
      · next c => exact hW.2.1 j g1 (by
          have : j ≠ i := fun e => c (by rw [e])
          omega)
    · rw [zwr_same]
      split
      · exact Or.inr rfl
      · exact hW.2.2 p
/-- one set more in the table, of a pair that was there -/
theorem zPT_old {s0 p0 : Int} (h : zPT V b K A mk) (hs : 0 ≤ s0 ∧ s0 < 128) (hA : ∀ s, A s → s < s0) (hp : zpr K s0 = p0) (hp0 : 0 ≤ p0 ∧ p0 < 729) (hm : 0 ≤ mk s0 ∧ mk s0 < 16384) (hw : 0 < V (b + 1) p0)
    (e0 : V' b 5 = V b 5) (e5 : ∀ i, V' (b + 5) i = V (b + 5) i) (e1 : ∀ p, V' (b + 1) p = if p = p0 then V (b + 1) p0 + 1 else V (b + 1) p) (e4 : ∀ p, V' (b + 4) p = if p = p0 then zor (V (b + 4) p0) (mk s0) else V (b + 4) p)
    (e2 : ∀ p, V' (b + 2) p = if p = p0 ∧ zcst K s0 < V (b + 3) p0 then s0 else V (b + 2) p) (e3 : ∀ p, V' (b + 3) p = if p = p0 ∧ zcst K s0 < V (b + 3) p0 then zcst K s0 else V (b + 3) p) : zPT V' b K (fun s => A s ∨ s = s0) mk := by
  obtain ⟨⟨l1, l2, l3⟩, g1, g2, g3, g4, g5, g6⟩ := h
  have hns : ¬ A s0 := fun q => by have := hA s0 q; omega
  have hc : zcnt (fun s => A s ∨ s = s0) 128 = zcnt A 128 + 1 := zcnt_add (p := A) (by omega) hns (fun s => Iff.rfl)
  have hw1 : ∀ p, V (b + 1) p ≠ 0 ↔ V' (b + 1) p ≠ 0 ∨ False := fun p => by
    rw [e1]; split
    · next e => rw [e]; omega
    · simp
  refine ⟨⟨by rw [e0]; exact l1, fun i c1 c2 => ?_, fun p c1 c2 c3 => ?_⟩, by rw [e0, hc]; omega, fun i j c1 c2 c3 => ?_, fun i c1 c2 => ?_, fun p c1 c2 => ?_, fun p c1 c2 c3 => ?_, fun p c1 c2 c3 => ?_⟩
  · rw [e0] at c2; rw [e5]; exact l2 i c1 c2
  · obtain ⟨i, i1, i2⟩ := l3 p c1 c2 ((hw1 p).2 (Or.inl c3))
    exact ⟨i, by rw [e0]; exact i1, by rw [e5]; exact i2⟩
  · rw [e0] at c3; rw [e5, e5]; exact g2 i j c1 c2 c3
  · rw [e0] at c2; rw [e5, e1]
    have := g3 i c1 c2
    split <;> omega
  · rw [e1, g4 p0 hp0.1 hp0.2]
    split
    · next e =>
      subst e
      exact (zcnt_add (p := fun s => A s ∧ zpr K s = p) (by omega) (fun q => hns q.1) (fun s => ⟨fun q => q.1.elim (fun a => Or.inl ⟨a, q.2⟩) Or.inr, fun q => q.elim (fun a => ⟨Or.inl a.1, a.2⟩) (fun a => ⟨Or.inr a, by rw [a]; exact hp⟩)⟩)).symm
    · next e =>
      rw [g4 p c1 c2]
      refine zcnt_congr fun s _ _ => ⟨fun q => ⟨Or.inl q.1, q.2⟩, fun q => ⟨q.1.resolve_right (fun a => e ?_), q.2⟩⟩
      rw [← q.2, a, hp]
  · have hpp : 0 < V (b + 1) p := by
      rw [e1] at c3
      split at c3
      · next e => rw [e]; exact hw
      · exact c3
    obtain ⟨d1, d2, d3, d4, d5⟩ := g5 p c1 c2 hpp
    rw [e2, e3]
    by_cases c : p = p0 ∧ zcst K s0 < V (b + 3) p0
    · rw [if_pos c, if_pos c]
      obtain ⟨c4, c5⟩ := c
      subst c4
      refine ⟨hs, Or.inr rfl, hp, rfl, fun s k1 k2 k3 k4 => ?_⟩
      rcases k3 with k3 | k3
      · have := d5 s k1 k2 k3 k4
        left
        omega
      · subst k3; right; omega
    · rw [if_neg c, if_neg c]
      refine ⟨d1, Or.inl d2, d3, d4, fun s k1 k2 k3 k4 => ?_⟩
      rcases k3 with k3 | k3
      · exact d5 s k1 k2 k3 k4
      · subst k3
        have e : p = p0 := by rw [← k4, hp]
        subst e
        have := hA _ d2
        have : ¬ zcst K s < V (b + 3) p := fun q => c ⟨rfl, q⟩
        omega
  · have hpp : 0 < V (b + 1) p := by
      rw [e1] at c3
      split at c3
      · next e => rw [e]; exact hw
      · exact c3
    obtain ⟨d1, d2⟩ := g6 p c1 c2 hpp
    rw [e4]
    by_cases c : p = p0
    · subst c
      rw [if_pos rfl]
      refine ⟨zor_n (k := 14) (by decide) d1.1 d1.2 hm.1 hm.2, fun j j1 j2 => ?_⟩
      rw [zbit_bt, zor_bt (by omega)]
      have := d2 j j1 j2
      rw [zbit_bt] at this
      rw [this]
      constructor
      · rintro (⟨s, k1, k2, k3, k4⟩ | q)
        · exact ⟨s, k1, Or.inl k2, k3, k4⟩
        · exact ⟨s0, hs, Or.inr rfl, hp, q⟩
      · rintro ⟨s, k1, k2 | k2, k3, k4⟩
        · exact Or.inl ⟨s, k1, k2, k3, k4⟩
        · subst k2; exact Or.inr k4
    · rw [if_neg c]
      refine ⟨d1, fun j j1 j2 => ?_⟩
      rw [d2 j j1 j2]
      constructor
      · rintro ⟨s, k1, k2, k3, k4⟩
        exact ⟨s, k1, Or.inl k2, k3, k4⟩
      · rintro ⟨s, k1, k2 | k2, k3, k4⟩
        · exact ⟨s, k1, k2, k3, k4⟩
        · subst k2; exact absurd (by rw [← k3, hp]) c
/-- .. of a pair that is new -/
theorem zPT_new {s0 p0 : Int} (h : zPT V b K A mk) (hs : 0 ≤ s0 ∧ s0 < 128) (hA : ∀ s, A s → s < s0) (hp : zpr K s0 = p0) (hp0 : 0 ≤ p0 ∧ p0 < 729) (hm : 0 ≤ mk s0 ∧ mk s0 < 16384) (hw : V (b + 1) p0 = 0)
    (e0 : V' b 5 = V b 5 + 1) (e5 : ∀ i, V' (b + 5) i = if i = V b 5 then p0 else V (b + 5) i) (e1 : ∀ p, V' (b + 1) p = if p = p0 then 1 else V (b + 1) p) (e4 : ∀ p, V' (b + 4) p = if p = p0 then zor 0 (mk s0) else V (b + 4) p)
    (e2 : ∀ p, V' (b + 2) p = if p = p0 then s0 else V (b + 2) p) (e3 : ∀ p, V' (b + 3) p = if p = p0 then zcst K s0 else V (b + 3) p) : zPT V' b K (fun s => A s ∨ s = s0) mk := by
  obtain ⟨⟨l1, l2, l3⟩, g1, g2, g3, g4, g5, g6⟩ := h
  have hns : ¬ A s0 := fun q => by have := hA s0 q; omega
  have hc : zcnt (fun s => A s ∨ s = s0) 128 = zcnt A 128 + 1 := zcnt_add (p := A) (by omega) hns (fun s => Iff.rfl)
  have hcr := zcnt_r (fun s => A s ∨ s = s0) 128
  have hz : ∀ s, 0 ≤ s → s < 128 → A s → zpr K s ≠ p0 := fun s k1 k2 k3 k4 => by
    have := g4 p0 hp0.1 hp0.2
    have q : 0 < zcnt (fun s => A s ∧ zpr K s = p0) 128 := zcnt_pos.2 ⟨s, ⟨k1, by omega⟩, k3, k4⟩
    omega
  refine ⟨⟨by rw [e0]; omega, fun i c1 c2 => ?_, fun p c1 c2 c3 => ?_⟩, by rw [e0, hc]; omega, fun i j c1 c2 c3 => ?_, fun i c1 c2 => ?_, fun p c1 c2 => ?_, fun p c1 c2 c3 => ?_, fun p c1 c2 c3 => ?_⟩
  · rw [e5]
    split
    · exact hp0
    · exact l2 i c1 (by omega)
  · rw [e1] at c3
    by_cases c : p = p0
    · exact ⟨V b 5, by omega, by rw [e5, if_pos rfl, c]⟩
    · rw [if_neg c] at c3
      obtain ⟨i, i1, i2⟩ := l3 p c1 c2 c3
      exact ⟨i, by omega, by rw [e5, if_neg (by omega)]; exact i2⟩
  · rw [e5, e5, if_neg (by omega)]
    split
    · intro q
      have := g3 i c1 (by omega)
      rw [q, hw] at this
      omega
    · exact g2 i j c1 c2 (by omega)
  · rw [e5, e1]
    by_cases c : i = V b 5
    · rw [if_pos c, if_pos rfl]; decide
    · rw [if_neg c]
      have := g3 i c1 (by omega)
      split <;> omega
  · rw [e1]
    split
    · next e =>
      subst e
      have := zcnt_add (p := fun s => A s ∧ zpr K s = p) (q := fun s => (A s ∨ s = s0) ∧ zpr K s = p) (n := 128) (s0 := s0) (by omega) (fun q => hns q.1) (fun s => ⟨fun q => q.1.elim (fun a => Or.inl ⟨a, q.2⟩) Or.inr, fun q => q.elim (fun a => ⟨Or.inl a.1, a.2⟩) (fun a => ⟨Or.inr a, by rw [a]; exact hp⟩)⟩)
      have := g4 p c1 c2
      show 1 = zcnt (fun s => (A s ∨ s = s0) ∧ zpr K s = p) 128
      omega
    · next e =>
      rw [g4 p c1 c2]
      refine zcnt_congr fun s _ _ => ⟨fun q => ⟨Or.inl q.1, q.2⟩, fun q => ⟨q.1.resolve_right (fun a => e ?_), q.2⟩⟩
      rw [← q.2, a, hp]
  · rw [e1] at c3
    rw [e2, e3]
    by_cases c : p = p0
    · subst c
      rw [if_pos rfl, if_pos rfl]
      refine ⟨hs, Or.inr rfl, hp, rfl, fun s k1 k2 k3 k4 => ?_⟩
      rcases k3 with k3 | k3
      · exact absurd k4 (hz s k1 k2 k3)
      · subst k3; right; omega
    · rw [if_neg c] at c3
      rw [if_neg c, if_neg c]
      obtain ⟨d1, d2, d3, d4, d5⟩ := g5 p c1 c2 c3
      refine ⟨d1, Or.inl d2, d3, d4, fun s k1 k2 k3 k4 => ?_⟩
      rcases k3 with k3 | k3
      · exact d5 s k1 k2 k3 k4
      · subst k3; exact absurd (by rw [← k4, hp]) c
  · rw [e1] at c3
    rw [e4]
    by_cases c : p = p0
    · subst c
      rw [if_pos rfl]
      refine ⟨zor_n (k := 14) (by decide) (by decide) (by decide) hm.1 hm.2, fun j j1 j2 => ?_⟩
      rw [zbit_bt, zor_bt (by omega)]
      constructor
      · rintro (q | q)
        · exact absurd q zbt_z
        · exact ⟨s0, hs, Or.inr rfl, hp, q⟩
      · rintro ⟨s, k1, k2 | k2, k3, k4⟩
        · exact absurd k3 (hz s k1.1 k1.2 k2)
        · subst k2; exact Or.inr k4
    · rw [if_neg c] at c3 ⊢
      obtain ⟨d1, d2⟩ := g6 p c1 c2 c3
      refine ⟨d1, fun j j1 j2 => ?_⟩
      rw [d2 j j1 j2]
      constructor
      · rintro ⟨s, k1, k2, k3, k4⟩
        exact ⟨s, k1, Or.inl k2, k3, k4⟩
      · rintro ⟨s, k1, k2 | k2, k3, k4⟩
        · exact ⟨s, k1, k2, k3, k4⟩
        · subst k2; exact absurd (by rw [← k3, hp]) c
/-- add -/
theorem c21 {s0 : Int} (hS : zStr T) (h : zPairT T b) (hb : b = 65 ∨ b = 71) (hR : zRd V K) (hc : zcok K) (hP : zPT V b K A mk) (hs : 0 ≤ s0 ∧ s0 < 128) (hA : ∀ s, A s → s < s0) (hm : 0 ≤ mk s0 ∧ mk s0 < 16384) : zwp (zcall 21 [(2, b), (2, 59), (0, s0), (0, mk s0)] T V) fun r T' V' => r = (9, 0) ∧ T' = T ∧ (∀ r, r < b ∨ b + 5 < r → V' r = V r) ∧ zPT V' b K (fun s => A s ∨ s = s0) mk := by
  obtain ⟨r1, r2, r3⟩ := hR.1 s0 hs.1 hs.2
  have k0 := zsgn_r K 0 s0
  have k1 := zsgn_r K 1 s0
  have hcs := zcst_r hc s0
  have hp : zpr K s0 = zsgn K 0 s0 * 27 + zsgn K 1 s0 := rfl
  have hp0 : 0 ≤ zpr K s0 ∧ zpr K s0 < 729 := by omega
  have hP' := hP
  obtain ⟨⟨l1, l2, l3⟩, g1, g2, g3, g4, g5, g6⟩ := hP
  have hns : ¬ A s0 := fun q => by have := hA s0 q; omega
  have hcc : zcnt (fun s => A s ∨ s = s0) 128 = zcnt A 128 + 1 := zcnt_add (p := A) (by omega) hns (fun s => Iff.rfl)
  have hcr := zcnt_r (fun s => A s ∨ s = s0) 128
  have hw4 := g4 (zpr K s0) hp0.1 hp0.2
  have hwr := zcnt_r (fun s => A s ∧ zpr K s = zpr K s0) 128
  rw [e21, b21_0 hS hs, r1, r2, c22 (by omega) (by omega)]
  simp only [Option.bind_some, zpush0]
  rw [← hp]
  generalize hP0 : zpr K s0 = p0 at *
  rw [b21_15 h hp0]
  by_cases z : V (b + 1) p0 = 0
  · rw [if_pos z, b21_27 h, if_pos (by omega)]
    have n5 : zwr V (b + 5) (V b 5) p0 b 5 = V b 5 := by rw [zwr_ne (by omega)]
    rw [b21_38 h (by omega) (by rw [n5]; omega) hp0, n5]
    generalize hW : zwr (zwr (zwr (zwr V (b + 5) (V b 5) p0) b 5 (V b 5 + 1)) (b + 3) p0 1000000) (b + 4) p0 0 = W
    have W1 : W (b + 1) = V (b + 1) := by rw [← hW, zwr_ne (by omega), zwr_ne (by omega), zwr_ne (by omega), zwr_ne (by omega)]
    have W2 : W (b + 2) = V (b + 2) := by rw [← hW, zwr_ne (by omega), zwr_ne (by omega), zwr_ne (by omega), zwr_ne (by omega)]
    have W3 : ∀ p, W (b + 3) p = if p = p0 then 1000000 else V (b + 3) p := fun p => by rw [← hW, zwr_ne (by omega), zwr_same, zwr_ne (by omega), zwr_ne (by omega)]
    have W4 : ∀ p, W (b + 4) p = if p = p0 then 0 else V (b + 4) p := fun p => by rw [← hW, zwr_same, zwr_ne (by omega), zwr_ne (by omega), zwr_ne (by omega)]
    have W5 : ∀ i, W (b + 5) i = if i = V b 5 then p0 else V (b + 5) i := fun p => by rw [← hW, zwr_ne (by omega), zwr_ne (by omega), zwr_ne (by omega), zwr_same]
    have W0 : W b 5 = V b 5 + 1 := by rw [← hW, zwr_ne (by omega), zwr_ne (by omega), zwr_same, if_pos rfl]
    have Wr : ∀ r, r < b ∨ b + 5 < r → W r = V r := fun r hr => by rw [← hW, zwr_ne (by omega), zwr_ne (by omega), zwr_ne (by omega), zwr_ne (by omega)]
    have q4 : ∀ x, zwr W (b + 1) p0 x (b + 4) p0 = 0 := fun x => by rw [zwr_ne (by omega), W4, if_pos rfl]
    rw [b21_76 hS h hp0 (by rw [W1]; omega) hs, q4, W1, z]
    have q3 : ∀ x y, zwr (zwr W (b + 1) p0 x) (b + 4) p0 y (b + 3) p0 = 1000000 := fun x y => by rw [zwr_ne (by omega), zwr_ne (by omega), W3, if_pos rfl]
    have q62 : ∀ x y, zwr (zwr W (b + 1) p0 x) (b + 4) p0 y 62 s0 = zcst K s0 := fun x y => by rw [zwr_ne (by omega), zwr_ne (by omega), Wr 62 (by omega), r3]
    rw [q3, q62, if_neg (by omega), b21_114 hS h hs hp0, q62, b21_135]
    refine zwp_ret ⟨rfl, rfl, fun r hr => by rw [zwr_ne (by omega), zwr_ne (by omega), zwr_ne (by omega), zwr_ne (by omega), Wr r hr], ?_⟩
    refine zPT_new hP' hs hA hP0 hp0 hm z ?_ ?_ ?_ ?_ ?_ ?_
    · rw [zwr_ne (by omega), zwr_ne (by omega), zwr_ne (by omega), zwr_ne (by omega), W0]
    · intro i; rw [zwr_ne (by omega), zwr_ne (by omega), zwr_ne (by omega), zwr_ne (by omega), W5]
    · intro p; rw [zwr_ne (by omega), zwr_ne (by omega), zwr_ne (by omega), zwr_same, W1]; rfl
    · intro p; rw [zwr_ne (by omega), zwr_ne (by omega), zwr_same, zwr_ne (by omega), W4]
      split <;> rfl
    · intro p; rw [zwr_same, zwr_ne (by omega), zwr_ne (by omega), zwr_ne (by omega), W2]
    · intro p; rw [zwr_ne (by omega), zwr_same, zwr_ne (by omega), zwr_ne (by omega), W3]
      split <;> rfl
  · rw [if_neg z]
    have q4 : ∀ x, zwr V (b + 1) p0 x (b + 4) p0 = V (b + 4) p0 := fun x => by rw [zwr_ne (by omega)]
    rw [b21_76 hS h hp0 (by omega) hs, q4]
    have q3 : ∀ x y, zwr (zwr V (b + 1) p0 x) (b + 4) p0 y (b + 3) p0 = V (b + 3) p0 := fun x y => by rw [zwr_ne (by omega), zwr_ne (by omega)]
    have q62 : ∀ x y, zwr (zwr V (b + 1) p0 x) (b + 4) p0 y 62 s0 = zcst K s0 := fun x y => by rw [zwr_ne (by omega), zwr_ne (by omega), r3]
    rw [q3, q62]
    by_cases c : V (b + 3) p0 ≤ zcst K s0
    · rw [if_pos c, b21_135]
      refine zwp_ret ⟨rfl, rfl, fun r hr => by rw [zwr_ne (by omega), zwr_ne (by omega)], ?_⟩
      refine zPT_old hP' hs hA hP0 hp0 hm (by omega) ?_ ?_ ?_ ?_ ?_ ?_
      · rw [zwr_ne (by omega), zwr_ne (by omega)]
      · intro i; rw [zwr_ne (by omega), zwr_ne (by omega)]
      · intro p; rw [zwr_ne (by omega), zwr_same]
      · intro p; rw [zwr_same, zwr_ne (by omega)]
      · intro p; rw [zwr_ne (by omega), zwr_ne (by omega), if_neg (by omega)]
      · intro p; rw [zwr_ne (by omega), zwr_ne (by omega), if_neg (by omega)]
    · rw [if_neg c, b21_114 hS h hs hp0, q62, b21_135]
      refine zwp_ret ⟨rfl, rfl, fun r hr => by rw [zwr_ne (by omega), zwr_ne (by omega), zwr_ne (by omega), zwr_ne (by omega)], ?_⟩
      refine zPT_old hP' hs hA hP0 hp0 hm (by omega) ?_ ?_ ?_ ?_ ?_ ?_
      · rw [zwr_ne (by omega), zwr_ne (by omega), zwr_ne (by omega), zwr_ne (by omega)]
      · intro i; rw [zwr_ne (by omega), zwr_ne (by omega), zwr_ne (by omega), zwr_ne (by omega)]
      · intro p; rw [zwr_ne (by omega), zwr_ne (by omega), zwr_ne (by omega), zwr_same]
      · intro p; rw [zwr_ne (by omega), zwr_ne (by omega), zwr_same, zwr_ne (by omega)]
      · intro p; rw [zwr_same, zwr_ne (by omega), zwr_ne (by omega), zwr_ne (by omega)]
        by_cases e : p = p0
        · rw [if_pos e, if_pos ⟨e, by omega⟩]
        · rw [if_neg e, if_neg (fun q => e q.1)]
      · intro p; rw [zwr_ne (by omega), zwr_same, zwr_ne (by omega), zwr_ne (by omega)]
        by_cases e : p = p0
        · rw [if_pos e, if_pos ⟨e, by omega⟩]
        · rw [if_neg e, if_neg (fun q => e q.1)]
theorem zPT_A {A B : Int → Prop} (h : zPT V b K A mk) (e : ∀ s, 0 ≤ s → s < 128 → (A s ↔ B s)) : zPT V b K B mk := by
  obtain ⟨l, g1, g2, g3, g4, g5, g6⟩ := h
  have ec : zcnt A 128 = zcnt B 128 := zcnt_congr fun s h1 h2 => e s h1 (by omega)
  refine ⟨l, by rw [← ec]; exact g1, g2, g3, fun p c1 c2 => ?_, fun p c1 c2 c3 => ?_, fun p c1 c2 c3 => ?_⟩
  · rw [g4 p c1 c2]
    exact zcnt_congr fun s h1 h2 => by rw [e s h1 (by omega)]
  · obtain ⟨d1, d2, d3, d4, d5⟩ := g5 p c1 c2 c3
    exact ⟨d1, (e _ d1.1 d1.2).1 d2, d3, d4, fun s k1 k2 k3 k4 => d5 s k1 k2 ((e s k1 k2).2 k3) k4⟩
  · obtain ⟨d1, d2⟩ := g6 p c1 c2 c3
    refine ⟨d1, fun j j1 j2 => ?_⟩
    rw [d2 j j1 j2]
    exact ⟨fun ⟨s, k1, k2, k3⟩ => ⟨s, k1, (e s k1.1 k1.2).1 k2, k3⟩, fun ⟨s, k1, k2, k3⟩ => ⟨s, k1, (e s k1.1 k1.2).2 k2, k3⟩⟩
theorem zRd_congr (e : ∀ r, 60 ≤ r → r ≤ 64 → V' r = V r) (h : zRd V K) : zRd V' K := by
  unfold zRd at h ⊢
  rw [e 60 (by decide) (by decide), e 61 (by decide) (by decide), e 62 (by decide) (by decide), e 63 (by decide) (by decide), e 64 (by decide) (by decide)]
  exact h
/-- all readings anew -/
theorem c15 (hS : zStr T) (hR : zSR V 1 K) (hK : zKok K) (h0 : V 62 0 = 0 ∧ V 63 0 = 0 ∧ V 64 0 = 0) (hl : zPL V 65) : zwp (zcall 15 [(2, 0)] T V) fun r T' V' => r = (9, 0) ∧ T' = T ∧ (∀ r, r < 60 ∨ 70 < r → r ≠ 0 → V' r = V r) ∧ (∀ j, j ≠ 14 → V' 0 j = V 0 j) ∧ V' 0 14 = 0 ∧ zRd V' K ∧ zPT V' 65 K (fun _ => True) (fun _ => 0) := by
  have hc := hK.cok
  rw [e15, b15_0 hS]
  refine zwp_seq (c16 hS hR hK h0) ?_
  rintro r T1 V1 ⟨rfl, rfl, a1, a2⟩
  simp only [zpush9]
  rw [b15_11 hS]
  have hl1 : zPL V1 65 := zPL_congr (fun d g1 g2 => a1 _ (by omega)) hl
  refine zwp_seq (c20 (st65 hS) hl1) ?_
  rintro r T2 V2 ⟨rfl, rfl, c1, c2, c3, c4⟩
  simp only [zpush9]
  rw [b15_18]
  have rd2 : zRd V2 K := zRd_congr (fun r g1 g2 => c1 r (by omega) (by omega)) a2
  refine zup (α := zM) (fun i W => (∀ r, r < 65 ∨ 70 < r → W r = V1 r) ∧ zPT W 65 K (fun s => s < i ∧ 0 ≤ s) (fun _ => 0)) (fun i W => zwp (ev 15 20 [(2, 0), (0, i)] [] T2 W) fun r T' V' => r = (9, 0) ∧ T' = T2 ∧ (∀ r, r < 60 ∨ 70 < r → r ≠ 0 → V' r = V r) ∧ (∀ j, j ≠ 14 → V' 0 j = V 0 j) ∧ V' 0 14 = 0 ∧ zRd V' K ∧ zPT V' 65 K (fun _ => True) (fun _ => 0)) (lo := 0) (hi := 128) (by decide) ?_ ?_ V2 ⟨fun r hr => c1 r (by omega) (by omega), zPT_cl c3 c4 (fun s q => by omega)⟩
  · intro W hW
    show zwp (ev 15 20 _ _ _ _) _
    rw [b15_20, if_pos (by decide), b15_46 hS]
    refine zwp_ret ⟨rfl, rfl, fun r g1 g2 => by rw [zwr_ne g2, hW.1 r (by omega), a1 r (by omega)], fun j g => by rw [zwr_same, if_neg g, hW.1 0 (by decide), a1 0 (by decide)], by rw [zwr_same, if_pos rfl], zRd_congr (fun r g1 g2 => by rw [zwr_ne (by omega), hW.1 r (by omega)]) a2, ?_⟩
    exact zPT_congr (fun d g1 g2 => zwr_ne (by omega)) (zPT_A hW.2 (fun s s1 s2 => ⟨fun _ => trivial, fun _ => ⟨s2, s1⟩⟩))
  · intro i W i1 i2 hW next
    show zwp (ev 15 20 _ _ _ _) _
    rw [b15_20, if_neg (by omega), b15_27 hS]
    refine zwp_seq (c21 (mk := fun _ => 0) hS (st65 hS) (Or.inl rfl) (zRd_congr (fun r g1 g2 => hW.1 r (by omega)) a2) hc hW.2 ⟨i1, i2⟩ (fun s q => q.1) (by decide)) ?_
    rintro r T3 V3 ⟨rfl, rfl, d1, d2⟩
    simp only [zpush9]
    rw [b15_40 (by omega)]
    exact next V3 ⟨fun r hr => by rw [d1 r (by omega), hW.1 r hr], zPT_A d2 (fun s s1 s2 => ⟨fun q => ⟨by omega, s1⟩, fun q => by omega⟩)⟩
end PAIR
