/-! the walls near two texts, by pairs -/
section NEAR2
variable {n : Int} {T : zT} {V : zM}
theorem c94 {e w : Int} (h : zJ n T V) {W : zM} (hW : ∀ r, r ≠ 77 → W r = V r) : zwp (zcall 94 [(2, 77), (2, 65), (0, e), (0, w)] T W) fun r T' V' => r = (9, 0) ∧ T' = T ∧ (∀ r, r ≠ 77 → V' r = V r) ∧ zNo (V 132) e w (fun _ => True) (V' 77 0) (V' 77 2) (V' 77 3) ∧ V' 77 1 = zcst (V 132) (V' 77 2) := by
  have hS := h.str
  have hc := h.ok.cok
  obtain ⟨⟨l1, l2, l3⟩, -, g2, g3, g4, g5, -⟩ := h.pt2
  have k1 : ∀ i, 0 ≤ i → i < V 65 5 → 0 ≤ V 70 i ∧ V 70 i < 729 := l2
  have k2 : ∀ i j, 0 ≤ i → i < j → j < V 65 5 → V 70 i ≠ V 70 j := g2
  have k3 : ∀ i, 0 ≤ i → i < V 65 5 → 0 < V 66 (V 70 i) := g3
  have k4 : ∀ p, 0 ≤ p → p < 729 → V 66 p = zcnt (fun s => True ∧ zpr (V 132) s = p) 128 := g4
  have k5 : ∀ p, 0 ≤ p → p < 729 → V 66 p ≠ 0 → ∃ i, (0 ≤ i ∧ i < V 65 5) ∧ V 70 i = p := l3
  have k6 : ∀ p, 0 ≤ p → p < 729 → 0 < V 66 p → (0 ≤ V 67 p ∧ V 67 p < 128) ∧ True ∧ zpr (V 132) (V 67 p) = p ∧ V 68 p = zcst (V 132) (V 67 p) ∧ ∀ s, 0 ≤ s → s < 128 → True → zpr (V 132) s = p → zcst (V 132) (V 67 p) < zcst (V 132) s ∨ (zcst (V 132) (V 67 p) = zcst (V 132) s ∧ V 67 p ≤ s) := g5
  have kr : 0 ≤ V 65 5 ∧ V 65 5 ≤ 128 := l1
  -- every set is in some pair
  have all : ∀ s, 0 ≤ s → s < 128 → ∃ i, (0 ≤ i ∧ i < V 65 5) ∧ V 70 i = zpr (V 132) s := fun s s1 s2 => by
    have a := zsgn_r (V 132) 0 s
    have b := zsgn_r (V 132) 1 s
    have e : zpr (V 132) s = zsgn (V 132) 0 s * 27 + zsgn (V 132) 1 s := rfl
    refine k5 _ (by omega) (by omega) ?_
    rw [k4 _ (by omega) (by omega)]
    have : 0 < zcnt (fun x => True ∧ zpr (V 132) x = zpr (V 132) s) 128 := zcnt_pos.2 ⟨s, by omega, trivial, rfl⟩
    omega
  have r65 : W 65 = V 65 := hW 65 (by decide)
  rw [e94, b94_0 hS]
  refine zup (α := zM × zV × zV) (fun i c => (∀ r, r ≠ 77 → c.1 r = V r) ∧ ((i = 0 ∧ c.1 77 0 = 1000000) ∨ (zNo (V 132) e w (fun s => ∃ j, (0 ≤ j ∧ j < i) ∧ V 70 j = zpr (V 132) s) (c.1 77 0) (c.1 77 2) (c.1 77 3) ∧ c.1 77 1 = zcst (V 132) (c.1 77 2)))) (fun i c => zwp (ev 94 9 [(2, 77), (2, 65), (0, e), (0, w), (0, i), c.2.1, c.2.2] [] T c.1) fun r T' V' => r = (9, 0) ∧ T' = T ∧ (∀ r, r ≠ 77 → V' r = V r) ∧ zNo (V 132) e w (fun _ => True) (V' 77 0) (V' 77 2) (V' 77 3) ∧ V' 77 1 = zcst (V 132) (V' 77 2)) (lo := 0) (hi := V 65 5) kr.1 ?_ ?_ (zwr W 77 0 1000000, (9, 0), (9, 0)) ⟨fun r hr => by show zwr W 77 0 1000000 r = _; rw [zwr_ne hr, hW r hr], Or.inl ⟨rfl, by show zwr W 77 0 1000000 77 0 = _; rw [zwr_same, if_pos rfl]⟩⟩
  · intro c hcc
    show zwp (ev 94 9 _ _ _ _) _
    rw [b94_9 (st65 hS), if_pos (by rw [hcc.1 65 (by decide)]; omega), b94_103]
    rcases hcc.2 with q | q
    · obtain ⟨i, i1, -⟩ := all 0 (by decide) (by decide)
      omega
    · exact zwp_ret ⟨rfl, rfl, hcc.1, zNo_S (fun s s1 s2 => ⟨fun _ => trivial, fun _ => all s s1 s2⟩) q.1, q.2⟩
  · intro i c i1 i2 hcc next
    show zwp (ev 94 9 _ _ _ _) _
    obtain ⟨c1, c3⟩ := hcc
    have r65 : c.1 65 = V 65 := c1 65 (by decide)
    have r70 : c.1 (65 + 5) = V 70 := c1 70 (by decide)
    have hp := k1 i i1 i2
    have hw := k3 i i1 i2
    obtain ⟨p, hP⟩ : ∃ p, V 70 i = p := ⟨_, rfl⟩
    rw [hP] at hp hw
    obtain ⟨m1, -, m3, m4, m5⟩ := k6 p hp.1 hp.2 hw
    have m4' := k4 p hp.1 hp.2
    have wcr := zcnt_r (fun s => True ∧ zpr (V 132) s = p) 128
    have cr := zcst_r hc (V 67 p)
    obtain ⟨d, hd⟩ : ∃ d : Int, (if p / 27 = e then 0 else 1) + (if p % 27 = w then 0 else 1) = d := ⟨_, rfl⟩
    have dr : 0 ≤ d ∧ d ≤ 2 := by rw [← hd]; (repeat' split) <;> omega
    have dp : ∀ s, zpr (V 132) s = p → zds (V 132) e w s = d := fun s q => by
      have a := zsgn_r (V 132) 0 s
      have b := zsgn_r (V 132) 1 s
      have q' : zsgn (V 132) 0 s * 27 + zsgn (V 132) 1 s = p := q
      have a1 : zsgn (V 132) 0 s = p / 27 := by omega
      have b1 : zsgn (V 132) 1 s = p % 27 := by omega
      unfold zds
      rw [a1, b1, hd]
    -- to the place where off is known
    have toD : ∀ Q, zwp (ev 94 9 [(2, 77), (2, 65), (0, e), (0, w), (0, i), c.2.1, c.2.2] [] T c.1) Q ↔ zwp (ev 94 55 [(2, 77), (2, 65), (0, e), (0, w), (0, i), (0, p), (0, d)] [] T c.1) Q := fun Q => by
      rw [b94_9 (st65 hS), if_neg (by rw [r65]; omega), b94_18 (st65 hS) (by omega) (by rw [r70, hP]; omega), r70, hP, ← hd]
      by_cases z1 : p / 27 = e
      · rw [if_pos z1, if_pos z1, b94_36, b94_41 hp.1]
        by_cases z2 : p % 27 = w
        · rw [if_pos z2, if_pos z2]
          try exact Iff.rfl
        · rw [if_neg z2, if_neg z2, b94_52 (by decide)]
          try exact Iff.rfl
      · rw [if_neg z1, if_neg z1, b94_40, b94_41 hp.1]
        by_cases z2 : p % 27 = w
        · rw [if_pos z2, if_pos z2]
          try exact Iff.rfl
        · rw [if_neg z2, if_neg z2, b94_52 (by decide)]
          try exact Iff.rfl
    rw [toD, b94_55 hS]
    have snew : ∀ s, (∃ j, (0 ≤ j ∧ j < i + 1) ∧ V 70 j = zpr (V 132) s) ↔ ((∃ j, (0 ≤ j ∧ j < i) ∧ V 70 j = zpr (V 132) s) ∨ zpr (V 132) s = p) := fun s => by
      constructor
      · rintro ⟨j, j1, j2⟩
        by_cases q : j = i
        · right; rw [← j2, q, hP]
        · left; exact ⟨j, by omega, j2⟩
      · rintro (⟨j, j1, j2⟩ | q)
        · exact ⟨j, by omega, j2⟩
        · exact ⟨i, by omega, by rw [hP, q]⟩
    have disj : ∀ s, ¬ ((∃ j, (0 ≤ j ∧ j < i) ∧ V 70 j = zpr (V 132) s) ∧ zpr (V 132) s = p) := fun s q => by
      obtain ⟨⟨j, j1, j2⟩, q2⟩ := q
      exact k2 j i j1.1 j1.2 i2 (by rw [j2, q2, hP])
    have wp : V 66 p = zcnt (fun s => zpr (V 132) s = p) 128 := by
      rw [m4']
      exact zcnt_congr fun s _ _ => ⟨fun q => q.2, fun q => ⟨trivial, q⟩⟩
    -- choose, from a state U
    have choose : ∀ (U : zM), (∀ r, r ≠ 77 → U r = V r) → U 77 0 = d → (0 ≤ U 77 3 ∧ U 77 3 ≤ 1000) → ((V 68 p < U 77 1 ∨ (V 68 p = U 77 1 ∧ V 67 p < U 77 2)) → zNo (V 132) e w (fun s => ∃ j, (0 ≤ j ∧ j < i + 1) ∧ V 70 j = zpr (V 132) s) d (V 67 p) (U 77 3 + V 66 p)) → (¬ (V 68 p < U 77 1 ∨ (V 68 p = U 77 1 ∧ V 67 p < U 77 2)) → zNo (V 132) e w (fun s => ∃ j, (0 ≤ j ∧ j < i + 1) ∧ V 70 j = zpr (V 132) s) d (U 77 2) (U 77 3 + V 66 p) ∧ U 77 1 = zcst (V 132) (U 77 2)) → zwp (ev 94 81 [(2, 77), (2, 65), (0, e), (0, w), (0, i), (0, p), (0, d)] [] T U) fun r T' V' => r = (9, 0) ∧ T' = T ∧ (∀ r, r ≠ 77 → V' r = V r) ∧ zNo (V 132) e w (fun _ => True) (V' 77 0) (V' 77 2) (V' 77 3) ∧ V' 77 1 = zcst (V 132) (V' 77 2) := by
      intro U u1 u2 u3 hy hno
      have u66 : U (65 + 1) = V 66 := u1 66 (by decide)
      have u67 : U (65 + 2) = V 67 := u1 67 (by decide)
      have u68 : U (65 + 3) = V 68 := u1 68 (by decide)
      rw [b94_81 hS, if_pos u2.symm, b94_90 hS, e95, b95_0 hS (st65 hS) hp (by rw [u66]; omega), u66]
      obtain ⟨X, hX⟩ : ∃ X, zwr U 77 3 (U 77 3 + V 66 p) = X := ⟨_, rfl⟩
      rw [hX]
      have x68 : X (65 + 3) = V 68 := by rw [← hX, zwr_ne (by decide), u68]
      have x67 : X (65 + 2) = V 67 := by rw [← hX, zwr_ne (by decide), u67]
      have x1 : X 77 1 = U 77 1 := by rw [← hX, zwr_same, if_neg (by decide)]
      have x2 : X 77 2 = U 77 2 := by rw [← hX, zwr_same, if_neg (by decide)]
      have x0 : X 77 0 = d := by rw [← hX, zwr_same, if_neg (by decide), u2]
      have x3 : X 77 3 = U 77 3 + V 66 p := by rw [← hX, zwr_same, if_pos rfl]
      have xr : ∀ r, r ≠ 77 → X r = V r := fun r hr => by rw [← hX, zwr_ne hr, u1 r hr]
      have keep : ∀ y, ¬ (V 68 p < U 77 1 ∨ (V 68 p = U 77 1 ∧ V 67 p < U 77 2)) → zwp ((ev 95 84 [(2, 77), (2, 65), (0, p), (0, y)] [] T X).bind fun x => ev 94 97 [(2, 77), (2, 65), (0, e), (0, w), (0, i), (0, p), (0, d)] (z_push x.1 []) x.2.1 x.2.2) fun r T' V' => r = (9, 0) ∧ T' = T ∧ (∀ r, r ≠ 77 → V' r = V r) ∧ zNo (V 132) e w (fun _ => True) (V' 77 0) (V' 77 2) (V' 77 3) ∧ V' 77 1 = zcst (V 132) (V' 77 2) := fun y q => by
        rw [b95_84]
        simp only [Option.bind_some, zpush9]
        rw [b94_97 (by omega)]
        refine next (X, (0, p), (0, d)) ⟨xr, Or.inr ?_⟩
        show zNo _ _ _ _ (X 77 0) (X 77 2) (X 77 3) ∧ X 77 1 = zcst (V 132) (X 77 2)
        rw [x0, x2, x3, x1]
        exact hno q
      have newc : ∀ y, (V 68 p < U 77 1 ∨ (V 68 p = U 77 1 ∧ V 67 p < U 77 2)) → zwp ((ev 95 64 [(2, 77), (2, 65), (0, p), (0, y)] [] T X).bind fun x => ev 94 97 [(2, 77), (2, 65), (0, e), (0, w), (0, i), (0, p), (0, d)] (z_push x.1 []) x.2.1 x.2.2) fun r T' V' => r = (9, 0) ∧ T' = T ∧ (∀ r, r ≠ 77 → V' r = V r) ∧ zNo (V 132) e w (fun _ => True) (V' 77 0) (V' 77 2) (V' 77 3) ∧ V' 77 1 = zcst (V 132) (V' 77 2) := fun y q => by
        have y67 : ∀ v, zwr X 77 1 v (65 + 2) p = V 67 p := fun v => by rw [zwr_ne (by decide), x67]
        rw [b95_64 hS (st65 hS) hp, y67, x68, b95_84]
        simp only [Option.bind_some, zpush9]
        rw [b94_97 (by omega)]
        refine next (zwr (zwr X 77 1 (V 68 p)) 77 2 (V 67 p), (0, p), (0, d)) ⟨fun r hr => by show zwr (zwr X 77 1 (V 68 p)) 77 2 (V 67 p) r = _; rw [zwr_ne hr, zwr_ne hr, xr r hr], Or.inr ?_⟩
        show zNo _ _ _ _ (zwr (zwr X 77 1 (V 68 p)) 77 2 (V 67 p) 77 0) (zwr (zwr X 77 1 (V 68 p)) 77 2 (V 67 p) 77 2) (zwr (zwr X 77 1 (V 68 p)) 77 2 (V 67 p) 77 3) ∧ zwr (zwr X 77 1 (V 68 p)) 77 2 (V 67 p) 77 1 = zcst (V 132) (zwr (zwr X 77 1 (V 68 p)) 77 2 (V 67 p) 77 2)
        simp (disch := decide) only [zwr_same, if_neg, if_true]
        rw [x0, x3]
        exact ⟨hy q, m4⟩
      rw [x68, x1]
      have mid : ∀ y, (y = 0 ∧ V 68 p ≠ U 77 1) ∨ (y = 1 ∧ V 68 p = U 77 1) → zwp ((ev 95 33 [(2, 77), (2, 65), (0, p), (9, 0)] [(0, y)] T X).bind fun x => ev 94 97 [(2, 77), (2, 65), (0, e), (0, w), (0, i), (0, p), (0, d)] (z_push x.1 []) x.2.1 x.2.2) fun r T' V' => r = (9, 0) ∧ T' = T ∧ (∀ r, r ≠ 77 → V' r = V r) ∧ zNo (V 132) e w (fun _ => True) (V' 77 0) (V' 77 2) (V' 77 3) ∧ V' 77 1 = zcst (V 132) (V' 77 2) := fun y hy1 => by
        rw [b95_33 hS (st65 hS) hp, x68, x1]
        by_cases z : V 68 p < U 77 1
        · rw [if_pos z]; exact newc y (Or.inl z)
        · rw [if_neg z, b95_47]
          by_cases z2 : y = 0
          · rw [if_pos z2]; exact keep y (by omega)
          · rw [if_neg z2, b95_51 hS (st65 hS) hp, x67, x2]
            by_cases z3 : U 77 2 ≤ V 67 p
            · rw [if_pos z3]; exact keep y (by omega)
            · rw [if_neg z3]; exact newc y (Or.inr (by omega))
      by_cases z : V 68 p = U 77 1
      · rw [if_pos z, b95_28]; exact mid 1 (Or.inr ⟨rfl, z⟩)
      · rw [if_neg z, b95_32]; exact mid 0 (Or.inl ⟨rfl, z⟩)
    by_cases g1 : c.1 77 0 ≤ d
    · rw [if_pos g1]
      have q : zNo (V 132) e w (fun s => ∃ j, (0 ≤ j ∧ j < i) ∧ V 70 j = zpr (V 132) s) (c.1 77 0) (c.1 77 2) (c.1 77 3) ∧ c.1 77 1 = zcst (V 132) (c.1 77 2) := by
        rcases c3 with q | q
        · omega
        · exact q
      obtain ⟨⟨q1, ⟨q2, q3, q4⟩, q5, q6⟩, q7⟩ := q
      by_cases g2 : d = c.1 77 0
      · have w3 : 0 ≤ c.1 77 3 ∧ c.1 77 3 ≤ 128 := by rw [q6]; exact zcnt_r _ 128
        have wy : c.1 77 3 + V 66 p = zcnt (fun s => (∃ j, (0 ≤ j ∧ j < i + 1) ∧ V 70 j = zpr (V 132) s) ∧ zds (V 132) e w s = d) 128 := by
          rw [q6, wp, ← zcnt_or (fun s q => disj s ⟨q.1.1, q.2⟩)]
          refine zcnt_congr fun s s1 s2 => ?_
          rw [snew s, ← g2]
          constructor
          · rintro (q | q)
            · exact ⟨Or.inl q.1, q.2⟩
            · exact ⟨Or.inr q, dp s q⟩
          · rintro ⟨q | q, q'⟩
            · exact Or.inl ⟨q, q'⟩
            · exact Or.inr q
        refine choose c.1 c1 g2.symm (by omega) (fun z => ⟨fun s s1 s2 s3 => ?_, ⟨m1, (snew _).2 (Or.inr m3), dp _ m3⟩, fun s s1 s2 s3 s4 => ?_, wy⟩) (fun z => ⟨⟨fun s s1 s2 s3 => ?_, ⟨q2, (snew _).2 (Or.inl q3), by omega⟩, fun s s1 s2 s3 s4 => ?_, wy⟩, q7⟩)
        · rcases (snew s).1 s3 with u | u
          · have := q1 s s1 s2 u; omega
          · rw [dp s u]; omega
        · rcases (snew s).1 s3 with u | u
          · have := q5 s s1 s2 u (by omega)
            omega
          · exact m5 s s1 s2 trivial u
        · rcases (snew s).1 s3 with u | u
          · have := q1 s s1 s2 u; omega
          · rw [dp s u]; omega
        · rcases (snew s).1 s3 with u | u
          · exact q5 s s1 s2 u (by omega)
          · have := m5 s s1 s2 trivial u
            omega
      · rw [b94_81 hS, if_neg g2, b94_97 (by omega)]
        refine next (c.1, (0, p), (0, d)) ⟨c1, Or.inr ⟨?_, q7⟩⟩
        show zNo _ _ _ _ (c.1 77 0) (c.1 77 2) (c.1 77 3)
        refine ⟨fun s s1 s2 s3 => ?_, ⟨q2, (snew _).2 (Or.inl q3), q4⟩, fun s s1 s2 s3 s4 => ?_, ?_⟩
        · rcases (snew s).1 s3 with u | u
          · exact q1 s s1 s2 u
          · rw [dp s u]; exact g1
        · rcases (snew s).1 s3 with u | u
          · exact q5 s s1 s2 u s4
          · rw [dp s u] at s4; omega
        · rw [q6]
          refine zcnt_congr fun s s1 s2 => ⟨fun z => ⟨(snew s).2 (Or.inl z.1), z.2⟩, fun z => ⟨?_, z.2⟩⟩
          rcases (snew s).1 z.1 with u | u
          · exact u
          · have := z.2; rw [dp s u] at this; omega
    · rw [if_neg g1, b94_64 hS]
      have old : ∀ s, 0 ≤ s → s < 128 → (∃ j, (0 ≤ j ∧ j < i) ∧ V 70 j = zpr (V 132) s) → d < zds (V 132) e w s := fun s s1 s2 s3 => by
        rcases c3 with q | q
        · obtain ⟨j, j1, -⟩ := s3; omega
        · have := q.1.1 s s1 s2 s3; omega
      have f0 : zwr (zwr (zwr c.1 77 0 d) 77 1 1000000) 77 3 0 77 0 = d := by simp (disch := decide) only [zwr_same, if_neg, if_true]
      have f1 : zwr (zwr (zwr c.1 77 0 d) 77 1 1000000) 77 3 0 77 1 = 1000000 := by simp (disch := decide) only [zwr_same, if_neg, if_true]
      have f3 : zwr (zwr (zwr c.1 77 0 d) 77 1 1000000) 77 3 0 77 3 = 0 := by simp (disch := decide) only [zwr_same, if_true]
      refine choose _ (fun r hr => by rw [zwr_ne hr, zwr_ne hr, zwr_ne hr, c1 r hr]) f0 (by rw [f3]; decide) (fun z => ?_) (fun z => absurd (Or.inl (by rw [f1, m4]; omega)) z)
      rw [f3, Int.zero_add]
      refine ⟨fun s s1 s2 s3 => ?_, ⟨m1, (snew _).2 (Or.inr m3), dp _ m3⟩, fun s s1 s2 s3 s4 => ?_, ?_⟩
      · rcases (snew s).1 s3 with u | u
        · have := old s s1 s2 u; omega
        · rw [dp s u]; omega
      · rcases (snew s).1 s3 with u | u
        · have := old s s1 s2 u; omega
        · exact m5 s s1 s2 trivial u
      · rw [wp]
        refine zcnt_congr fun s s1 s2 => ⟨fun q => ⟨(snew s).2 (Or.inr q), dp s q⟩, fun q => ?_⟩
        rcases (snew s).1 q.1 with u | u
        · have := old s s1 (by omega) u; have := q.2; omega
        · exact u
/-- what the cells add up to -/
def zAcc (K : Int → Int) (N : Int) : Nat → Int → Int → Int → Prop
  | 0, a, b, c => a = 0 ∧ b = 0 ∧ c = 1
  | i + 1, a, b, c => ∃ a0 b0 c0 wr st wy, zAcc K N i a0 b0 c0 ∧ zNo K (K (332 + (i : Int))) (K (348 + N - 1 - (i : Int))) (fun _ => True) wr st wy ∧ a = a0 + wr ∧ b = b0 + zcst K st ∧ c = min 1000000000 (c0 * wy)
theorem zAcc_u {K : Int → Int} {N : Int} (i : Nat) : ∀ {a b c a' b' c' : Int}, zAcc K N i a b c → zAcc K N i a' b' c' → a = a' ∧ b = b' ∧ c = c' := by
  induction i with
  | zero => intro a b c a' b' c' h g; obtain ⟨h1, h2, h3⟩ := h; obtain ⟨g1, g2, g3⟩ := g; omega
  | succ i ih =>
    intro a b c a' b' c' h g
    obtain ⟨a0, b0, c0, wr, st, wy, h1, h2, h3, h4, h5⟩ := h
    obtain ⟨a0', b0', c0', wr', st', wy', g1, g2, g3, g4, g5⟩ := g
    obtain ⟨e1, e2, e3⟩ := ih h1 g1
    obtain ⟨d1, d2, d3⟩ := zNo_u h2 g2
    rw [h3, h4, h5, g3, g4, g5, e1, e2, e3, d1, d2, d3]
    exact ⟨rfl, rfl, rfl⟩
theorem zNo_r {K : Int → Int} {e w wr st wy : Int} (h : zNo K e w (fun _ => True) wr st wy) : (0 ≤ wr ∧ wr ≤ 2) ∧ (0 ≤ wy ∧ wy ≤ 128) := by
  obtain ⟨-, ⟨-, -, h4⟩, -, h6⟩ := h
  have := zds_r K e w st
  have := zcnt_r (fun s => True ∧ zds K e w s = wr) 128
  exact ⟨by omega, by rw [h6]; exact this⟩
theorem zAcc_r {K : Int → Int} {N : Int} (hK : zcok K) (i : Nat) : ∀ {a b c : Int}, zAcc K N i a b c → (0 ≤ a ∧ a ≤ 2 * i) ∧ (0 ≤ b ∧ b ≤ 693 * i) ∧ (0 ≤ c ∧ c ≤ 1000000000) := by
  induction i with
  | zero => intro a b c h; obtain ⟨h1, h2, h3⟩ := h; omega
  | succ i ih =>
    intro a b c h
    obtain ⟨a0, b0, c0, wr, st, wy, h1, h2, h3, h4, h5⟩ := h
    have r := ih h1
    have q := zNo_r h2
    have z := zcst_r hK st
    have m := Int.mul_nonneg r.2.2.1 q.2.1
    omega
theorem c93 {i N : Int} (h : zJ n T V) {W : zM} (hW : ∀ r, r ≠ 77 → W r = V r) (hi : 0 ≤ i ∧ i < N) (hN : N ≤ 16) : zwp (zcall 93 [(2, 0), (0, i), (0, N)] T W) fun r T' V' => r = (9, 0) ∧ T' = T ∧ (∀ r, r ≠ 77 → V' r = V r) ∧ zNo (V 132) (V 132 (332 + i)) (V 132 (348 + N - 1 - i)) (fun _ => True) (V' 77 0) (V' 77 2) (V' 77 3) ∧ V' 77 1 = zcst (V 132) (V' 77 2) := by
  have hS := h.str
  have e12 : W 12 i = V 132 (332 + i) := by
    rw [hW 12 (by decide)]
    have := h.sr.east.txt (i := i) hi.1 (by omega)
    simp only [Int.reduceMul, Int.reduceAdd] at this
    exact this
  have e20 : W 20 (N - 1 - i) = V 132 (348 + N - 1 - i) := by
    rw [hW 20 (by decide)]
    have := h.sr.west.txt (i := N - 1 - i) (by omega) (by omega)
    simp only [Int.reduceMul, Int.reduceAdd] at this
    rw [show 348 + N - 1 - i = 348 + (N - 1 - i) by omega]
    exact this
  rw [e93, b93_0 hS (by omega) (by omega) (by omega) (by omega), e12, e20]
  refine zwp_seq (c94 h hW) ?_
  rintro r T1 V1 ⟨rfl, rfl, a1, a2, a3⟩
  simp only [zpush9]
  rw [b93_39]
  exact zwp_ret ⟨rfl, rfl, a1, a2, a3⟩
theorem c205 (hS : zStr T) : zcall 205 [(2, 130)] T V = some ((0, if V 132 364 = V 132 365 then 1 else 0), T, V) := by
  rw [e205, b205_0 hS]
  by_cases g : V 132 364 = V 132 365
  · rw [if_pos g, if_pos g, b205_19, b205_24 (by decide)]
  · rw [if_neg g, if_neg g, b205_23, b205_24 (by decide)]
theorem k_nearAt {x1 : Int} (h : zJ n T V) (hn : n < 1000) : zSame 0 97 207 [(0, x1)] n T V := by
  have hS := h.str
  have hm := (h.ok.many (t := 0) (by decide) (by decide)).2.1
  simp only [Int.reduceAdd] at hm
  have t0 : V 6 7 = V 132 364 := h.sr.east.tlen
  have t1 : V 14 7 = V 132 365 := h.sr.west.tlen
  unfold zSame
  by_cases g : V 132 364 = V 132 365 ∧ 0 ≤ x1 ∧ x1 < V 132 364
  · rw [e97, b97_0 hS, if_pos (by omega), b97_25, if_neg (by omega), b97_29, if_pos (by omega), b97_36 hS, t0]
    refine zwp_seq (c93 h (fun r _ => rfl) ⟨g.2.1, g.2.2⟩ hm.2) ?_
    rintro r T1 V1 ⟨rfl, rfl, a1, a2, a3⟩
    simp only [zpush9]
    rw [b97_42 hS]
    refine zwp_ret ?_
    have e132 : V1 132 = V 132 := a1 132 (by decide)
    rw [e207, b207_0 hS, c205 hS, e132, if_pos g.1]
    simp only [Option.bind_some, zpush0]
    rw [b207_4, if_neg (by decide), b207_7 hS (by rw [e132]; omega), e132, c150, if_pos (by omega)]
    simp only [Option.bind_some, zpush0]
    rw [b207_22, if_neg (by decide), b207_27 hS]
    refine zwp_seq (c197 hS (by rw [e132]; exact h.ok)) ?_
    rintro r T2 V2 ⟨rfl, rfl, d1, d2⟩
    simp only [zpush9]
    rw [b207_31 hS]
    have f132 : V2 132 = V 132 := by rw [d1 132 (by decide) (by decide), e132]
    refine zwp_seq (c206 (N := V 132 364) hS (by rw [f132]; exact h.ok) ⟨g.2.1, g.2.2⟩ (by rw [f132]) hm.2 (fun s s1 s2 => by rw [f132, ← e132]; exact d2 s s1 s2)) ?_
    rintro r T3 V3 ⟨rfl, rfl, p1, p2, p3⟩
    simp only [zpush9]
    rw [b207_36 hS]
    rw [f132] at p3
    have u := zNo_u a2 p3
    refine zwp_ret ⟨⟨_, rfl, by rw [u.2.1]⟩, zJ_md h hn (fun r => ?_) (fun j hj => by rw [p2 j (by omega), d1 130 (by decide) (by decide), a1 130 (by decide)])⟩
    by_cases q : r = 130 ∨ r = 142 ∨ r = 143 ∨ r = 77
    · omega
    · exact Or.inr (Or.inr (Or.inr (Or.inr (by rw [p1 r (by omega), d1 r (by omega) (by omega), a1 r (by omega)]))))
  · have c1 : zcall 97 [(2, 0), (0, x1)] T V = some ((0, -1), T, V) := by
      rw [e97, b97_0 hS]
      by_cases q1 : V 6 7 = V 14 7
      · rw [if_pos q1, b97_25]
        by_cases q2 : x1 < 0
        · rw [if_pos q2, b97_34]
        · rw [if_neg q2, b97_29, if_neg (by omega), b97_34]
      · rw [if_neg q1, b97_34]
    have c2 : zcall 207 [(2, 130), (0, x1)] T V = some ((0, -1), T, V) := by
      rw [e207, b207_0 hS, c205 hS]
      simp only [Option.bind_some, zpush0]
      rw [b207_4]
      by_cases q1 : V 132 364 = V 132 365
      · rw [if_pos q1, if_neg (by decide), b207_7 hS (by omega), c150, if_neg (by omega)]
        simp only [Option.bind_some, zpush0]
        rw [b207_22, if_pos rfl, b207_25]
      · rw [if_neg q1, if_pos rfl, b207_25]
    rw [c1]
    refine zwp_ret ?_
    rw [c2]
    exact zwp_ret ⟨⟨_, rfl, rfl⟩, zJ_ok h hn⟩
theorem k_near {x1 : Int} (h : zJ n T V) (hn : n < 1000) : zSame 0 92 204 [(0, x1)] n T V := by
  have hS := h.str
  have hc := h.ok.cok
  have hm := (h.ok.many (t := 0) (by decide) (by decide)).2.1
  simp only [Int.reduceAdd] at hm
  have t0 : V 6 7 = V 132 364 := h.sr.east.tlen
  have t1 : V 14 7 = V 132 365 := h.sr.west.tlen
  unfold zSame
  by_cases g : V 132 364 = V 132 365 ∧ 0 ≤ x1 ∧ x1 ≤ 2
  · obtain ⟨N, hN⟩ : ∃ N, V 132 364 = N := ⟨_, rfl⟩
    rw [hN] at hm t0 g
    have cls : zwp (zcall 92 [(2, 0), (0, x1)] T V) fun r T' V' => ∃ a b c, zAcc (V 132) N N.toNat a b c ∧ r = (0, if x1 = 0 then a else if x1 = 1 then b else c) ∧ T' = T ∧ ∀ r, r ≠ 77 → V' r = V r := by
      rw [e92, b92_0 hS, if_neg (by omega), b92_15, if_neg (by omega), b92_20 hS, if_pos (by omega), b92_36, t0]
      refine zup (α := zM × Int × Int × Int) (fun i s => (∀ r, r ≠ 77 → s.1 r = V r) ∧ zAcc (V 132) N i.toNat s.2.1 s.2.2.1 s.2.2.2) (fun i s => zwp (ev 92 47 [(2, 0), (0, x1), (0, N), (0, s.2.1), (0, s.2.2.1), (1, s.2.2.2), (9, 0), (0, i)] [] T s.1) fun r T' V' => ∃ a b c, zAcc (V 132) N N.toNat a b c ∧ r = (0, if x1 = 0 then a else if x1 = 1 then b else c) ∧ T' = T ∧ ∀ r, r ≠ 77 → V' r = V r) (lo := 0) (hi := N) hm.1 ?_ ?_ (V, 0, 0, 1) ⟨fun r _ => rfl, ⟨rfl, rfl, rfl⟩⟩
      · intro s hs
        show zwp (ev 92 47 _ _ _ _) _
        have r := zAcc_r hc _ hs.2
        rw [b92_47, if_pos (by omega), b92_107]
        by_cases z0 : x1 = 0
        · rw [if_pos z0, b92_111]
          exact zwp_ret ⟨_, _, _, hs.2, by rw [if_pos z0], rfl, hs.1⟩
        · rw [if_neg z0, b92_113]
          by_cases z1 : x1 = 1
          · rw [if_pos z1, b92_118, b92_126]
            exact zwp_ret ⟨_, _, _, hs.2, by rw [if_neg z0, if_pos z1], rfl, hs.1⟩
          · rw [if_neg z1, b92_123 (by omega), b92_126]
            exact zwp_ret ⟨_, _, _, hs.2, by rw [if_neg z0, if_neg z1], rfl, hs.1⟩
      · intro i s i1 i2 hs next
        show zwp (ev 92 47 _ _ _ _) _
        have r := zAcc_r hc _ hs.2
        rw [b92_47, if_neg (by omega), b92_53 hS]
        refine zwp_seq (c93 h hs.1 ⟨i1, i2⟩ hm.2) ?_
        rintro r' T1 V1 ⟨rfl, rfl, a1, a2, a3⟩
        simp only [zpush9]
        have q := zNo_r a2
        have z := zcst_r hc (V1 77 2)
        have mm : 0 ≤ s.2.2.2 * V1 77 3 ∧ s.2.2.2 * V1 77 3 ≤ 128000000000 := by
          have m1 := Int.mul_nonneg r.2.2.1 q.2.1
          have m2 : s.2.2.2 * V1 77 3 ≤ 1000000000 * V1 77 3 := Int.mul_le_mul_of_nonneg_right r.2.2.2 q.2.1
          omega
        rw [b92_60 hS (by omega) (by rw [a3]; omega) (by omega) (by omega), a3]
        refine next (V1, _, _, _) ⟨a1, ?_⟩
        have e : (i + 1).toNat = i.toNat + 1 := by omega
        have ei : ((i.toNat : Nat) : Int) = i := Int.toNat_of_nonneg i1
        rw [e]
        exact ⟨_, _, _, _, _, _, hs.2, by rw [ei]; exact a2, rfl, rfl, rfl⟩
    obtain ⟨r0, T0, V0, e0, a, b, c, acc, rfl, rfl, hr⟩ := zwp_to cls
    rw [e0]
    refine zwp_ret ?_
    have e132 : V0 132 = V 132 := hr 132 (by decide)
    rw [e204, b204_0, c150, if_pos (by omega)]
    simp only [Option.bind_some, zpush0]
    rw [b204_6, if_neg (by decide), b204_9 hS, c205 hS, e132, if_pos (by omega)]
    simp only [Option.bind_some, zpush0]
    rw [b204_13, if_neg (by decide), b204_18 hS]
    refine zwp_seq (c197 hS (by rw [e132]; exact h.ok)) ?_
    rintro r T2 V2 ⟨rfl, rfl, d1, d2⟩
    simp only [zpush9]
    rw [b204_22]
    have f132 : V2 132 = V 132 := by rw [d1 132 (by decide) (by decide), e132]
    refine zup (α := zM × Int × Int × Int) (fun i s => (∀ r, r ≠ 130 → s.1 r = V2 r) ∧ (∀ j, j < 25 ∨ 27 < j → s.1 130 j = V2 130 j) ∧ zAcc (V 132) N i.toNat s.2.1 s.2.2.1 s.2.2.2) (fun i s => zwp (ev 204 32 [(2, 130), (0, x1), (0, s.2.1), (0, s.2.2.1), (1, s.2.2.2), (9, 0), (0, i)] [] T2 s.1) fun r' T3 V3 => (∃ x, ((0, if x1 = 0 then a else if x1 = 1 then b else c) : zV) = (0, x) ∧ r' = (0, x)) ∧ zJ (n + 1) T3 V3) (lo := 0) (hi := N) hm.1 ?_ ?_ (V2, 0, 0, 1) ⟨fun r _ => rfl, fun j _ => rfl, ⟨rfl, rfl, rfl⟩⟩
    · intro s hs
      show zwp (ev 204 32 _ _ _ _) _
      have r := zAcc_r hc _ hs.2.2
      obtain ⟨u1, u2, u3⟩ := zAcc_u _ acc hs.2.2
      have s132 : s.1 132 = V 132 := by rw [hs.1 132 (by decide), f132]
      have hj : zJ (n + 1) T2 s.1 := zJ_md h hn (fun r => by
        by_cases q : r = 130 ∨ r = 142 ∨ r = 143 ∨ r = 77
        · omega
        · exact Or.inr (Or.inr (Or.inr (Or.inr (by rw [hs.1 r (by omega), d1 r (by omega) (by omega), hr r (by omega)]))))) (fun j hj => by rw [hs.2.1 j (by omega), d1 130 (by decide) (by decide), hr 130 (by decide)])
      rw [b204_32 hS, if_pos (by rw [s132]; omega), b204_106]
      by_cases z0 : x1 = 0
      · rw [if_pos z0, b204_110, b204_126]
        exact zwp_ret ⟨⟨_, rfl, by rw [if_pos z0, u1]⟩, hj⟩
      · rw [if_neg z0, b204_114]
        by_cases z1 : x1 = 1
        · rw [if_pos z1, b204_119, b204_126]
          exact zwp_ret ⟨⟨_, rfl, by rw [if_neg z0, if_pos z1, u2]⟩, hj⟩
        · rw [if_neg z1, b204_123 (by omega), b204_126]
          exact zwp_ret ⟨⟨_, rfl, by rw [if_neg z0, if_neg z1, u3]⟩, hj⟩
    · intro i s i1 i2 hs next
      show zwp (ev 204 32 _ _ _ _) _
      have r := zAcc_r hc _ hs.2.2
      have s132 : s.1 132 = V 132 := by rw [hs.1 132 (by decide), f132]
      rw [b204_32 hS, if_neg (by rw [s132]; omega), b204_45 hS]
      refine zwp_seq (c206 (N := N) hS (by rw [s132]; exact h.ok) ⟨i1, i2⟩ (by rw [s132, hN]) hm.2 (fun t t1 t2 => by rw [s132, hs.1 142 (by decide), hs.1 143 (by decide), ← e132]; exact d2 t t1 t2)) ?_
      rintro r' T3 V3 ⟨rfl, rfl, p1, p2, p3⟩
      simp only [zpush9]
      rw [s132] at p3
      have q := zNo_r p3
      have w132 : V3 132 = V 132 := by rw [p1 132 (by decide), s132]
      have z := zcst_r hc (V3 130 26)
      rw [b204_51 hS (by omega), c199 hS (by rw [w132]; exact hc), w132]
      simp only [Option.bind_some, zpush0]
      have mm : 0 ≤ s.2.2.2 * V3 130 27 ∧ s.2.2.2 * V3 130 27 ≤ 128000000000 := by
        have m1 := Int.mul_nonneg r.2.2.1 q.2.1
        have m2 : s.2.2.2 * V3 130 27 ≤ 1000000000 * V3 130 27 := Int.mul_le_mul_of_nonneg_right r.2.2.2 q.2.1
        omega
      have go : ∀ y, y = min 1000000000 (s.2.2.2 * V3 130 27) → zwp (ev 204 98 [(2, 130), (0, x1), (0, s.2.1 + V3 130 25), (0, s.2.2.1 + zcst (V 132) (V3 130 26)), (1, s.2.2.2), (9, 0), (0, i)] [(1, y)] T3 V3) fun r' T3 V3 => (∃ x, ((0, if x1 = 0 then a else if x1 = 1 then b else c) : zV) = (0, x) ∧ r' = (0, x)) ∧ zJ (n + 1) T3 V3 := fun y hy => by
        rw [b204_98 (by omega)]
        refine next (V3, _, _, _) ⟨fun r hr => by show V3 r = _; rw [p1 r hr, hs.1 r hr], fun j hj => by show V3 130 j = _; rw [p2 j hj, hs.2.1 j hj], ?_⟩
        have e : (i + 1).toNat = i.toNat + 1 := by omega
        have ei : ((i.toNat : Nat) : Int) = i := Int.toNat_of_nonneg i1
        rw [e]
        exact ⟨_, _, _, _, _, _, hs.2.2, by rw [ei]; exact p3, rfl, rfl, hy⟩
      rw [b204_67 hS (by omega) (by omega)]
      by_cases k : s.2.2.2 * V3 130 27 ≤ 1000000000
      · rw [if_pos k, b204_90 hS (by omega)]
        exact go _ (by omega)
      · rw [if_neg k, b204_84]
        exact go _ (by omega)
  · have c1 : zcall 92 [(2, 0), (0, x1)] T V = some ((0, -1), T, V) := by
      rw [e92, b92_0 hS]
      by_cases q1 : x1 < 0
      · rw [if_pos q1, b92_34]
      · rw [if_neg q1, b92_15]
        by_cases q2 : 2 < x1
        · rw [if_pos q2, b92_34]
        · rw [if_neg q2, b92_20 hS, if_neg (by omega), b92_34]
    have c2 : zcall 204 [(2, 130), (0, x1)] T V = some ((0, -1), T, V) := by
      rw [e204, b204_0, c150]
      simp only [Option.bind_some, zpush0]
      rw [b204_6]
      by_cases q1 : 0 ≤ x1 ∧ x1 ≤ 2
      · rw [if_pos q1, if_neg (by decide), b204_9 hS, c205 hS, if_neg (by omega)]
        simp only [Option.bind_some, zpush0]
        rw [b204_13, if_pos rfl, b204_16]
      · rw [if_neg q1, if_pos rfl, b204_16]
    rw [c1]
    refine zwp_ret ?_
    rw [c2]
    exact zwp_ret ⟨⟨_, rfl, rfl⟩, zJ_ok h hn⟩
end NEAR2
