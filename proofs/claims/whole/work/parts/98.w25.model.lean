/-! the reference: rows of strokes, clauses -/
def zHd (V : zM) (K : Int → Int) : Prop := ∀ i, 0 ≤ i → i < 300 → V 135 i = K i
def zMp (b : Int → Int) (m : Int) (N : Nat) (V V' : zM) (R : zRes) : Prop := (∀ r, r ≠ 130 → r ≠ 135 → V' r = V r) ∧ (∀ j, j ≠ 18 → j ≠ 19 → j ≠ 21 → V' 130 j = V 130 j) ∧ ((R.1 = -1 ∧ zMs V' b m N R.2.1 ∧ zHd V' R.2.2) ∨ (R.1 ≠ -1 ∧ V' 130 19 = R.1))
theorem zHd_e {V V' : zM} {K : Int → Int} (h : zHd V K) (e : zMe V V') : zHd V' K := fun i i1 i2 => by rw [e.1 135 (by decide)]; exact h i i1 i2
section MODEL
variable {T : zT} {V V' : zM} {b K : Int → Int} {m : Int} {N t : Nat}
theorem zMp_f {R : zRes} {s : Int} (e : zMe V V') (h : V' 130 19 = s) (hs : 0 ≤ s) (hR : R.1 = s) : zMp b m N V V' R := ⟨fun r r1 _ => e.1 r r1, e.2, Or.inr ⟨by omega, by rw [h, hR]⟩⟩
theorem zMs_h {x i v : Int} (h : zMs V b m N t) (hx : x = 135) : zMs (zwr V x i v) b m N t := by
  subst hx
  obtain ⟨⟨a1, a2, a3, a4, a5, a6, a7, a8⟩, h2, h3, h4⟩ := h
  have e : ∀ r, r ≠ 135 → zwr V 135 i v r = V r := fun r hr => zwr_ne hr
  refine ⟨⟨by rw [e 130 (by decide), a1], by rw [e 130 (by decide), a2], a3, a4, fun s hs => ?_, by rw [e 141 (by decide), a6], by rw [e 139 (by decide), a7], fun j j1 j2 => by rw [e 137 (by decide)]; exact a8 j j1 j2⟩, by rw [e 130 (by decide), h2], by rw [e 130 (by decide), h3], h4⟩
  rw [e 141 (by decide), e 139 (by decide), e 140 (by decide)]
  exact a5 s hs
theorem c177 {but many : Int} (hS : zStr T) (hB : zBy b m) (h : zMs V b m N t) (hb : 0 ≤ but ∧ but < 128) (hm7 : many = 0 ∨ many = 7) : ∃ y V', zcall 177 [(2, 130), (0, but), (0, many)] T V = some ((0, y), T, V') ∧ zGt b m N t V V' y (zStw b m t but ∧ (many = 0 ∨ zF b m (zS b m t) - zS b m t = many)) (zSx b m t) := by
  obtain ⟨h1, h2, h3, h4⟩ := id h
  have p := zMk_p h1 h4
  have hN := h1.2.2.1
  have mm := hB.1
  have bc := h1.2.2.2.2.2.2.2
  have sr := zS_r (b := b) hB.1.1 t
  have fr := zF_r (b := b) sr.2
  obtain ⟨P, hP⟩ : ∃ P : Prop, P ↔ (zStw b m t but ∧ (many = 0 ∨ zF b m (zS b m t) - zS b m t = many)) := ⟨_, Iff.rfl⟩
  have res : ∀ y V', zGt b m N t V V' y P (zSx b m t) → zGt b m N t V V' y (zStw b m t but ∧ (many = 0 ∨ zF b m (zS b m t) - zS b m t = many)) (zSx b m t) := fun y V' z => ⟨z.1, z.2.elim (fun z => Or.inl ⟨z.1, hP.1 z.2.1, z.2.2⟩) (fun z => Or.inr ⟨z.1, fun q => z.2.1 (hP.2 q), z.2.2⟩)⟩
  have fail : ¬ P → ∀ x3 x4 x5 x6 v7, ∃ y V', ev 177 162 [(2, 130), (0, but), (0, many), (0, x3), (0, x4), (0, x5), (0, x6), v7] [] T V = some ((0, y), T, V') ∧ zGt b m N t V V' y P (zSx b m t) := fun hp x3 x4 x5 x6 v7 => by
    rw [b177_162 hS, c174 hS mm.2 h]
    simp only [Option.bind_some, zpush9]
    rw [b177_166]
    exact ⟨0, _, rfl, zGt_f h hp⟩
  -- something was wrong
  have wrong : ¬ P → ∀ x4 x5 x6 v7, (0 ≤ x6) → ∃ y V', ev 177 55 [(2, 130), (0, but), (0, many), (0, 0), (0, x4), (0, x5), (0, x6), v7] [] T V = some ((0, y), T, V') ∧ zGt b m N t V V' y P (zSx b m t) := fun hp x4 x5 x6 v7 h6 => by
    rw [b177_55 hS, h1.1]
    by_cases c1 : m ≤ x6
    · rw [if_pos c1, b177_148, if_pos rfl]; exact fail hp _ _ _ _ _
    · rw [if_neg c1, b177_64 hS (by omega), c167]
      simp only [Option.bind_some, zpush0]
      rw [b177_74]
      by_cases c2 : 48 ≤ V 137 x6 ∧ V 137 x6 ≤ 57
      · rw [if_pos c2, if_neg (by decide), b177_77, if_pos rfl, b177_148, if_pos rfl]; exact fail hp _ _ _ _ _
      · rw [if_neg c2, if_pos rfl, b177_148, if_pos rfl]; exact fail hp _ _ _ _ _
  have main : ∃ y V', zcall 177 [(2, 130), (0, but), (0, many)] T V = some ((0, y), T, V') ∧ zGt b m N t V V' y P (zSx b m t) := by
    rw [e177, b177_0 hS, c171 hS h3]
    simp only [Option.bind_some, zpush0]
    rw [b177_4, if_neg (by decide), b177_7 hS (by rw [h2]; omega), h2, p.2.1]
    by_cases c : zCd b m (zS b m t) = 90
    · have k2 := (zCd_s (t := t) hB).1.1 c
      obtain ⟨s1, s2, s3⟩ := zStw_p hB (Or.inl k2)
      have ht := zKd_q h1 h4 (by rw [k2]; decide)
      obtain ⟨s, hs⟩ : ∃ s, zS b m t = s := ⟨_, rfl⟩
      obtain ⟨e, he⟩ : ∃ e, zF b m s = e := ⟨_, rfl⟩
      have kd : ∀ x, s ≤ x → x < e → (48 ≤ b x ∧ b x ≤ 57) ∧ V 137 x = b x := fun x x1 x2 => by
        have q := s3 x (by omega) (by rw [hs, he]; exact x2)
        rw [k2] at q
        exact ⟨zkb_2.1 q, (zBc_k bc (j := x) (by omega) (by rw [hs, he] at fr; omega)).2.2.2 (by rw [q]; decide)⟩
      have dv : ∀ x, s ≤ x → x < e → (¬ ((1 ≤ b x - 48 ∧ b x - 48 ≤ 7) ∧ ¬ zbt (zor (zsb b s (x - s).toNat) but) (b x - 49).toNat)) → ¬ P := fun x x1 x2 q z => by
        have := (hP.1 z).1.2 (x - s).toNat (by rw [hs, he]; omega)
        rw [hs, show s + ((x - s).toNat : Int) = x by omega] at this
        exact q this
      rw [if_pos c, b177_21, b177_26, if_neg (by decide), b177_37 hS (by rw [h2]; omega), h2, p.1, b177_53, hs]
      rw [hs] at sr s1 s2 fr
      rw [he] at s2 fr
      have := zup (α := zV) (fun x _ => ∀ i : Nat, (i : Int) < x - s → (1 ≤ b (s + i) - 48 ∧ b (s + i) - 48 ≤ 7) ∧ ¬ zbt (zor (zsb b s i) but) (b (s + i) - 49).toNat) (fun x v => ∃ y V', ev 177 55 [(2, 130), (0, but), (0, many), (0, 1), (0, zsb b s (x - s).toNat), (0, x - s), (0, x), v] [] T V = some ((0, y), T, V') ∧ zGt b m N t V V' y P (zSx b m t)) (lo := s) (hi := e) (by omega) ?_ ?_ (9, 0) (fun i hi => by omega)
      · rw [show (s - s).toNat = 0 by omega, show s - s = 0 by omega, zsb] at this
        exact this
      · intro v hi
        have at148 : ∃ y V', ev 177 148 [(2, 130), (0, but), (0, many), (0, 1), (0, zsb b s (e - s).toNat), (0, e - s), (0, e), v] [] T V = some ((0, y), T, V') ∧ zGt b m N t V V' y P (zSx b m t) := by
          have ok : (many = 0 ∨ e - s = many) → ∃ y V', ev 177 168 [(2, 130), (0, but), (0, many), (0, 1), (0, zsb b s (e - s).toNat), (0, e - s), (0, e), v] [] T V = some ((0, y), T, V') ∧ zGt b m N t V V' y P (zSx b m t) := fun hq => by
            have e18 : ∀ v, zwr V 130 21 v 130 18 = t := fun v => by rw [zwr_same, if_neg (by decide), h2]
            have esx : zSx b m t = zsb b s (e - s).toNat := by unfold zSx; rw [hs, he]
            obtain ⟨q1, q2, q3⟩ := zMs_n (v := zsb b s (e - s).toNat) h ht
            rw [b177_168 hS (by rw [e18]; omega), e18]
            exact ⟨1, _, rfl, q2, Or.inl ⟨rfl, hP.2 ⟨⟨k2, by rw [hs, he]; exact hi⟩, by rw [hs, he]; exact hq⟩, q1, by rw [esx]; exact q3⟩⟩
          rw [b177_148, if_neg (by decide), b177_152]
          by_cases m0 : many ≤ 0
          · rw [if_pos m0]; exact ok (by omega)
          · rw [if_neg m0, b177_156]
            by_cases m1 : e - s = many
            · rw [if_pos m1]; exact ok (Or.inr m1)
            · rw [if_neg m1]
              exact fail (fun z => by have := (hP.1 z).2; rw [hs, he] at this; omega) _ _ _ _ _
        rw [b177_55 hS, h1.1]
        by_cases cm : m ≤ e
        · rw [if_pos cm]; exact at148
        · have q := (zBc_k bc (j := e) (by omega) (by omega)).2.1
          have ks : zkb (b s) = 2 := by
            have := k2
            rw [hs, show zKd b m s = zkb (b s) from if_pos s1] at this
            exact this
          have := fr.2.2.2 s1 (by rw [ks]; decide) (by omega)
          rw [if_neg cm, b177_64 hS (by omega), c167, if_neg (fun z => this (by rw [q.2 z, ks]))]
          simp only [Option.bind_some, zpush0]
          rw [b177_74, if_pos rfl]
          exact at148
      · intro x v x1 x2 hi next
        obtain ⟨k1, k3⟩ := kd x x1 x2
        obtain ⟨r, g⟩ := zsb_r (b := b) (s := s) (x - s).toNat (fun i hi2 => (hi i (by omega)).1)
        have q := (zBc_k bc (j := x) (by omega) (by omega)).2.1
        rw [b177_55 hS, h1.1, if_neg (by omega), b177_64 hS (by omega), c167, if_pos (by rw [k3]; exact k1)]
        simp only [Option.bind_some, zpush0]
        rw [b177_74, if_neg (by decide), b177_77, if_neg (by decide), b177_81 hS (by omega) (by rw [k3]; omega), k3, c150]
        simp only [Option.bind_some, zpush0]
        rw [b177_101]
        by_cases c1 : 0 ≤ b x - 49 ∧ b x - 49 ≤ 6
        · rw [if_pos c1, if_neg (by decide), b177_104 (by omega), zand_1]
          by_cases c2 : zbt (zor (zsb b s (x - s).toNat) but) (b x - 49).toNat
          · rw [if_neg (by unfold zbt at c2; omega), b177_120, b177_121, if_pos rfl, b177_135, b177_136 (by omega) (by omega)]
            exact wrong (dv x x1 x2 (fun z => z.2 c2)) _ _ _ _ (by omega)
          · rw [if_pos (by unfold zbt at c2; omega), b177_116, b177_121, if_neg (by decide), b177_128 (by omega), b177_136 (by omega) (by omega)]
            have st : zor (zsb b s (x - s).toNat) (2 ^ (b x - 49).toNat) = zsb b s (x + 1 - s).toNat := by
              rw [show (x + 1 - s).toNat = (x - s).toNat + 1 by omega, zsb, show s + ((x - s).toNat : Int) = x by omega]
            rw [st, show x - s + 1 = x + 1 - s by omega]
            refine next _ (fun i hi2 => ?_)
            by_cases ci : (i : Int) = x - s
            · rw [ci, show s + (x - s) = x by omega, show i = (x - s).toNat by omega]
              exact ⟨by omega, c2⟩
            · exact hi i (by omega)
        · rw [if_neg c1, if_pos rfl, b177_120, b177_121, if_pos rfl, b177_135, b177_136 (by omega) (by omega)]
          exact wrong (dv x x1 x2 (fun z => by omega)) _ _ _ _ (by omega)
    · have nP : ¬ P := fun z => c ((zCd_s (t := t) hB).1.2 (hP.1 z).1.1)
      rw [if_neg c, b177_25, b177_26, if_pos rfl, b177_49 hS, b177_53]
      exact wrong nP _ _ _ _ (by rw [h1.1]; omega)
  obtain ⟨y, V', q1, q2⟩ := main
  exact ⟨y, V', q1, res y V' q2⟩
end MODEL
