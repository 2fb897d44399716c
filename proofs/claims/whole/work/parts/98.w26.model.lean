/-! the reference: clauses -/
section MODEL2
variable {T : zT} {V V' : zM} {b K : Int → Int} {m : Int} {N t : Nat}
/-- readLetter -/
theorem c179 (hS : zStr T) (hB : zBy b m) (h : zMs V b m N t) (hh : zHd V K) : zwp (zcall 179 [(2, 130)] T V) fun r T' V' => r = (9, 0) ∧ T' = T ∧ zMp b m N V V' (zfi (zNa b m t 0) (zLet b m K 0 (t + 1)) (zfi (zNa b m t 1) (zLet b m K 1 (t + 1)) (zS b m t, t, K))) := by
  have s0 : ∀ t, 0 ≤ zS b m t := fun t => (zS_r hB.1.1 t).1
  obtain ⟨y1, V1, a1, a2, a3⟩ := c173 hS hB h
  rw [e179, b179_0 hS, a1]
  simp only [Option.bind_some, zpush0]
  rw [b179_4]
  rcases a3 with ⟨rfl, a3, a4, a5⟩ | ⟨rfl, a3, a4⟩
  · have go : ∀ g, (g = 0 ∨ g = 1) → V1 130 21 = g → zwp (ev 179 8 [(2, 130), (9, 0), (9, 0), (9, 0), (9, 0)] [] T V1) fun r T' V' => r = (9, 0) ∧ T' = T ∧ zMp b m N V V' (zLet b m K g (t + 1)) := fun g hg eg => by
      obtain ⟨y2, V2, d1, d2, d3⟩ := c178 hS hB a4
      have e2 := zMe_t a2 d2
      rw [b179_8 hS, d1, eg]
      simp only [Option.bind_some, zpush0]
      rw [b179_17]
      unfold zLet
      rcases d3 with ⟨rfl, d3, d4, d5⟩ | ⟨rfl, d3, d4⟩
      · have l := zOl_r hB d3
        obtain ⟨y3, V3, f1, f2, f3⟩ := c177 (but := 0) (many := 0) hS hB d4 (by decide) (Or.inl rfl)
        have e3 := zMe_t e2 f2
        rw [zfi_t d3, if_neg (by decide), b179_21 hS (by omega) (by rw [d5]; omega) (by rw [d5]; omega) (by rw [d5]; omega), f1, d5]
        simp only [Option.bind_some, zpush0]
        rw [b179_41]
        obtain ⟨l', hl'⟩ : ∃ l', b (zS b m (t + 1)) - 97 = l' := ⟨_, rfl⟩
        rw [hl'] at l ⊢
        rcases f3 with ⟨rfl, f3, f4, f5⟩ | ⟨rfl, f3, f4⟩
        · have st2 : zStw b m (t + 1 + 1) 0 := f3.1
          have x := zStw_r hB st2
          obtain ⟨y4, V4, g1, g2⟩ := c170 (x := 7) hS hB.1.2 f4 (zCd_n (x := 6) hB (by decide)) (by decide)
          have put : ∀ (W : zM) (t' : Nat) (z : Int), zMs W b m N t' → zMe V W → zwp (ev 179 78 [(2, 130), (0, g), (0, 0 + 3 * (26 * g + l')), (0, zSx b m (t + 1 + 1)), (0, z)] [] T W) fun r T' V' => r = (9, 0) ∧ T' = T ∧ zMp b m N V V' (-1, t', zk3 K (3 * (26 * g + l')) 1 (zSx b m (t + 1 + 1)) z) := fun W t' z ms me => by
            rw [Int.zero_add, b179_78 hS (by omega) (by omega) (by omega) (by omega) (by omega)]
            refine zwp_ret ⟨rfl, rfl, fun r r1 r2 => by rw [zwr_ne r2, zwr_ne r2, zwr_ne r2, me.1 r r1], fun j j1 j2 j3 => by rw [zwr_ne (by decide), zwr_ne (by decide), zwr_ne (by decide), me.2 j j1 j2 j3], Or.inl ⟨rfl, zMs_h (zMs_h (zMs_h ms rfl) rfl) rfl, fun i i1 i2 => ?_⟩⟩
            show zwr (zwr (zwr W 135 (3 * (26 * g + l')) 1) 135 (3 * (26 * g + l') + 1) (zSx b m (t + 1 + 1))) 135 (3 * (26 * g + l') + 2) z 135 i = zk3 K (3 * (26 * g + l')) 1 (zSx b m (t + 1 + 1)) z i
            rw [zwr_same, zwr_same, zwr_same, me.1 135 (by decide), hh i i1 i2]
            unfold zk3
            by_cases q0 : i = 3 * (26 * g + l')
            · rw [if_neg (by omega), if_neg (by omega), if_pos q0, if_pos q0]
            · by_cases q1 : i = 3 * (26 * g + l') + 1
              · rw [if_neg (by omega), if_pos q1, if_neg q0, if_pos q1]
              · by_cases q2 : i = 3 * (26 * g + l') + 2
                · rw [if_pos q2, if_neg q0, if_neg q1, if_pos q2]
                · rw [if_neg q2, if_neg q1, if_neg q0, if_neg q0, if_neg q1, if_neg q2]
          rw [zfi_t st2, if_neg (by decide), b179_45 hS, g1, f5]
          simp only [Option.bind_some, zpush0]
          rw [b179_59]
          rcases g2 with ⟨rfl, g3, g4, g5⟩ | ⟨rfl, g3, rfl⟩
          · have nt : zNa b m (t + 1 + 2) 6 := g3
            obtain ⟨y5, V5, i1, i2, i3⟩ := c177 (but := zSx b m (t + 1 + 1)) (many := 0) hS hB g4 (by omega) (Or.inl rfl)
            have e5 := zMe_t (zMe_t e3 g5) i2
            rw [zfi_t nt, if_neg (by decide), b179_62 hS, i1]
            simp only [Option.bind_some, zpush0]
            rw [b179_68]
            rcases i3 with ⟨rfl, i3, i4, i5⟩ | ⟨rfl, i3, i4⟩
            · have st4 : zStw b m (t + 1 + 3) (zSx b m (t + 1 + 1)) := i3.1
              rw [zfi_t st4, if_neg (by decide), b179_72 hS, i5]
              exact put V5 (t + 1 + 4) _ i4 e5
            · have st4 : ¬ zStw b m (t + 1 + 3) (zSx b m (t + 1 + 1)) := fun z => i3 ⟨z, Or.inl rfl⟩
              rw [zfi_f st4, if_pos rfl, b179_71]
              exact zwp_ret ⟨rfl, rfl, zMp_f e5 i4 (s0 _) rfl⟩
          · have nt : ¬ zNa b m (t + 1 + 2) 6 := g3
            rw [zfi_f nt, if_pos rfl]
            exact put _ (t + 1 + 2) 0 f4 e3
        · have st2 : ¬ zStw b m (t + 1 + 1) 0 := fun z => f3 ⟨z, Or.inl rfl⟩
          rw [zfi_f st2, if_pos rfl, b179_44]
          exact zwp_ret ⟨rfl, rfl, zMp_f e3 f4 (s0 _) rfl⟩
      · rw [zfi_f d3, if_pos rfl, b179_20]
        exact zwp_ret ⟨rfl, rfl, zMp_f e2 d4 (s0 _) rfl⟩
    rw [if_neg (by decide)]
    by_cases c0 : zNa b m t 0
    · rw [zif_t c0] at a5
      rw [zfi_t c0]
      exact go 0 (Or.inl rfl) a5
    · rw [zif_f c0] at a5
      rw [zfi_f c0, zfi_t (a3.resolve_left c0)]
      exact go 1 (Or.inr rfl) a5
  · rw [if_pos rfl, b179_7, zfi_f (fun z => a3 (Or.inl z)), zfi_f (fun z => a3 (Or.inr z))]
    exact zwp_ret ⟨rfl, rfl, zMp_f a2 a4 (s0 _) rfl⟩
/-- readWord; the word "word" at t is taken -/
theorem c172 {V0 : zM} (hS : zStr T) (hB : zBy b m) (h0 : zMe V0 V) (h : zMs V b m N (t + 1)) (hh : zHd V K) (hK : ∀ g, g = 0 ∨ g = 1 → 0 ≤ K (284 + g) ∧ K (284 + g) ≤ 8) : zwp (zcall 172 [(2, 130)] T V) fun r T' V' => r = (9, 0) ∧ T' = T ∧ zMp b m N V0 V' (zWrd b m K t) := by
  have s0 : ∀ t, 0 ≤ zS b m t := fun t => (zS_r hB.1.1 t).1
  have mm := hB.1
  obtain ⟨y1, V1, a1, a2, a3⟩ := c173 hS hB h
  have hN := h.1.2.2.1
  have e1 := zMe_t h0 a2
  rw [e172, b172_0 hS (by rw [h.2.1]; have := h.2.2.2; omega), a1, h.2.1]
  simp only [Option.bind_some, zpush0]
  rw [b172_11, show ((t + 1 : Nat) : Int) - 1 = (t : Int) by omega]
  unfold zWrd
  rcases a3 with ⟨rfl, a3, a4, a5⟩ | ⟨rfl, a3, a4⟩
  · have go : ∀ g, (g = 0 ∨ g = 1) → V1 130 21 = g → zwp (ev 172 15 [(2, 130), (0, (t : Int)), (9, 0), (9, 0), (9, 0), (9, 0), (9, 0)] [] T V1) fun r T' V' => r = (9, 0) ∧ T' = T ∧ zMp b m N V0 V' (zWr2 b m K g t) := fun g hg eg => by
      have hh1 : zHd V1 K := zHd_e hh a2
      have k8 := hK g hg
      have kg : V1 135 (284 + g) = K (284 + g) := hh1 _ (by omega) (by omega)
      rw [b172_15 hS (by rw [eg]; omega) (by rw [eg]; omega), eg, kg]
      unfold zWr2
      by_cases c8 : K (284 + g) = 8
      · have ms : zMs (zwr V1 130 18 (t : Int)) b m N t := ⟨zMk_e a4.1 (zMe_w (Or.inl rfl)), by rw [zwr_same, if_pos rfl], by rw [zwr_same, if_neg (by decide), a4.2.2.1], by have := a4.2.2.2; omega⟩
        rw [zfi_t c8, if_pos c8, b172_35 hS, c174 hS mm.2 ms]
        simp only [Option.bind_some, zpush9]
        rw [b172_44]
        exact zwp_ret ⟨rfl, rfl, zMp_f (zMe_t e1 (zMe_t (zMe_w (Or.inl rfl)) (zMe_w (Or.inr (Or.inl rfl))))) (by rw [zwr_same, if_pos rfl]) (s0 _) rfl⟩
      · obtain ⟨y2, V2, d1, d2, d3⟩ := c175 (lo := 0) (hi := 7) hS hB a4 (by decide)
        have e2 := zMe_t e1 d2
        rw [zfi_f c8, if_neg c8, b172_45 hS, d1]
        simp only [Option.bind_some, zpush0]
        rw [b172_52]
        rcases d3 with ⟨rfl, d3, d4, d5⟩ | ⟨rfl, d3, d4⟩
        · have c2 : zKd b m (zS b m (t + 2)) = 2 ∧ zNx b m (t + 2) ≤ 7 := ⟨d3.1, d3.2.2⟩
          replace d4 : zMs V2 b m N (t + 3) := d4
          replace d5 : V2 130 21 = zNx b m (t + 2) := d5
          have nx : 0 ≤ zNx b m (t + 2) := d3.2.1
          obtain ⟨n, f1, f2⟩ := c176 hS hB d4
          have pp := zMk_p d4.1 d4.2.2.2
          have sr := zS_r (b := b) hB.1.1 (t + 3)
          rw [zfi_t c2, if_neg (by decide), b172_56 hS, c171 hS d4.2.2.1, d5]
          simp only [Option.bind_some, zpush0]
          rw [b172_65, if_neg (by decide), b172_68 hS, d4.1.2.1, d4.2.1]
          have no : ¬ (zKd b m (zS b m (t + 3)) = 1 ∧ zF b m (zS b m (t + 3)) - zS b m (t + 3) ≤ 6) → ∀ x4, zwp (ev 172 100 [(2, 130), (0, (t : Int)), (0, g), (0, zNx b m (t + 2)), (0, x4), (9, 0), (9, 0)] [] T V2) fun r T' V' => r = (9, 0) ∧ T' = T ∧ zMp b m N V0 V' (zfi (zKd b m (zS b m (t + 3)) = 1 ∧ zF b m (zS b m (t + 3)) - zS b m (t + 3) ≤ 6) (-1, t + 4, zkw b K g (zNx b m (t + 2)) (zS b m (t + 3)) (zF b m (zS b m (t + 3)) - zS b m (t + 3))) (zS b m (t + 3), t, K)) := fun hno x4 => by
            rw [zfi_f hno, b172_100 hS, c174 hS mm.2 d4]
            simp only [Option.bind_some, zpush9]
            rw [b172_104]
            exact zwp_ret ⟨rfl, rfl, zMp_f (zMe_t e2 (zMe_w (Or.inr (Or.inl rfl)))) (by rw [zwr_same, if_pos rfl]) (s0 _) rfl⟩
          by_cases ct : (N : Int) ≤ ((t + 3 : Nat) : Int)
          · have nk : zKd b m (zS b m (t + 3)) ≠ 1 := fun z => by
              have := zKd_q d4.1 d4.2.2.2 (by rw [z]; decide)
              omega
            rw [if_pos ct, b172_86, b172_87, c150, if_neg (by decide)]
            simp only [Option.bind_some, zpush0]
            rw [b172_97, if_pos rfl]
            exact no (fun z => nk z.1) _
          · rw [if_neg ct, b172_79 hS, f1]
            simp only [Option.bind_some, zpush0]
            rw [b172_83, b172_87, c150]
            simp only [Option.bind_some, zpush0]
            rw [b172_97]
            rcases f2 with ⟨f2, f3⟩ | ⟨f2, f3⟩
            · obtain ⟨s1, s2, s3⟩ := zStw_p hB (Or.inr f2)
              by_cases c6 : n ≤ 6
              · rw [if_pos (c := 1 ≤ n ∧ n ≤ 6) (by omega), if_neg (by decide), zfi_t ⟨f2, by omega⟩, ← f3]
                obtain ⟨s, hs⟩ : ∃ s, zS b m (t + 3) = s := ⟨_, rfl⟩
                have hh2 : zHd V2 K := zHd_e hh1 d2
                have kg2 : V2 135 (284 + g) = K (284 + g) := hh2 _ (by omega) (by omega)
                have fr := (zF_r (b := b) sr.2).1
                rw [hs] at f3 s1 s2 sr fr ⊢
                have p141 : V2 141 ((t + 3 : Nat) : Int) = s := by rw [← hs]; exact pp.1
                obtain ⟨A, hA⟩ : ∃ A, 156 + 8 * (8 * g + K (284 + g)) = A := ⟨_, rfl⟩
                rw [b172_105 hS (by omega) (by omega) (by omega) (by rw [kg2]; omega) (by rw [kg2]; omega) (by rw [kg2]; omega) (by rw [kg2]; omega) (by rw [kg2]; omega) (by rw [kg2]; omega), kg2, hA]
                obtain ⟨W0, hW0⟩ : ∃ W0, zwr (zwr V2 135 A (zNx b m (t + 2))) 135 (A + 1) n = W0 := ⟨_, rfl⟩
                rw [hW0]
                have w0 : ∀ r, r ≠ 135 → W0 r = V2 r := fun r hr => by rw [← hW0, zwr_ne hr, zwr_ne hr]
                have w1 : ∀ j, W0 135 j = if j = A + 1 then n else if j = A then zNx b m (t + 2) else V2 135 j := fun j => by rw [← hW0, zwr_same, zwr_same]
                have bc := d4.1.2.2.2.2.2.2.2
                have kb : ∀ i, 0 ≤ i → i < n → (97 ≤ b (s + i) ∧ b (s + i) ≤ 122) ∧ V2 137 (s + i) = b (s + i) := fun i i1 i2 => by
                  have q := s3 (s + i) (by rw [hs]; omega) (by rw [hs]; omega)
                  rw [f2] at q
                  exact ⟨zkb_1.1 q, (zBc_k bc (j := s + i) (by omega) (by omega)).2.2.2 (by rw [q]; decide)⟩
                refine zup (α := zM) (fun i W => (∀ r, r ≠ 135 → W r = V2 r) ∧ (∀ j, 0 ≤ j → j < i → W 135 (A + 2 + j) = b (s + j) - 97) ∧ ∀ j, j < A + 2 ∨ A + 2 + i ≤ j → W 135 j = W0 135 j) (fun i W => zwp (ev 172 151 [(2, 130), (0, (t : Int)), (0, g), (0, zNx b m (t + 2)), (0, n), (0, A), (0, i)] [] T W) fun r T' V' => r = (9, 0) ∧ T' = T ∧ zMp b m N V0 V' (-1, t + 4, zkw b K g (zNx b m (t + 2)) s n)) (lo := 0) (hi := n) (by omega) ?_ ?_ W0 ⟨w0, fun j j1 j2 => by omega, fun j _ => rfl⟩
                · rintro W ⟨u1, u2, u3⟩
                  have k135 : W 135 (284 + g) = K (284 + g) := by rw [u3 _ (by omega), w1, if_neg (by omega), if_neg (by omega), kg2]
                  have e18 : ∀ v, zwr W 135 (284 + g) v 130 18 = ((t + 3 : Nat) : Int) := fun v => by rw [zwr_ne (by decide), u1 130 (by decide), d4.2.1]
                  rw [b172_151, if_pos (by omega), b172_196 hS (by omega) (by omega) (by rw [k135]; omega) (by rw [e18]; omega), k135, e18]
                  refine zwp_ret ⟨rfl, rfl, fun r r1 r2 => by rw [zwr_ne r1, zwr_ne r2, u1 r r2, e2.1 r r1], fun j j1 j2 j3 => by rw [zwr_same, if_neg j1, zwr_ne (by decide), u1 130 (by decide), e2.2 j j1 j2 j3], Or.inl ⟨rfl, ?_, fun i i1 i2 => ?_⟩⟩
                  · have me : zMe (zwr W 135 (284 + g) (K (284 + g) + 1)) (zwr (zwr W 135 (284 + g) (K (284 + g) + 1)) 130 18 (((t + 3 : Nat) : Int) + 1)) := zMe_w (Or.inl rfl)
                    have mk : zMk (zwr W 135 (284 + g) (K (284 + g) + 1)) b m N := by
                      have er : ∀ r, r ≠ 135 → zwr W 135 (284 + g) (K (284 + g) + 1) r = V2 r := fun r hr => by rw [zwr_ne hr, u1 r hr]
                      obtain ⟨q1, q2, q3, q4, q5, q6, q7, q8⟩ := d4.1
                      refine ⟨by rw [er 130 (by decide), q1], by rw [er 130 (by decide), q2], q3, q4, fun x hx => ?_, by rw [er 141 (by decide), q6], by rw [er 139 (by decide), q7], fun j j1 j2 => by rw [er 137 (by decide)]; exact q8 j j1 j2⟩
                      rw [er 141 (by decide), er 139 (by decide), er 140 (by decide)]
                      exact q5 x hx
                    exact ⟨zMk_e mk me, by show zwr _ 130 18 _ 130 18 = ((t + 4 : Nat) : Int); rw [zwr_same, if_pos rfl]; omega, by show zwr _ 130 18 _ 130 19 = -1; rw [zwr_same, if_neg (by decide), zwr_ne (by decide), u1 130 (by decide), d4.2.2.1], by show t + 4 ≤ N; omega⟩
                  · show zwr (zwr W 135 (284 + g) (K (284 + g) + 1)) 130 18 (((t + 3 : Nat) : Int) + 1) 135 i = zkw b K g (zNx b m (t + 2)) s n i
                    rw [zwr_ne (by decide), zwr_same]
                    unfold zkw
                    rw [hA]
                    by_cases q0 : i = 284 + g
                    · rw [if_pos q0, if_pos q0]
                    · rw [if_neg q0, if_neg q0]
                      by_cases q1 : i = A
                      · rw [if_pos q1, u3 i (by omega), w1, if_neg (by omega), if_pos q1]
                      · rw [if_neg q1]
                        by_cases q2 : i = A + 1
                        · rw [if_pos q2, u3 i (by omega), w1, if_pos q2]
                        · rw [if_neg q2]
                          by_cases q3 : A + 2 ≤ i ∧ i < A + 2 + n
                          · have := u2 (i - (A + 2)) (by omega) (by omega)
                            rw [show A + 2 + (i - (A + 2)) = i by omega] at this
                            rw [if_pos q3, this]
                          · rw [if_neg q3, u3 i (by omega), w1, if_neg q2, if_neg q1]
                            exact hh2 i i1 i2
                · rintro i W i1 i2 ⟨u1, u2, u3⟩ next
                  obtain ⟨k1, k2⟩ := kb i i1 i2
                  have e18 : W 130 18 = ((t + 3 : Nat) : Int) := by rw [u1 130 (by decide), d4.2.1]
                  have e141 : W 141 ((t + 3 : Nat) : Int) = s := by rw [u1 141 (by decide), p141]
                  have e137 : W 137 (s + i) = b (s + i) := by rw [u1 137 (by decide), k2]
                  rw [b172_151, if_neg (by omega), b172_158 hS (by omega) (by omega) (by rw [e18]; omega) (by rw [e18, e141]; omega) (by rw [e18, e141]; omega) (by rw [e18, e141, e137]; omega) (by omega) (by omega), e18, e141, e137]
                  refine next _ ⟨fun r hr => by rw [zwr_ne hr, u1 r hr], fun j j1 j2 => ?_, fun j hj => by rw [zwr_same, if_neg (by omega), u3 j (by omega)]⟩
                  rw [zwr_same]
                  by_cases cj : j = i
                  · rw [if_pos (by omega), cj]
                  · rw [if_neg (by omega)]; exact u2 j j1 (by omega)
              · rw [if_neg (c := 1 ≤ n ∧ n ≤ 6) (by omega), if_pos rfl]
                exact no (fun z => by omega) _
            · rw [if_neg (c := 1 ≤ n ∧ n ≤ 6) (by omega), if_pos rfl]
              exact no (fun z => f2 z.1) _
        · rw [zfi_f (fun z => d3 ⟨z.1, zNx_r hB z.1, z.2⟩), if_pos rfl, b172_55]
          exact zwp_ret ⟨rfl, rfl, zMp_f e2 d4 (s0 _) rfl⟩
    rw [if_neg (by decide)]
    by_cases c0 : zNa b m (t + 1) 0
    · rw [zif_t c0] at a5
      rw [zfi_t c0]
      exact go 0 (Or.inl rfl) a5
    · rw [zif_f c0] at a5
      rw [zfi_f c0, zfi_t (a3.resolve_left c0)]
      exact go 1 (Or.inr rfl) a5
  · rw [if_pos rfl, b172_14, zfi_f (fun z => a3 (Or.inl z)), zfi_f (fun z => a3 (Or.inr z))]
    exact zwp_ret ⟨rfl, rfl, zMp_f e1 a4 (s0 _) rfl⟩
end MODEL2
