/-! listSets: the sets that may have stood in a cell -/
theorem zPs {g p : Nat} (hg : g < 128) (hp : p < 128) {s : Int} (hs : 0 ≤ s ∧ s < 128) : zand s (zxor (g : Int) (-1)) = zand (p : Int) (zxor (g : Int) (-1)) ↔ ∃ u : Nat, u &&& g = u ∧ s = ((p &&& (127 ^^^ g) : Nat) : Int) + u := by
  obtain ⟨n, rfl⟩ := Int.eq_ofNat_of_zero_le hs.1
  rw [zand_not (by omega) hg, zand_not hp hg]
  constructor
  · intro h
    have := zsplit g hg n (by omega)
    refine ⟨n &&& g, by rw [Nat.and_assoc, Nat.and_self], ?_⟩
    omega
  · rintro ⟨u, h1, h2⟩
    obtain ⟨d1, d2, d3, d4⟩ := zdis hg hp h1
    have : n = (p &&& (127 ^^^ g)) ||| u := by omega
    rw [this, d2]
def zmk (s : Int) : Int := zor s ((zand 127 (zxor s (-1))) * 128)
def zmq (q s : Int) : Int := if q = 1 then zmk s else 0
theorem zmk_r {s : Int} (hs : 0 ≤ s ∧ s < 128) : (0 ≤ zmk s ∧ zmk s < 16384) ∧ 0 ≤ zand 127 (zxor s (-1)) ∧ zand 127 (zxor s (-1)) ≤ 127 := by
  have a := zand_n (x := 127) (y := zxor s (-1)) (by decide) (by decide)
  exact ⟨zor_n (k := 14) (by decide) hs.1 (by omega) (by omega) (by omega), a⟩
section LISTS
variable {T : zT} {V : zM} {K : Int → Int}
theorem c127 {c q st : Int} (hS : zStr T) (hl : zPL V 71) (hR : zRd V K) (hk : zcok K) (hc : 0 ≤ c ∧ c < 16) (hp : 0 ≤ V 2 c ∧ V 2 c < 128) (hg : 0 ≤ V 3 c ∧ V 3 c < 128) (hq : q = 0 ∨ q = 1) : zwp (zcall 127 [(2, 0), (0, c), (0, q), (0, st)] T V) fun r T' V' => r = (9, 0) ∧ T' = T ∧ (∀ r, r < 71 ∨ 76 < r → V' r = V r) ∧ zPT V' 71 K (fun s => zand s (zxor (V 3 c) (-1)) = zand (V 2 c) (zxor (V 3 c) (-1)) ∧ (q = 1 → zand s st = st)) (zmq q) := by
  obtain ⟨g, eg⟩ := Int.eq_ofNat_of_zero_le hg.1
  obtain ⟨p, ep⟩ := Int.eq_ofNat_of_zero_le hp.1
  have hg' : g < 128 := by omega
  have hp' : p < 128 := by omega
  rw [e127, b127_0 hS hc, eg, ep]
  refine zwp_seq (c20 (st71 hS) hl) ?_
  rintro r T1 V1 ⟨rfl, rfl, a1, a2, a3, a4⟩
  simp only [zpush9]
  rw [b127_37, zand_not hp' hg']
  obtain ⟨k, ek⟩ : ∃ k : Nat, p &&& (127 ^^^ g) = k := ⟨_, rfl⟩
  have hk' : k < 128 := by
    have : p &&& (127 ^^^ g) ≤ p := Nat.and_le_left
    omega
  rw [ek]
  have pr := zpop_r (g := g)
  obtain ⟨M, eM⟩ : ∃ M : Nat, 2 ^ zpop g = M := ⟨_, rfl⟩
  have m1 : 0 < M := by rw [← eM]; exact Nat.pow_pos (by decide)
  rw [eM] at pr
  have e2 : (1 : Int) * 2 ^ ((zpop g : Int)).toNat = (M : Int) := by rw [Int.one_mul, Int.toNat_natCast, ← eM, Int.natCast_pow]; rfl
  have hP : ∀ s : Int, 0 ≤ s → s < 128 → ((zand s (zxor (g : Int) (-1)) = (k : Int) ∧ (q = 1 → zand s st = st)) ↔ ((∃ u : Nat, u &&& g = u ∧ s = (k : Int) + u) ∧ (q = 1 → zand s st = st))) := fun s s1 s2 => by
    have z := zPs hg' hp' (s := s) ⟨s1, s2⟩
    rw [ek, zand_not hp' hg', ek] at z
    rw [z]
  refine zup (α := zM × Int × zV) (fun i s => (∀ r, r < 71 ∨ 76 < r → s.1 r = V r) ∧ ∃ x : Nat, s.2.1 = x ∧ x &&& g = x ∧ (i < (M : Int) → (zcs2 g x : Int) = i ∧ zPT s.1 71 K (fun s => (zand s (zxor (g : Int) (-1)) = (k : Int) ∧ (q = 1 → zand s st = st)) ∧ s < (k : Int) + x) (zmq q)) ∧ (i = (M : Int) → zPT s.1 71 K (fun s => zand s (zxor (g : Int) (-1)) = (k : Int) ∧ (q = 1 → zand s st = st)) (zmq q))) (fun i s => zwp (ev 127 40 [(2, 0), (0, c), (0, q), (0, st), (0, (g : Int)), (0, (k : Int)), (0, s.2.1), (0, i), s.2.2] [] T1 s.1) fun r T' V' => r = (9, 0) ∧ T' = T1 ∧ (∀ r, r < 71 ∨ 76 < r → V' r = V r) ∧ zPT V' 71 K (fun s => zand s (zxor (g : Int) (-1)) = (k : Int) ∧ (q = 1 → zand s st = st)) (zmq q)) (lo := 0) (hi := (M : Int)) (by omega) ?_ ?_ (V1, 0, (9, 0)) ⟨fun r hr => a1 r (by omega) (by omega), 0, rfl, by rw [Nat.zero_and], fun _ => ⟨rfl, ?_⟩, fun z => by omega⟩
  · rintro ⟨W, x6, v8⟩ ⟨w1, x, w2, w3, w4, w5⟩
    show zwp (ev 127 40 [(2, 0), (0, c), (0, q), (0, st), (0, (g : Int)), (0, (k : Int)), (0, x6), (0, (M : Int)), v8] [] T1 W) _
    rw [b127_40, c128 hg']
    simp only [Option.bind_some, zpush0]
    rw [b127_48 (by rw [e2]; unfold z32; omega), e2, if_pos (by omega), b127_130]
    exact zwp_ret ⟨rfl, rfl, w1, w5 rfl⟩
  · rintro i ⟨W, x6, v8⟩ i1 i2 ⟨w1, x, w2, w3, w4, -⟩ next
    show zwp (ev 127 40 [(2, 0), (0, c), (0, q), (0, st), (0, (g : Int)), (0, (k : Int)), (0, x6), (0, i), v8] [] T1 W) _
    replace w1 : ∀ r, r < 71 ∨ 76 < r → W r = V r := w1
    replace w2 : x6 = x := w2
    obtain ⟨w4, w5⟩ := w4 i2
    replace w5 : zPT W 71 K (fun s => (zand s (zxor (g : Int) (-1)) = (k : Int) ∧ (q = 1 → zand s st = st)) ∧ s < (k : Int) + x) (zmq q) := w5
    subst w2
    have xg : x ≤ g := by rw [← w3]; exact Nat.and_le_right
    obtain ⟨d1, d2, d3, d4⟩ := zdis hg' hp' w3
    rw [ek] at d1 d2 d3 d4
    have es : zor (k : Int) (x : Int) = (k : Int) + x := by rw [zor_nat hk' (by omega), d3]; omega
    have hR1 : zRd W K := zRd_congr (fun r g1 g2 => w1 r (by omega)) hR
    have i3 : zcs2 g (x + 1) = zcs2 g x + 1 := by rw [zcs2, if_pos w3]
    -- behind the taking
    have tail : ∀ W' v8, (∀ r, r < 71 ∨ 76 < r → W' r = V r) → zPT W' 71 K (fun s => ((zand s (zxor (g : Int) (-1)) = (k : Int) ∧ (q = 1 → zand s st = st)) ∧ s < (k : Int) + x) ∨ (s = (k : Int) + x ∧ (q = 1 → zand s st = st))) (zmq q) → zwp (ev 127 114 [(2, 0), (0, c), (0, q), (0, st), (0, (g : Int)), (0, (k : Int)), (0, (x : Int)), (0, i), (0, v8)] [] T1 W') fun r T' V' => r = (9, 0) ∧ T' = T1 ∧ (∀ r, r < 71 ∨ 76 < r → V' r = V r) ∧ zPT V' 71 K (fun s => zand s (zxor (g : Int) (-1)) = (k : Int) ∧ (q = 1 → zand s st = st)) (zmq q) := fun W' v8 y1 y2 => by
      rw [b127_114 (by omega) (by omega), zand_sub (by omega) hg']
      have key := zcs2_d g hg' x (by omega) w3
      rw [eM] at key
      obtain ⟨x', ex⟩ : ∃ x', (x + 128 - g) &&& g = x' := ⟨_, rfl⟩
      rw [ex] at key ⊢
      refine next (W', _, _) ⟨y1, x', rfl, by rw [← ex, Nat.and_assoc, Nat.and_self], fun z => ?_, fun z => ?_⟩
      · rcases key with ⟨k1, k2⟩ | ⟨k1, k2, k3⟩
        · omega
        · refine ⟨by omega, zPT_A y2 (fun s s1 s2 => ?_)⟩
          rw [hP s s1 s2]
          constructor
          · rintro (⟨⟨⟨u, u1, u2⟩, u3⟩, u4⟩ | ⟨u1, u2⟩)
            · exact ⟨⟨⟨u, u1, u2⟩, u3⟩, by omega⟩
            · exact ⟨⟨⟨x, w3, u1⟩, u2⟩, by omega⟩
          · rintro ⟨⟨⟨u, u1, u2⟩, u3⟩, u4⟩
            by_cases c1 : u < x
            · exact Or.inl ⟨⟨⟨u, u1, u2⟩, u3⟩, by omega⟩
            · by_cases c2 : u = x
              · exact Or.inr ⟨by omega, u3⟩
              · exact absurd u1 (zcs2_gap (a := x + 1) (b := x') k2 (by omega) (by omega))
      · rcases key with ⟨k1, k2⟩ | ⟨k1, k2, k3⟩
        · refine zPT_A y2 (fun s s1 s2 => ?_)
          rw [hP s s1 s2]
          constructor
          · rintro (⟨⟨⟨u, u1, u2⟩, u3⟩, u4⟩ | ⟨u1, u2⟩)
            · exact ⟨⟨u, u1, u2⟩, u3⟩
            · exact ⟨⟨x, w3, u1⟩, u2⟩
          · rintro ⟨⟨u, u1, u2⟩, u3⟩
            have ug : u ≤ g := by rw [← u1]; exact Nat.and_le_right
            by_cases c1 : u < x
            · exact Or.inl ⟨⟨⟨u, u1, u2⟩, u3⟩, by omega⟩
            · exact Or.inr ⟨by omega, u3⟩
        · omega
    have take : zmq q ((k : Int) + x) = zmq q ((k : Int) + x) → (q = 1 → zand ((k : Int) + x) st = st) → zwp (zcall 21 [(2, 71), (2, 59), (0, (k : Int) + x), (0, zmq q ((k : Int) + x))] T1 W) fun r T' V' => r = (9, 0) ∧ T' = T1 ∧ (∀ r, r < 71 ∨ 76 < r → V' r = V r) ∧ zPT V' 71 K (fun s => ((zand s (zxor (g : Int) (-1)) = (k : Int) ∧ (q = 1 → zand s st = st)) ∧ s < (k : Int) + x) ∨ (s = (k : Int) + x ∧ (q = 1 → zand s st = st))) (zmq q) := fun _ hst => by
      refine zwp_mono (c21 (mk := zmq q) hS (st71 hS) (Or.inr rfl) hR1 hk w5 (by omega) (fun s z => z.2) ?_) ?_
      · rcases hq with rfl | rfl
        · show (0 : Int) ≤ 0 ∧ (0 : Int) < 16384
          decide
        · exact (zmk_r (by omega)).1
      · rintro r T' V' ⟨z1, z2, z3, z4⟩
        refine ⟨z1, z2, fun r hr => by rw [z3 r (by omega), w1 r hr], zPT_A z4 (fun s _ _ => ?_)⟩
        constructor
        · rintro (z | z)
          · exact Or.inl z
          · exact Or.inr ⟨z, by rw [z]; exact hst⟩
        · rintro (z | z)
          · exact Or.inl z
          · exact Or.inr z.1
    rw [b127_40, c128 hg']
    simp only [Option.bind_some, zpush0]
    rw [b127_48 (by rw [e2]; unfold z32; omega), e2, if_neg (by omega), b127_52, es]
    rcases hq with rfl | rfl
    · obtain ⟨r, T', W2, t1, t2, t3, t4, t5⟩ := take rfl (fun z => absurd z (by decide))
      subst t2
      rw [t3] at t1
      replace t1 : zcall 21 [(2, 71), (2, 59), (0, (k : Int) + x), (0, 0)] T1 W = some ((9, 0), T1, W2) := t1
      rw [if_pos rfl, b127_63 hS, t1]
      simp only [Option.bind_some, zpush9]
      rw [b127_77]
      exact tail W2 ((k : Int) + x) t4 t5
    · rw [if_neg (by decide), b127_80]
      by_cases cz : zand ((k : Int) + x) st = st
      · obtain ⟨r, T', W2, t1, t2, t3, t4, t5⟩ := take rfl (fun _ => cz)
        subst t2
        rw [t3] at t1
        have mr := (zmk_r (s := (k : Int) + x) (by omega)).2
        replace t1 : zcall 21 [(2, 71), (2, 59), (0, (k : Int) + x), (0, zor ((k : Int) + x) ((zand 127 (zxor ((k : Int) + x) (-1))) * 128))] T1 W = some ((9, 0), T1, W2) := t1
        rw [if_pos cz, b127_88 hS (by omega), t1]
        exact tail W2 ((k : Int) + x) t4 t5
      · rw [if_neg cz]
        refine tail W ((k : Int) + x) w1 (zPT_A w5 (fun s _ _ => ⟨fun z => Or.inl z, fun z => ?_⟩))
        rcases z with z | z
        · exact z
        · exact absurd (by have := z.2 rfl; rw [z.1] at this; exact this) cz
  · refine zPT_A (zPT_cl (A := fun _ => False) a3 a4 (fun s z => z)) (fun s s1 s2 => ⟨fun z => z.elim, fun z => ?_⟩)
    obtain ⟨⟨u, u1, u2⟩, -⟩ := (hP s s1 s2).1 z.1
    have := z.2
    omega
end LISTS
