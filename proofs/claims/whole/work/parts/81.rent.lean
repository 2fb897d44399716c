/-! yards that are let -/
def zmt (K : Int → Int) (a b : Int) : Prop := K (376 + 5 * a) ≤ K (376 + 5 * b + 1) ∧ K (376 + 5 * b) ≤ K (376 + 5 * a + 1) ∧ K (376 + 5 * a + 2) ≤ K (376 + 5 * b + 3) ∧ K (376 + 5 * b + 2) ≤ K (376 + 5 * a + 3)
theorem zmt_s {K : Int → Int} {a b : Int} : zmt K a b ↔ zmt K b a := by unfold zmt; omega
/-- the rents of the yards below j; whether two of them clash -/
def zrsm (K : Int → Int) (s : Int) : Nat → Int
  | 0 => 0
  | j + 1 => zrsm K s j + if s / 2 ^ j % 2 = 1 then K (376 + 5 * (j : Int) + 4) else 0
def zcla (K : Int → Int) (s : Int) (H : Int) : Prop := ∃ a b : Nat, ((a : Int) < H ∧ b < a) ∧ zbt s a ∧ zbt s b ∧ zmt K a b
noncomputable def zrnt (K : Int → Int) (H s : Int) : Int := zif (zcla K s H) (-1) (zrsm K s H.toNat)
def zyok (K : Int → Int) (H : Int) : Prop := (0 ≤ H ∧ H ≤ 10) ∧ ∀ y, 0 ≤ y → y < 10 → 0 ≤ K (376 + 5 * y + 4) ∧ K (376 + 5 * y + 4) ≤ 999
theorem zrsm_r {K : Int → Int} {H : Int} (h : zyok K H) (s : Int) (j : Nat) (hj : j ≤ 10) : 0 ≤ zrsm K s j ∧ zrsm K s j ≤ 999 * j := by
  induction j with
  | zero => simp [zrsm]
  | succ j ih =>
    have := ih (by omega)
    have := h.2 j (by omega) (by omega)
    rw [zrsm]
    split <;> omega
theorem zrnt_r {K : Int → Int} {H : Int} (h : zyok K H) (s : Int) : -1 ≤ zrnt K H s ∧ zrnt K H s ≤ 9990 := by
  unfold zrnt
  by_cases c : zcla K s H
  · rw [zif_t c]; omega
  · rw [zif_f c]
    have := zrsm_r h s H.toNat (by have := h.1; omega)
    have := h.1
    omega
section RENT
variable {n : Int} {T : zT} {V : zM}
/-- yards of the class at b are those of K -/
theorem c138 {b a c : Int} {K : Int → Int} (h : zYards T b) (hy : zYr V b K) (ha : 0 ≤ a ∧ a < 10) (hc : 0 ≤ c ∧ c < 10) : zcall 138 [(2, b), (0, a), (0, c)] T V = some ((0, zif (zmt K a c) 1 0), T, V) := by
  obtain ⟨a1, a2, a3, a4, a5⟩ := hy.2 a ha.1 ha.2
  obtain ⟨c1, c2, c3, c4, c5⟩ := hy.2 c hc.1 hc.2
  rw [e138, b138_0 h ha hc, a1, c2]
  have no : ∀ y, ¬ zmt K a c → ev 138 74 [(2, b), (0, a), (0, c), (0, y)] [] T V = some ((0, zif (zmt K a c) 1 0), T, V) := fun y q => by
    rw [b138_74, b138_75 (by decide), zif_f q]
  have no2 : ¬ zmt K a c → ev 138 34 [(2, b), (0, a), (0, c), (9, 0)] [] T V = some ((0, zif (zmt K a c) 1 0), T, V) := fun q => by
    rw [b138_34, b138_35, if_pos rfl]
    exact no 0 q
  by_cases q1 : K (376 + 5 * c + 1) < K (376 + 5 * a)
  · rw [if_pos q1]; exact no2 (fun m => by have := m.1; omega)
  · rw [if_neg q1, b138_15 h hc ha, a2, c1]
    by_cases q2 : K (376 + 5 * a + 1) < K (376 + 5 * c)
    · rw [if_pos q2]; exact no2 (fun m => by have := m.2.1; omega)
    · rw [if_neg q2, b138_30, b138_35, if_neg (by decide), b138_40 h ha hc, c4, a3]
      by_cases q3 : K (376 + 5 * c + 3) < K (376 + 5 * a + 2)
      · rw [if_pos q3]; exact no 1 (fun m => by have := m.2.2.1; omega)
      · rw [if_neg q3, b138_55 h hc ha, a4, c3]
        by_cases q4 : K (376 + 5 * a + 3) < K (376 + 5 * c + 2)
        · rw [if_pos q4]; exact no 1 (fun m => by have := m.2.2.2; omega)
        · rw [if_neg q4, b138_70, b138_75 (by decide), zif_t ⟨by omega, by omega, by omega, by omega⟩]
theorem zp2_s {j : Nat} (h : j < 10) : (0 : Int) ≤ 2 ^ j ∧ (2 : Int) ^ j < 2 ^ 10 := by
  have h1 := zp2 j
  have : (2 : Nat) ^ j < 2 ^ 10 := Nat.pow_lt_pow_right (by decide) h
  have e : ((2 ^ j : Nat) : Int) = 2 ^ j := by rw [Int.natCast_pow]; rfl
  have e' : ((2 ^ 10 : Nat) : Int) = 2 ^ 10 := by decide
  omega
theorem c137 {b y H : Int} {K : Int → Int} (h : zYards T b) (hy : zYr V b K) (hH : K 426 = H) (hH2 : H ≤ 10) (h1 : 0 ≤ y ∧ y < H) : ∃ x, zcall 137 [(2, b), (0, y)] T V = some ((0, x), T, V) ∧ (0 ≤ x ∧ x < 2 ^ 10) ∧ ∀ j : Nat, j < 10 → (zbt x j ↔ (j : Int) < H ∧ (j : Int) ≠ y ∧ zmt K y j) := by
  have e5 : V b 5 = H := by rw [hy.1, hH]
  have body : ∀ x : Int, (0 ≤ x ∧ x < 2 ^ 10) ∧ (∀ j : Nat, j < 10 → (zbt x j ↔ (j : Int) < 0 ∧ (j : Int) ≠ y ∧ zmt K y j)) → ∃ x', ev 137 4 [(2, b), (0, y), (0, x), (0, 0)] [] T V = some ((0, x'), T, V) ∧ (0 ≤ x' ∧ x' < 2 ^ 10) ∧ ∀ j : Nat, j < 10 → (zbt x' j ↔ (j : Int) < H ∧ (j : Int) ≠ y ∧ zmt K y j) := by
    refine zup (α := Int) (fun i x => (0 ≤ x ∧ x < 2 ^ 10) ∧ ∀ j : Nat, j < 10 → (zbt x j ↔ (j : Int) < i ∧ (j : Int) ≠ y ∧ zmt K y j)) (fun i x => ∃ x', ev 137 4 [(2, b), (0, y), (0, x), (0, i)] [] T V = some ((0, x'), T, V) ∧ (0 ≤ x' ∧ x' < 2 ^ 10) ∧ ∀ j : Nat, j < 10 → (zbt x' j ↔ (j : Int) < H ∧ (j : Int) ≠ y ∧ zmt K y j)) (lo := 0) (hi := H) (by omega) ?_ ?_
    · intro x hx
      exact ⟨x, by rw [b137_4 h, if_pos (by omega), b137_38], hx.1, hx.2⟩
    · intro i x i1 i2 hx next
      have skip : ¬ (i ≠ y ∧ zmt K y i) → ∃ x', ev 137 32 [(2, b), (0, y), (0, x), (0, i)] [] T V = some ((0, x'), T, V) ∧ (0 ≤ x' ∧ x' < 2 ^ 10) ∧ ∀ j : Nat, j < 10 → (zbt x' j ↔ (j : Int) < H ∧ (j : Int) ≠ y ∧ zmt K y j) := fun q => by
        rw [b137_32 (by omega)]
        refine next x ⟨hx.1, fun j hj => ?_⟩
        rw [hx.2 j hj]
        refine ⟨fun z => ⟨by omega, z.2⟩, fun z => ⟨?_, z.2⟩⟩
        have : (j : Int) ≠ i := fun e => q (e ▸ z.2)
        omega
      rw [b137_4 h, if_neg (by omega), b137_12]
      by_cases g1 : i = y
      · rw [if_pos g1]; exact skip (fun q => q.1 g1)
      · rw [if_neg g1, b137_17 h, c138 h hy (by omega) (by omega)]
        simp only [Option.bind_some, zpush0]
        rw [b137_23]
        by_cases g2 : zmt K y i
        · rw [zif_t g2, if_neg (by decide), b137_26 (by omega), b137_32 (by omega)]
          have p := zp2_s (j := i.toNat) (by omega)
          refine next _ ⟨zor_n (k := 10) (by decide) hx.1.1 hx.1.2 p.1 p.2, fun j hj => ?_⟩
          rw [zor_bt (by omega), hx.2 j hj, zbt_p2]
          constructor
          · rintro (z | z)
            · exact ⟨by omega, z.2⟩
            · have e : (j : Int) = i := by omega
              rw [e]; exact ⟨by omega, g1, g2⟩
          · rintro ⟨z1, z2⟩
            by_cases e : (j : Int) = i
            · right; omega
            · left; exact ⟨by omega, z2⟩
        · rw [zif_f g2, if_pos rfl]; exact skip (fun q => g2 q.2)
  rw [e137, b137_0]
  exact body 0 ⟨by decide, fun j hj => ⟨fun q => absurd q zbt_z, fun q => by omega⟩⟩
theorem zyok_J (h : zJ n T V) : zyok (V 132) (V 132 426) := ⟨h.ok.held, fun y y1 y2 => h.ok.yard y1 y2 (by decide) (by decide)⟩
theorem c136 {s : Int} (h : zJ n T V) (hs : 0 ≤ s ∧ s < 2 ^ 10) : zcall 136 [(2, 22), (0, s)] T V = some ((0, zrnt (V 132) (V 132 426) s), T, V) := by
  have hS := h.str
  have hk := zyok_J h
  have hy : zYr V 22 (V 132) := h.sr.yards
  obtain ⟨H, hH⟩ : ∃ H, V 132 426 = H := ⟨_, rfl⟩
  rw [hH] at hk ⊢
  have e5 : V 22 5 = H := by rw [hy.1, hH]
  rw [e136, b136_0]
  refine zup (α := Unit) (fun j _ => ∀ a c : Nat, (a : Int) < j → (c : Int) < H → c ≠ a → zbt s a → zbt s c → ¬ zmt (V 132) a c) (fun j _ => ev 136 4 [(2, 22), (0, s), (0, zrsm (V 132) s j.toNat), (0, j)] [] T V = some ((0, zrnt (V 132) H s), T, V)) (lo := 0) (hi := H) hk.1.1 ?_ ?_ () (fun a c q => by omega)
  · intro _ hq
    rw [b136_4 (st22 hS), if_pos (by omega), b136_47]
    unfold zrnt
    rw [zif_f]
    rintro ⟨a, c, ⟨q1, q2⟩, q3, q4, q5⟩
    exact hq a c q1 (by omega) (by omega) q3 q4 q5
  · intro j _ j1 j2 hq next
    have e : (j + 1).toNat = j.toNat + 1 := by omega
    have ej : ((j.toNat : Nat) : Int) = j := Int.toNat_of_nonneg j1
    have sr := zrsm_r hk s j.toNat (by have := hk.1; omega)
    have ry := hk.2 j j1 (by have := hk.1; omega)
    have yd := (hy.2 j j1 (by have := hk.1; omega)).2.2.2.2
    rw [b136_4 (st22 hS), if_neg (by omega), b136_12 (by have := hk.1; omega), zand_1]
    by_cases g : s / 2 ^ j.toNat % 2 = 0
    · rw [if_pos g, b136_41 (by have := hk.1; omega)]
      have nx := next () (fun a c q1 q2 q3 q4 q5 => by
        by_cases ea : (a : Int) = j
        · have : a = j.toNat := by omega
          subst this
          unfold zbt at q4
          omega
        · exact hq a c (by omega) q2 q3 q4 q5)
      rw [e, zrsm, if_neg (by omega), Int.add_zero] at nx
      exact nx
    · rw [if_neg g, b136_20 (st22 hS)]
      obtain ⟨x, x1, x2, x3⟩ := c137 (st22 hS) hy hH hk.1.2 ⟨j1, j2⟩
      rw [x1]
      simp only [Option.bind_some, zpush0]
      rw [b136_25]
      by_cases z : zand x s = 0
      · have zz := (zand_e0 (k := 10) (by decide) x2.1 x2.2).1 z
        rw [if_pos z, b136_32 (st22 hS) (by have := hk.1; omega) (by rw [yd]; have := hk.1; omega), b136_41 (by have := hk.1; omega), yd]
        have nx := next () (fun a c q1 q2 q3 q4 q5 q6 => by
          by_cases ea : (a : Int) = j
          · have hc10 : c < 10 := by have := hk.1; omega
            exact zz c hc10 ⟨(x3 c hc10).2 ⟨q2, by omega, by rw [← ea]; exact q6⟩, q5⟩
          · exact hq a c (by omega) q2 q3 q4 q5 q6)
        rw [e, zrsm, if_pos (by omega), ej] at nx
        exact nx
      · rw [if_neg z, b136_30]
        unfold zrnt
        rw [zif_t]
        have : ∃ k, k < 10 ∧ (zbt x k ∧ zbt s k) := Classical.byContradiction fun q => z ((zand_e0 (k := 10) (by decide) x2.1 x2.2).2 (fun k hk q2 => q ⟨k, hk, q2⟩))
        obtain ⟨k, k1, k2, k3⟩ := this
        obtain ⟨k4, k5, k6⟩ := (x3 k k1).1 k2
        have bj : zbt s j.toNat := by unfold zbt; omega
        by_cases lt : k < j.toNat
        · exact ⟨j.toNat, k, ⟨by omega, lt⟩, bj, k3, by rw [ej]; exact k6⟩
        · exact ⟨k, j.toNat, ⟨k4, by omega⟩, k3, bj, by rw [ej]; exact zmt_s.1 k6⟩
theorem c238 {y f : Int} (hS : zStr T) (hy : 0 ≤ y ∧ y < 10) (hf : 0 ≤ f ∧ f ≤ 4) : zcall 238 [(2, 130), (0, y), (0, f)] T V = some ((0, V 132 (376 + 5 * y + f)), T, V) := by
  rw [e238, b238_0 hS (by omega) (by omega) (by omega) (by omega)]
theorem c239 {a c : Int} (hS : zStr T) (ha : 0 ≤ a ∧ a < 10) (hc : 0 ≤ c ∧ c < 10) : zcall 239 [(2, 130), (0, a), (0, c)] T V = some ((0, zif (zmt (V 132) a c) 1 0), T, V) := by
  have no : ¬ zmt (V 132) a c → ev 239 64 [(2, 130), (0, a), (0, c)] [] T V = some ((0, zif (zmt (V 132) a c) 1 0), T, V) := fun q => by
    rw [b239_64, b239_65 (by decide), zif_f q]
  rw [e239, b239_0 hS, c238 hS ha (by decide)]
  simp only [Option.bind_some, zpush0, Int.add_zero]
  rw [b239_6 hS, c238 hS hc (by decide)]
  simp only [Option.bind_some, zpush0]
  rw [b239_12]
  by_cases q1 : V 132 (376 + 5 * c + 1) < V 132 (376 + 5 * a)
  · rw [if_pos q1]; exact no (fun m => by have := m.1; omega)
  · rw [if_neg q1, b239_15 hS, c238 hS hc (by decide)]
    simp only [Option.bind_some, zpush0, Int.add_zero]
    rw [b239_21 hS, c238 hS ha (by decide)]
    simp only [Option.bind_some, zpush0]
    rw [b239_27]
    by_cases q2 : V 132 (376 + 5 * a + 1) < V 132 (376 + 5 * c)
    · rw [if_pos q2]; exact no (fun m => by have := m.2.1; omega)
    · rw [if_neg q2, b239_30 hS, c238 hS ha (by decide)]
      simp only [Option.bind_some, zpush0]
      rw [b239_36 hS, c238 hS hc (by decide)]
      simp only [Option.bind_some, zpush0]
      rw [b239_42]
      by_cases q3 : V 132 (376 + 5 * c + 3) < V 132 (376 + 5 * a + 2)
      · rw [if_pos q3]; exact no (fun m => by have := m.2.2.1; omega)
      · rw [if_neg q3, b239_45 hS, c238 hS hc (by decide)]
        simp only [Option.bind_some, zpush0]
        rw [b239_51 hS, c238 hS ha (by decide)]
        simp only [Option.bind_some, zpush0]
        rw [b239_57]
        by_cases q4 : V 132 (376 + 5 * a + 3) < V 132 (376 + 5 * c + 2)
        · rw [if_pos q4]; exact no (fun m => by have := m.2.2.2; omega)
        · rw [if_neg q4, b239_60, b239_65 (by decide), zif_t ⟨by omega, by omega, by omega, by omega⟩]
theorem c237 {s : Int} (hS : zStr T) (hk : zyok (V 132) (V 132 426)) : zcall 237 [(2, 130), (0, s)] T V = some ((0, zrnt (V 132) (V 132 426) s), T, V) := by
  obtain ⟨H, hH⟩ : ∃ H, V 132 426 = H := ⟨_, rfl⟩
  rw [hH] at hk ⊢
  rw [e237, b237_0]
  refine zup (α := zV) (fun j _ => ∀ a c : Nat, (a : Int) < j → c < a → zbt s a → zbt s c → ¬ zmt (V 132) a c) (fun j v => ev 237 4 [(2, 130), (0, s), (0, zrsm (V 132) s j.toNat), (0, j), v] [] T V = some ((0, zrnt (V 132) H s), T, V)) (lo := 0) (hi := H) hk.1.1 ?_ ?_ (9, 0) (fun a c q => by omega)
  · intro v hq
    rw [b237_4 hS, if_pos (by omega), b237_79]
    unfold zrnt
    rw [zif_f]
    rintro ⟨a, c, ⟨q1, q2⟩, q3, q4, q5⟩
    exact hq a c q1 q2 q3 q4 q5
  · intro j v j1 j2 hq next
    have e : (j + 1).toNat = j.toNat + 1 := by omega
    have ej : ((j.toNat : Nat) : Int) = j := Int.toNat_of_nonneg j1
    have hH2 := hk.1
    have sr := zrsm_r hk s j.toNat (by omega)
    have ry := hk.2 j j1 (by omega)
    rw [b237_4 hS, if_neg (by omega), b237_16 (by omega), zand_1]
    by_cases g : s / 2 ^ j.toNat % 2 = 0
    · rw [if_pos g, b237_24, b237_73 (by omega)]
      have nx := next v (fun a c q1 q2 q4 q5 => by
        by_cases ea : (a : Int) = j
        · have : a = j.toNat := by omega
          subst this
          unfold zbt at q4
          omega
        · exact hq a c (by omega) q2 q4 q5)
      rw [e, zrsm, if_neg (by omega), Int.add_zero] at nx
      exact nx
    · have bj : zbt s j.toNat := by unfold zbt; omega
      rw [if_neg g, b237_27 hS, c238 hS (by omega) (by decide)]
      simp only [Option.bind_some, zpush0]
      rw [b237_34 (by omega)]
      refine zup (α := Unit) (fun k _ => ∀ c : Nat, (c : Int) < k → zbt s c → ¬ zmt (V 132) j c) (fun k _ => ev 237 39 [(2, 130), (0, s), (0, zrsm (V 132) s j.toNat + V 132 (376 + 5 * j + 4)), (0, j), (0, k)] [] T V = some ((0, zrnt (V 132) H s), T, V)) (lo := 0) (hi := j) j1 ?_ ?_ () (fun c q => by omega)
      · intro _ hk2
        rw [b237_39, if_pos (by omega), b237_73 (by omega)]
        have nx := next (0, j) (fun a c q1 q2 q4 q5 => by
          by_cases ea : (a : Int) = j
          · rw [ea]; exact hk2 c (by omega) q5
          · exact hq a c (by omega) q2 q4 q5)
        rw [e, zrsm, if_pos (by omega), ej] at nx
        exact nx
      · intro k _ k1 k2 hk2 next2
        have ek : ((k.toNat : Nat) : Int) = k := Int.toNat_of_nonneg k1
        rw [b237_39, if_neg (by omega), b237_45 (by omega), zand_1]
        have skip : ¬ (zbt s k.toNat ∧ zmt (V 132) j k) → ev 237 67 [(2, 130), (0, s), (0, zrsm (V 132) s j.toNat + V 132 (376 + 5 * j + 4)), (0, j), (0, k)] [] T V = some ((0, zrnt (V 132) H s), T, V) := fun q => by
          rw [b237_67 (by omega)]
          refine next2 () (fun c c1 c2 c3 => ?_)
          by_cases ec : (c : Int) = k
          · have : c = k.toNat := by omega
            subst this
            exact q ⟨c2, by rw [← ec]; exact c3⟩
          · exact hk2 c (by omega) c2 c3
        by_cases g2 : s / 2 ^ k.toNat % 2 = 1
        · rw [if_pos g2, b237_55 hS, c239 hS (by omega) (by omega)]
          simp only [Option.bind_some, zpush0]
          rw [b237_62]
          by_cases g3 : zmt (V 132) j k
          · rw [zif_t g3, if_neg (by decide), b237_65]
            unfold zrnt
            rw [zif_t ⟨j.toNat, k.toNat, ⟨by omega, by omega⟩, bj, g2, by rw [ej, ek]; exact g3⟩]
          · rw [zif_f g3, if_pos rfl]; exact skip (fun q => g3 q.2)
        · rw [if_neg g2]; exact skip (fun q => g2 q.1)
theorem zp2_le {H : Int} (h : 0 ≤ H ∧ H ≤ 10) : 1 ≤ (2 : Int) ^ H.toNat ∧ (2 : Int) ^ H.toNat ≤ 1024 := by
  have : H = 0 ∨ H = 1 ∨ H = 2 ∨ H = 3 ∨ H = 4 ∨ H = 5 ∨ H = 6 ∨ H = 7 ∨ H = 8 ∨ H = 9 ∨ H = 10 := by omega
  rcases this with e | e | e | e | e | e | e | e | e | e | e <;> subst e <;> decide
theorem k_letting {x1 : Int} (h : zJ n T V) (hn : n < 1000) (zx1 : z32 x1) : zSame 0 135 236 [(0, x1)] n T V := by
  have hS := h.str
  have hk := zyok_J h
  have hy : V 22 5 = V 132 426 := h.sr.yards.1
  have p := zp2_le hk.1
  have hk1 := hk.1
  unfold zSame
  by_cases g : 0 ≤ x1 ∧ x1 < 2 ^ (V 132 426).toNat
  · have c1 : zcall 135 [(2, 0), (0, x1)] T V = some ((0, zrnt (V 132) (V 132 426) x1), T, V) := by
      rw [e135, b135_0, if_neg (by omega), b135_4 hS (by omega), hy, if_pos g.2, b135_22 hS, c136 h ⟨g.1, by omega⟩]
      simp only [Option.bind_some, zpush0]
      rw [b135_33]
    have c2 : zcall 236 [(2, 130), (0, x1)] T V = some ((0, zrnt (V 132) (V 132 426) x1), T, V) := by
      rw [e236, b236_0 hS (by omega) (by omega), c150, if_pos (by omega)]
      simp only [Option.bind_some, zpush0]
      rw [b236_17, if_neg (by decide), b236_20 hS, c237 hS hk]
      simp only [Option.bind_some, zpush0]
      rw [b236_25, b236_29]
    rw [c1]
    refine zwp_ret ?_
    rw [c2]
    exact zwp_ret ⟨⟨_, rfl, rfl⟩, zJ_ok h hn⟩
  · have c1 : zcall 135 [(2, 0), (0, x1)] T V = some ((0, -1), T, V) := by
      rw [e135, b135_0]
      by_cases q : x1 < 0
      · rw [if_pos q, b135_20]
      · rw [if_neg q, b135_4 hS (by omega), hy, if_neg (by omega), b135_20]
    have c2 : zcall 236 [(2, 130), (0, x1)] T V = some ((0, -1), T, V) := by
      rw [e236, b236_0 hS (by omega) (by omega), c150, if_neg (by omega)]
      simp only [Option.bind_some, zpush0]
      rw [b236_17, if_pos rfl, b236_28, b236_29]
    rw [c1]
    refine zwp_ret ?_
    rw [c2]
    exact zwp_ret ⟨⟨_, rfl, rfl⟩, zJ_ok h hn⟩
/-- a yard more -/
theorem zrsm_lo {K : Int → Int} {s : Int} {i : Nat} : ∀ k : Nat, k ≤ i → zrsm K (2 ^ i + s) k = zrsm K s k := by
  intro k hk
  induction k with
  | zero => rfl
  | succ k ih =>
    rw [zrsm, zrsm, ih (by omega)]
    have := zbt_add (s := s) (i := i) (j := k) (by omega)
    unfold zbt at this
    simp only [this]
theorem zrsm_hi {K : Int → Int} {s : Int} {i : Nat} (h0 : 0 ≤ s) (h : s < 2 ^ i) : ∀ k : Nat, zrsm K s (i + k) = zrsm K s i := by
  intro k
  induction k with
  | zero => rfl
  | succ k ih =>
    rw [show i + (k + 1) = (i + k) + 1 from rfl, zrsm, ih]
    have := zbt_big (x := s) (j := i + k) h0 h (by omega)
    unfold zbt at this
    rw [if_neg this, Int.add_zero]
theorem zrnt_bit {K : Int → Int} {H s : Int} {i : Nat} (hk : zyok K H) (hi : (i : Int) < H) (h0 : 0 ≤ s) (h : s < 2 ^ i) : zrnt K H (2 ^ i + s) = zif (zrnt K H s ≠ -1 ∧ ∀ j : Nat, j < i → ¬ (zbt s j ∧ zmt K i j)) (zrnt K H s + K (376 + 5 * (i : Int) + 4)) (-1) := by
  have h2 : 2 ^ i + s < 2 ^ (i + 1) := by rw [Int.pow_succ]; omega
  have h1 := zp2 i
  have top := zbt_top h0 h
  have e1 := zrsm_hi (K := K) (s := 2 ^ i + s) (i := i + 1) (by omega) h2 (H.toNat - (i + 1))
  have e2 := zrsm_hi (K := K) (s := s) (i := i) h0 h (H.toNat - i)
  rw [show i + 1 + (H.toNat - (i + 1)) = H.toNat by omega] at e1
  rw [show i + (H.toNat - i) = H.toNat by omega] at e2
  have bits : ∀ a : Nat, zbt (2 ^ i + s) a ↔ (a = i ∨ (a < i ∧ zbt s a)) := fun a => by
    rcases Nat.lt_trichotomy a i with q | q | q
    · rw [zbt_add q]
      exact ⟨fun z => Or.inr ⟨q, z⟩, fun z => z.elim (fun e => by omega) (fun e => e.2)⟩
    · subst q; exact ⟨fun _ => Or.inl rfl, fun _ => top⟩
    · exact ⟨fun z => absurd z (zbt_big (by omega) h2 (by omega)), fun z => by omega⟩
  have cl : zcla K (2 ^ i + s) H ↔ (zcla K s H ∨ ∃ j : Nat, j < i ∧ zbt s j ∧ zmt K i j) := by
    constructor
    · rintro ⟨a, c, ⟨q1, q2⟩, q3, q4, q5⟩
      rcases (bits a).1 q3 with e | ⟨e, e'⟩
      · subst e
        rcases (bits c).1 q4 with d | ⟨d, d'⟩
        · omega
        · exact Or.inr ⟨c, d, d', q5⟩
      · rcases (bits c).1 q4 with d | ⟨d, d'⟩
        · omega
        · exact Or.inl ⟨a, c, ⟨q1, q2⟩, e', d', q5⟩
    · rintro (⟨a, c, ⟨q1, q2⟩, q3, q4, q5⟩ | ⟨j, q1, q2, q3⟩)
      · have la : a < i := Classical.byContradiction fun q => zbt_big h0 h (by omega) q3
        exact ⟨a, c, ⟨q1, q2⟩, (bits a).2 (Or.inr ⟨la, q3⟩), (bits c).2 (Or.inr ⟨by omega, q4⟩), q5⟩
      · exact ⟨i, j, ⟨hi, q1⟩, (bits i).2 (Or.inl rfl), (bits j).2 (Or.inr ⟨q1, q2⟩), q3⟩
  unfold zrnt
  by_cases c1 : zcla K s H
  · rw [zif_t (cl.2 (Or.inl c1)), zif_t c1, zif_f (fun q => q.1 rfl)]
  · by_cases c2 : ∃ j : Nat, j < i ∧ zbt s j ∧ zmt K i j
    · rw [zif_t (cl.2 (Or.inr c2)), zif_f (fun q => by obtain ⟨j, j1, j2⟩ := c2; exact q.2 j j1 j2)]
    · rw [zif_f (fun q => (cl.1 q).elim c1 c2), zif_f c1, e1, e2, zrsm, zrsm_lo i (Nat.le_refl i)]
      unfold zbt at top
      rw [if_pos top]
      have c3 : zrsm K s i ≠ -1 := by have := zrsm_r hk s i (by have := hk.1; omega); omega
      rw [zif_t ⟨c3, fun j hj q => c2 ⟨j, hj, q⟩⟩]
end RENT
