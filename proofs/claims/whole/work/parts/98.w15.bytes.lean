/-! bytes and tokens -/
def zkb (c : Int) : Int := if 97 ≤ c ∧ c ≤ 122 then 1 else if 48 ≤ c ∧ c ≤ 57 then 2 else 3
def zskn (b : Int → Int) (m : Int) : Nat → Int → Int
  | 0, i => i
  | n + 1, i => if i < m ∧ b i = 32 then zskn b m n (i + 1) else i
def zsk (b : Int → Int) (m i : Int) : Int := zskn b m (m - i).toNat i
def zebn (b : Int → Int) (m k : Int) : Nat → Int → Int
  | 0, i => i
  | n + 1, i => if i < m ∧ zkb (b i) = k then zebn b m k n (i + 1) else i
def zeb (b : Int → Int) (m k i : Int) : Int := zebn b m k (m - i).toNat i
def zF (b : Int → Int) (m s : Int) : Int := if s < m then (if zkb (b s) = 3 then s + 1 else zeb b m (zkb (b s)) (s + 1)) else s
def zS (b : Int → Int) (m : Int) : Nat → Int
  | 0 => zsk b m 0
  | t + 1 => zsk b m (zF b m (zS b m t))
def zKd (b : Int → Int) (m s : Int) : Int := if s < m then zkb (b s) else 0
section BYTES
variable {b : Int → Int} {m : Int}
theorem zkb_r (c : Int) : zkb c = 1 ∨ zkb c = 2 ∨ zkb c = 3 := by
  unfold zkb
  by_cases h1 : 97 ≤ c ∧ c ≤ 122
  · rw [if_pos h1]; exact Or.inl rfl
  · rw [if_neg h1]
    by_cases h2 : 48 ≤ c ∧ c ≤ 57
    · rw [if_pos h2]; exact Or.inr (Or.inl rfl)
    · rw [if_neg h2]; exact Or.inr (Or.inr rfl)
theorem zkb_1 {c : Int} : zkb c = 1 ↔ 97 ≤ c ∧ c ≤ 122 := by
  unfold zkb
  by_cases h1 : 97 ≤ c ∧ c ≤ 122
  · rw [if_pos h1]; exact ⟨fun _ => h1, fun _ => rfl⟩
  · rw [if_neg h1]
    by_cases h2 : 48 ≤ c ∧ c ≤ 57
    · rw [if_pos h2]; exact ⟨fun z => absurd z (by decide), fun z => absurd z h1⟩
    · rw [if_neg h2]; exact ⟨fun z => absurd z (by decide), fun z => absurd z h1⟩
theorem zkb_2 {c : Int} : zkb c = 2 ↔ 48 ≤ c ∧ c ≤ 57 := by
  unfold zkb
  by_cases h1 : 97 ≤ c ∧ c ≤ 122
  · rw [if_pos h1]; exact ⟨fun z => absurd z (by decide), fun z => by omega⟩
  · rw [if_neg h1]
    by_cases h2 : 48 ≤ c ∧ c ≤ 57
    · rw [if_pos h2]; exact ⟨fun _ => h2, fun _ => rfl⟩
    · rw [if_neg h2]; exact ⟨fun z => absurd z (by decide), fun z => absurd z h2⟩
theorem zsk_b {i : Int} (h : i < m) (hb : b i = 32) : zsk b m i = zsk b m (i + 1) := by
  unfold zsk
  rw [show (m - i).toNat = (m - (i + 1)).toNat + 1 by omega, zskn, if_pos ⟨h, hb⟩]
theorem zsk_n {i : Int} (h : ¬ (i < m ∧ b i = 32)) : zsk b m i = i := by
  unfold zsk
  cases (m - i).toNat with
  | zero => rfl
  | succ n => rw [zskn, if_neg h]
theorem zskn_r : ∀ (n : Nat) (i : Int), i + n = m → (i ≤ zskn b m n i ∧ zskn b m n i ≤ m) ∧ (∀ x, i ≤ x → x < zskn b m n i → b x = 32) ∧ (zskn b m n i < m → b (zskn b m n i) ≠ 32)
  | 0, i, h => by
    rw [zskn]
    exact ⟨by omega, fun x h1 h2 => by omega, fun z => by omega⟩
  | n + 1, i, h => by
    rw [zskn]
    by_cases c : i < m ∧ b i = 32
    · rw [if_pos c]
      obtain ⟨g1, g2, g3⟩ := zskn_r n (i + 1) (by omega)
      refine ⟨by omega, fun x h1 h2 => ?_, g3⟩
      by_cases cx : x = i
      · rw [cx]; exact c.2
      · exact g2 x (by omega) h2
    · rw [if_neg c]
      exact ⟨by omega, fun x h1 h2 => by omega, fun z y => c ⟨z, y⟩⟩
theorem zsk_r {i : Int} (h : i ≤ m) : (i ≤ zsk b m i ∧ zsk b m i ≤ m) ∧ (∀ x, i ≤ x → x < zsk b m i → b x = 32) ∧ (zsk b m i < m → b (zsk b m i) ≠ 32) := zskn_r _ i (by omega)
theorem zebn_r {k : Int} : ∀ (n : Nat) (i : Int), i + n = m → (i ≤ zebn b m k n i ∧ zebn b m k n i ≤ m) ∧ (∀ x, i ≤ x → x < zebn b m k n i → zkb (b x) = k) ∧ (zebn b m k n i < m → zkb (b (zebn b m k n i)) ≠ k)
  | 0, i, h => by
    rw [zebn]
    exact ⟨by omega, fun x h1 h2 => by omega, fun z => by omega⟩
  | n + 1, i, h => by
    rw [zebn]
    by_cases c : i < m ∧ zkb (b i) = k
    · rw [if_pos c]
      obtain ⟨g1, g2, g3⟩ := zebn_r n (i + 1) (by omega)
      refine ⟨by omega, fun x h1 h2 => ?_, g3⟩
      by_cases cx : x = i
      · rw [cx]; exact c.2
      · exact g2 x (by omega) h2
    · rw [if_neg c]
      exact ⟨by omega, fun x h1 h2 => by omega, fun z y => c ⟨z, y⟩⟩
theorem zeb_r {k i : Int} (h : i ≤ m) : (i ≤ zeb b m k i ∧ zeb b m k i ≤ m) ∧ (∀ x, i ≤ x → x < zeb b m k i → zkb (b x) = k) ∧ (zeb b m k i < m → zkb (b (zeb b m k i)) ≠ k) := zebn_r _ i (by omega)
/-- a token from s on -/
theorem zF_r {s : Int} (h : s ≤ m) : (s ≤ zF b m s ∧ zF b m s ≤ m) ∧ (s < m → s < zF b m s) ∧ (s < m → ∀ x, s ≤ x → x < zF b m s → zkb (b x) = zkb (b s)) ∧ (s < m → zkb (b s) ≠ 3 → zF b m s < m → zkb (b (zF b m s)) ≠ zkb (b s)) := by
  unfold zF
  by_cases c : s < m
  · rw [if_pos c]
    by_cases c3 : zkb (b s) = 3
    · rw [if_pos c3]
      exact ⟨by omega, fun _ => by omega, fun _ x h1 h2 => by rw [show x = s by omega], fun _ z => absurd c3 z⟩
    · rw [if_neg c3]
      obtain ⟨g1, g2, g3⟩ := zeb_r (b := b) (m := m) (k := zkb (b s)) (i := s + 1) (by omega)
      refine ⟨by omega, fun _ => by omega, fun _ x h1 h2 => ?_, fun _ _ => g3⟩
      by_cases cx : x = s
      · rw [cx]
      · exact g2 x (by omega) h2
  · rw [if_neg c]
    exact ⟨by omega, fun z => absurd z c, fun z => absurd z c, fun z => absurd z c⟩
theorem zS_r (h : 0 ≤ m) : ∀ t, 0 ≤ zS b m t ∧ zS b m t ≤ m
  | 0 => by
    rw [zS]
    have := (zsk_r (b := b) h).1
    exact this
  | t + 1 => by
    have i := zS_r h t
    have f := (zF_r (b := b) i.2).1
    rw [zS]
    have := (zsk_r (b := b) f.2).1
    omega
theorem zKd_0 {s : Int} (h : s ≤ m) : zKd b m s = 0 ↔ s = m := by
  unfold zKd
  by_cases c : s < m
  · rw [if_pos c]
    have := zkb_r (b s)
    exact ⟨fun z => by omega, fun z => by omega⟩
  · rw [if_neg c]; exact ⟨fun _ => by omega, fun _ => rfl⟩
end BYTES
def zBy (b : Int → Int) (m : Int) : Prop := (0 ≤ m ∧ m ≤ 400) ∧ ∀ j, 0 ≤ j → j < m → 0 ≤ b j ∧ b j ≤ 255
/-- the reader of the class at token t -/
def zRt (V : zM) (b : Int → Int) (m : Int) (t : Nat) : Prop := V 57 = b ∧ V 56 1 = m ∧ V 58 2 = zS b m t ∧ V 58 3 = zF b m (zS b m t) ∧ V 58 4 = zKd b m (zS b m t)
section READER
variable {T : zT} {V : zM} {b : Int → Int} {m : Int} {t : Nat}
theorem c44 {c : Int} : zcall 44 [(0, c)] T V = some ((0, zkb c), T, V) := by
  unfold zkb
  rw [e44, b44_0]
  by_cases h1 : c < 97
  · rw [if_pos h1, if_neg (by omega), b44_14]
    by_cases h2 : c < 48
    · rw [if_pos h2, if_neg (by omega), b44_30, b44_31]
    · rw [if_neg h2, b44_20]
      by_cases h3 : 57 < c
      · rw [if_pos h3, if_neg (by omega), b44_30, b44_31]
      · rw [if_neg h3, if_pos (by omega), b44_26, b44_31]
  · rw [if_neg h1, b44_6]
    by_cases h2 : 122 < c
    · rw [if_pos h2, if_neg (by omega), if_neg (by omega), b44_14, if_neg (by omega), b44_20, if_pos (by omega), b44_30, b44_31]
    · rw [if_neg h2, if_pos (by omega), b44_12]
theorem c43i {i : Int} (hS : zStr T) (hB : zBy b m) (hb : V 57 = b) (hm : V 56 1 = m) (hi : V 58 3 = i ∧ 0 ≤ i ∧ i ≤ m) : zwp (zcall 43 [(2, 58)] T V) fun r T' V' => r = (9, 0) ∧ T' = T ∧ (∀ r, r ≠ 58 → V' r = V r) ∧ V' 58 5 = V 58 5 ∧ V' 58 2 = zsk b m i ∧ V' 58 3 = zF b m (zsk b m i) ∧ V' 58 4 = zKd b m (zsk b m i) := by
  obtain ⟨g1, g2, g3⟩ := zsk_r (b := b) hi.2.2
  obtain ⟨⟨m1, m2⟩, hby⟩ := hB
  obtain ⟨s, hs⟩ : ∃ s, zsk b m i = s := ⟨_, rfl⟩
  rw [hs] at g1 g2 g3 ⊢
  rw [e43, b43_0 hS, hi.1]
  refine zup (α := zM) (fun x W => (∀ r, r ≠ 58 → W r = V r) ∧ W 58 5 = V 58 5 ∧ W 58 2 = x) (fun x W => zwp (ev 43 8 [(2, 58)] [] T W) fun r T' V' => r = (9, 0) ∧ T' = T ∧ (∀ r, r ≠ 58 → V' r = V r) ∧ V' 58 5 = V 58 5 ∧ V' 58 2 = s ∧ V' 58 3 = zF b m s ∧ V' 58 4 = zKd b m s) (lo := i) (hi := s) g1.1 ?_ ?_ _ ⟨fun r hr => zwr_ne hr, by rw [zwr_same, if_neg (by decide)], by rw [zwr_same, if_pos rfl]⟩
  · rintro W ⟨w1, w2, w3⟩
    have e56 : W 56 1 = m := by rw [w1 56 (by decide), hm]
    have e57 : W 57 = b := by rw [w1 57 (by decide), hb]
    -- the end of the token
    have fin : zwp (ev 43 52 [(2, 58)] [] T W) fun r T' V' => r = (9, 0) ∧ T' = T ∧ (∀ r, r ≠ 58 → V' r = V r) ∧ V' 58 5 = V 58 5 ∧ V' 58 2 = s ∧ V' 58 3 = zF b m s ∧ V' 58 4 = zKd b m s := by
      have y2 : zwr W 58 3 (W 58 2) 58 2 = s := by rw [zwr_same, if_neg (by decide), w3]
      have y1 : zwr W 58 3 (W 58 2) 56 1 = m := by rw [zwr_ne (by decide), e56]
      have y3 : zwr W 58 3 (W 58 2) 58 3 = s := by rw [zwr_same, if_pos rfl, w3]
      have y5 : zwr W 58 3 (W 58 2) 58 5 = V 58 5 := by rw [zwr_same, if_neg (by decide), w2]
      have y7 : zwr W 58 3 (W 58 2) 57 = b := by rw [zwr_ne (by decide), e57]
      have yr : ∀ r, r ≠ 58 → zwr W 58 3 (W 58 2) r = V r := fun r hr => by rw [zwr_ne hr, w1 r hr]
      obtain ⟨W1, hW1⟩ : ∃ W1, zwr W 58 3 (W 58 2) = W1 := ⟨_, rfl⟩
      rw [hW1] at y1 y2 y3 y5 y7 yr
      rw [b43_52 hS, hW1, y1, y2]
      by_cases c : s < m
      · rw [if_pos c, b43_80 hS (by rw [y2]; omega), y7, y2, c44]
        simp only [Option.bind_some, zpush0]
        have z3 : zwr W1 58 4 (zkb (b s)) 58 3 = s := by rw [zwr_same, if_neg (by decide), y3]
        rw [b43_96 hS (by rw [z3]; omega), z3]
        have kd : zKd b m s = zkb (b s) := if_pos c
        have run : ∀ hi, s + 1 ≤ hi → hi ≤ m → (∀ x, s + 1 ≤ x → x < hi → zkb (b s) ≠ 3 ∧ zkb (b x) = zkb (b s)) → (zkb (b s) = 3 ∨ hi = m ∨ zkb (b hi) ≠ zkb (b s)) → zwp (ev 43 109 [(2, 58)] [] T (zwr (zwr W1 58 4 (zkb (b s))) 58 3 (s + 1))) fun r T' V' => r = (9, 0) ∧ T' = T ∧ (∀ r, r ≠ 58 → V' r = V r) ∧ V' 58 5 = V 58 5 ∧ V' 58 2 = s ∧ V' 58 3 = hi ∧ V' 58 4 = zKd b m s := fun hi h1 h2 h3 h4 => by
          refine zup (α := zM) (fun x W => (∀ r, r ≠ 58 → W r = V r) ∧ W 58 5 = V 58 5 ∧ W 58 2 = s ∧ W 58 3 = x ∧ W 58 4 = zkb (b s)) (fun x W => zwp (ev 43 109 [(2, 58)] [] T W) fun r T' V' => r = (9, 0) ∧ T' = T ∧ (∀ r, r ≠ 58 → V' r = V r) ∧ V' 58 5 = V 58 5 ∧ V' 58 2 = s ∧ V' 58 3 = hi ∧ V' 58 4 = zKd b m s) (lo := s + 1) (hi := hi) h1 ?_ ?_ _ ⟨fun r hr => by rw [zwr_ne hr, zwr_ne hr, yr r hr], by rw [zwr_same, if_neg (by decide), zwr_same, if_neg (by decide), y5], by rw [zwr_same, if_neg (by decide), zwr_same, if_neg (by decide), y2], by rw [zwr_same, if_pos rfl], by rw [zwr_same, if_neg (by decide), zwr_same, if_pos rfl]⟩
          · rintro U ⟨u1, u2, u3, u4, u5⟩
            have out : zwp (ev 43 166 [(2, 58)] [] T U) fun r T' V' => r = (9, 0) ∧ T' = T ∧ (∀ r, r ≠ 58 → V' r = V r) ∧ V' 58 5 = V 58 5 ∧ V' 58 2 = s ∧ V' 58 3 = hi ∧ V' 58 4 = zKd b m s := by
              rw [b43_166]
              exact zwp_ret ⟨rfl, rfl, u1, u2, u3, u4, by rw [kd]; exact u5⟩
            rw [b43_109 hS, u5]
            by_cases c3 : zkb (b s) = 3
            · rw [if_pos c3]; exact out
            · rw [if_neg c3, b43_117 hS, u1 56 (by decide), hm, u4]
              by_cases cm : m ≤ hi
              · rw [if_pos cm]; exact out
              · rw [if_neg cm, b43_131 hS (by rw [u4]; omega), u1 57 (by decide), hb, u4, c44]
                simp only [Option.bind_some, zpush0]
                rw [b43_146 hS, u5, if_neg (by rcases h4 with h4 | h4 | h4; exact absurd h4 c3; omega; exact h4)]
                exact out
          · rintro x U x1 x2 ⟨u1, u2, u3, u4, u5⟩ next
            obtain ⟨q1, q2⟩ := h3 x x1 x2
            rw [b43_109 hS, u5, if_neg q1, b43_117 hS, u1 56 (by decide), hm, u4, if_neg (by omega), b43_131 hS (by rw [u4]; omega), u1 57 (by decide), hb, u4, c44]
            simp only [Option.bind_some, zpush0]
            rw [b43_146 hS, u5, if_pos q2, b43_153 hS (by rw [u4]; omega), u4]
            exact next _ ⟨fun r hr => by rw [zwr_ne hr, u1 r hr], by rw [zwr_same, if_neg (by decide), u2], by rw [zwr_same, if_neg (by decide), u3], by rw [zwr_same, if_pos rfl], by rw [zwr_same, if_neg (by decide), u5]⟩
        have zf : zF b m s = if zkb (b s) = 3 then s + 1 else zeb b m (zkb (b s)) (s + 1) := if_pos c
        rw [zf]
        by_cases c3 : zkb (b s) = 3
        · rw [if_pos c3]
          exact run (s + 1) (by omega) (by omega) (fun x x1 x2 => by omega) (Or.inl c3)
        · rw [if_neg c3]
          obtain ⟨q1, q2, q3⟩ := zeb_r (b := b) (m := m) (k := zkb (b s)) (i := s + 1) (by omega)
          refine run _ q1.1 q1.2 (fun x x1 x2 => ⟨c3, q2 x x1 x2⟩) ?_
          by_cases cm : zeb b m (zkb (b s)) (s + 1) < m
          · exact Or.inr (Or.inr (q3 cm))
          · exact Or.inr (Or.inl (by omega))
      · rw [if_neg c, b43_74 hS]
        have f0 : zF b m s = s := if_neg c
        have k0 : zKd b m s = 0 := if_neg c
        rw [f0, k0]
        exact zwp_ret ⟨rfl, rfl, fun r hr => by rw [zwr_ne hr, yr r hr], by rw [zwr_same, if_neg (by decide), y5], by rw [zwr_same, if_neg (by decide), y2], by rw [zwr_same, if_neg (by decide), y3], by rw [zwr_same, if_pos rfl]⟩
    rw [b43_8 hS, e56, w3]
    by_cases c : m ≤ s
    · rw [if_pos c]; exact fin
    · rw [if_neg c, b43_22 hS (by rw [w3]; omega), e57, w3, if_neg (g3 (by omega))]
      exact fin
  · rintro x W x1 x2 ⟨w1, w2, w3⟩ next
    rw [b43_8 hS, w1 56 (by decide), hm, w3, if_neg (by omega), b43_22 hS (by rw [w3]; omega), w1 57 (by decide), hb, w3, if_pos (g2 x x1 x2), b43_39 hS (by rw [w3]; omega), w3]
    exact next _ ⟨fun r hr => by rw [zwr_ne hr, w1 r hr], by rw [zwr_same, if_neg (by decide), w2], by rw [zwr_same, if_pos rfl]⟩
theorem c43 (hS : zStr T) (hB : zBy b m) (h : zRt V b m t) : zwp (zcall 43 [(2, 58)] T V) fun r T' V' => r = (9, 0) ∧ T' = T ∧ (∀ r, r ≠ 58 → V' r = V r) ∧ V' 58 5 = V 58 5 ∧ zRt V' b m (t + 1) := by
  obtain ⟨h1, h2, h3, h4, h5⟩ := h
  have sr := zS_r (b := b) hB.1.1 t
  have fr := (zF_r (b := b) sr.2).1
  refine zwp_mono (c43i hS hB h1 h2 ⟨h4, by omega, fr.2⟩) ?_
  rintro r T' V' ⟨a1, a2, a3, a4, a5, a6, a7⟩
  exact ⟨a1, a2, a3, a4, by rw [a3 57 (by decide), h1], by rw [a3 56 (by decide), h2], a5, a6, a7⟩
theorem zRt_w {x i v : Int} (hx : x ≠ 56 ∧ x ≠ 57 ∧ x ≠ 58) (h : zRt V b m t) : zRt (zwr V x i v) b m t := by
  unfold zRt
  rw [zwr_ne (by omega), zwr_ne (by omega), zwr_ne (by omega)]
  exact h
theorem c60 {p : Int} (hS : zStr T) : zcall 60 [(2, 58), (0, p)] T V = some ((0, 0), T, zwr V 58 5 p) := by rw [e60, b60_0 hS]
end READER
