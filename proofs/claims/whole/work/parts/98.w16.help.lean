/-! the reader of the class: names, letters, strokes, numbers -/
def zNm (b : Int → Int) (s e x : Int) : Prop := e - s = ((z_str x).length : Int) ∧ ∀ i : Nat, i < (z_str x).length → b (s + i) = (z_str x).getD i 0
def zNa (b : Int → Int) (m : Int) (t : Nat) (x : Int) : Prop := zNm b (zS b m t) (zF b m (zS b m t)) x
def zsb (b : Int → Int) (s : Int) : Nat → Int
  | 0 => 0
  | n + 1 => zor (zsb b s n) (2 ^ (b (s + n) - 49).toNat)
def zsv (b : Int → Int) (s e but : Int) : Prop := ∀ i : Nat, (i : Int) < e - s → (1 ≤ b (s + i) - 48 ∧ b (s + i) - 48 ≤ 7) ∧ ¬ zbt (zor (zsb b s i) but) (b (s + i) - 49).toNat
/-- a row of strokes at token t, none of those in but; its bits; a number -/
def zStw (b : Int → Int) (m : Int) (t : Nat) (but : Int) : Prop := zKd b m (zS b m t) = 2 ∧ zsv b (zS b m t) (zF b m (zS b m t)) but
def zSx (b : Int → Int) (m : Int) (t : Nat) : Int := zsb b (zS b m t) (zF b m (zS b m t) - zS b m t).toNat
def znv (b : Int → Int) (s : Int) : Nat → Int
  | 0 => 0
  | n + 1 => znv b s n * 10 + (b (s + n) - 48)
def zNx (b : Int → Int) (m : Int) (t : Nat) : Int := znv b (zS b m t) (zF b m (zS b m t) - zS b m t).toNat
/-- a letter alone -/
def zOl (b : Int → Int) (m : Int) (t : Nat) : Prop := zKd b m (zS b m t) = 1 ∧ zF b m (zS b m t) - zS b m t = 1
theorem z_str_l : ∀ x : Nat, x < 7 → 3 ≤ (z_str (x : Int)).length ∧ (z_str (x : Int)).length ≤ 6 ∧ ∀ i : Nat, i < (z_str (x : Int)).length → 97 ≤ (z_str (x : Int)).getD i 0 ∧ (z_str (x : Int)).getD i 0 ≤ 122 := by decide +kernel
theorem z_str_r {x : Int} (hx : 0 ≤ x ∧ x < 7) : 3 ≤ (z_str x).length ∧ (z_str x).length ≤ 6 ∧ ∀ i : Nat, i < (z_str x).length → 97 ≤ (z_str x).getD i 0 ∧ (z_str x).getD i 0 ≤ 122 := by
  obtain ⟨k, rfl⟩ := Int.eq_ofNat_of_zero_le hx.1
  exact z_str_l k (by omega)
section HELP
variable {T : zT} {V : zM} {b : Int → Int} {m : Int} {t : Nat}
theorem zKd_p {s : Int} (h : s < zF b m s) : s < m ∧ zKd b m s = zkb (b s) := by
  by_cases c : s < m
  · exact ⟨c, if_pos c⟩
  · have : zF b m s = s := if_neg c
    omega
theorem zNa_k {x : Int} (hx : 0 ≤ x ∧ x < 7) (h : zNa b m t x) : zKd b m (zS b m t) = 1 := by
  obtain ⟨l1, l2, l3⟩ := z_str_r hx
  obtain ⟨a1, a2⟩ := h
  obtain ⟨c1, c2⟩ := zKd_p (b := b) (m := m) (s := zS b m t) (by omega)
  have := a2 0 (by omega)
  rw [Int.natCast_zero, Int.add_zero] at this
  rw [c2, zkb_1, this]
  exact l3 0 (by omega)
theorem c47 {x : Int} (hx : 0 ≤ x ∧ x < 7) : zcall 47 [(3, x)] T V = some ((0, ((z_str x).length : Int)), T, V) := by
  have c48 : zcall 48 [(3, x)] T V = some ((0, 0), T, V) := by rw [e48, b48_0, if_neg (by decide), b48_6 hx, b48_14 (by decide)]
  rw [e47, b47_0 hx, c48]
  simp only [Option.bind_some, zpush0]
  rw [b47_9 (by decide)]
  have : ((z_str x).length : Int) / 2 ^ (0 : Int).toNat = ((z_str x).length : Int) := by
    rw [show (0 : Int).toNat = 0 by decide, Int.pow_zero, Int.ediv_one]
  rw [this]
theorem c49 {x i : Int} (hx : 0 ≤ x ∧ x < 7) (hi : 0 ≤ i ∧ i < ((z_str x).length : Int)) : zcall 49 [(3, x), (0, i)] T V = some ((0, (z_str x).getD i.toNat 0), T, V) := by
  have c50 : zcall 50 [(3, x)] T V = some ((0, 1), T, V) := by rw [e50, b50_0, if_neg (by decide), b50_6 hx, if_pos rfl, b50_13, b50_18 (by decide)]
  have c53 : zcall 53 [(0, i), (0, ((z_str x).length : Int)), (6, 0)] T V = some ((0, i), T, V) := by rw [e53, b53_0, if_neg (by omega), b53_4, if_pos hi.2, b53_16]
  have c52 : zcall 52 [(0, i), (0, ((z_str x).length : Int))] T V = some ((9, 0), T, V) := by
    rw [e52, b52_0, c53]
    simp only [Option.bind_some, zpush0]
    rw [b52_8]
  have r := (z_str_r hx).2.2 i.toNat (by omega)
  have za : zand ((z_str x).getD i.toNat 0) 255 = (z_str x).getD i.toNat 0 := by
    obtain ⟨k, hk⟩ := Int.eq_ofNat_of_zero_le (show 0 ≤ (z_str x).getD i.toNat 0 by omega)
    rw [hk, show (255 : Int) = ((255 : Nat) : Int) by rfl, zand_nat (by omega) (by omega), show (255 : Nat) = 2 ^ 8 - 1 by decide, Nat.and_two_pow_sub_one_eq_mod]
    omega
  rw [e49, b49_0 hx, c50]
  simp only [Option.bind_some, zpush0]
  rw [b49_4, if_neg (by decide), b49_7 hx, e51, b51_0 hx, c52]
  simp only [Option.bind_some, zpush9]
  rw [b51_6 hx hi (by rw [za]; omega), za]
  simp only [Option.bind_some, zpush0]
  rw [b49_15 (by omega)]
theorem c46 {x : Int} (hS : zStr T) (hB : zBy b m) (h : zRt V b m t) (hx : 0 ≤ x ∧ x < 7) : ∃ y, zcall 46 [(2, 58), (3, x)] T V = some ((0, y), T, V) ∧ ((y = 1 ∧ zNa b m t x) ∨ (y = 0 ∧ ¬ zNa b m t x)) := by
  obtain ⟨h1, h2, h3, h4, h5⟩ := h
  obtain ⟨l1, l2, l3⟩ := z_str_r hx
  have sr := zS_r (b := b) hB.1.1 t
  have fr := (zF_r (b := b) sr.2).1
  have mm := hB.1
  rw [e46, b46_0 hS, h5]
  by_cases c : zKd b m (zS b m t) = 1
  · rw [if_pos c, b46_8 hS (by rw [h3, h4]; omega) hx, c47 hx, h3, h4]
    simp only [Option.bind_some, zpush0]
    rw [b46_21]
    by_cases c2 : zF b m (zS b m t) - zS b m t = ((z_str x).length : Int)
    · rw [if_pos c2, b46_26]
      have := zup (α := Unit) (fun i _ => ∀ k : Nat, (k : Int) < i → b (zS b m t + k) = (z_str x).getD k 0) (fun i _ => ∃ y, ev 46 28 [(2, 58), (3, x), (0, i)] [] T V = some ((0, y), T, V) ∧ ((y = 1 ∧ zNa b m t x) ∨ (y = 0 ∧ ¬ zNa b m t x))) (lo := 0) (hi := ((z_str x).length : Int)) (by omega) ?_ ?_ () (fun k k1 => by omega)
      · exact this
      · intro _ hi
        rw [b46_28 hx, c47 hx]
        simp only [Option.bind_some, zpush0]
        rw [b46_33, if_pos (by omega), b46_66]
        exact ⟨1, rfl, Or.inl ⟨rfl, c2, fun i hi2 => hi i (by omega)⟩⟩
      · intro i _ i1 i2 hi next
        have ei : ((i.toNat : Nat) : Int) = i := by omega
        rw [b46_28 hx, c47 hx]
        simp only [Option.bind_some, zpush0]
        rw [b46_33, if_neg (by omega), b46_36 hS (by rw [h3]; omega) (by rw [h3]; omega) hx, c49 hx ⟨i1, i2⟩, h3, h1]
        simp only [Option.bind_some, zpush0]
        rw [b46_55]
        by_cases c3 : b (zS b m t + i) = (z_str x).getD i.toNat 0
        · rw [if_pos c3, b46_60 (by omega)]
          refine next () (fun k k1 => ?_)
          by_cases c4 : (k : Int) = i
          · rw [c4, c3, show k = i.toNat by omega]
          · exact hi k (by omega)
        · rw [if_neg c3, b46_58]
          refine ⟨0, rfl, Or.inr ⟨rfl, fun z => c3 ?_⟩⟩
          have := z.2 i.toNat (by omega)
          rw [ei] at this
          exact this
    · rw [if_neg c2, b46_24]
      exact ⟨0, rfl, Or.inr ⟨rfl, fun z => c2 z.1⟩⟩
  · rw [if_neg c, b46_24]
    exact ⟨0, rfl, Or.inr ⟨rfl, fun z => c (zNa_k hx z)⟩⟩
theorem c59 (hS : zStr T) (hB : zBy b m) (h : zRt V b m t) : ∃ y, zcall 59 [(2, 58)] T V = some ((0, y), T, V) ∧ ((zOl b m t ∧ y = b (zS b m t) - 97 ∧ 0 ≤ y ∧ y < 26) ∨ (¬ zOl b m t ∧ y = -1)) := by
  obtain ⟨h1, h2, h3, h4, h5⟩ := h
  have sr := zS_r (b := b) hB.1.1 t
  have fr := (zF_r (b := b) sr.2).1
  have mm := hB.1
  rw [e59, b59_0 hS, h5]
  by_cases c : zKd b m (zS b m t) = 1
  · rw [if_pos c, b59_8 hS (by rw [h3, h4]; omega), h3, h4]
    by_cases c2 : zF b m (zS b m t) - zS b m t = 1
    · obtain ⟨p1, p2⟩ := zKd_p (b := b) (m := m) (s := zS b m t) (by omega)
      rw [p2, zkb_1] at c
      rw [if_pos c2, b59_21 hS (by rw [h3]; omega) (by rw [h1, h3]; omega), b59_40, h1, h3]
      exact ⟨_, rfl, Or.inl ⟨⟨by rw [p2, zkb_1]; exact c, c2⟩, rfl, by omega, by omega⟩⟩
    · rw [if_neg c2, b59_39, b59_40]
      exact ⟨-1, rfl, Or.inr ⟨fun z => c2 z.2, rfl⟩⟩
  · rw [if_neg c, b59_39, b59_40]
    exact ⟨-1, rfl, Or.inr ⟨fun z => c z.1, rfl⟩⟩
theorem zsb_r {s : Int} : ∀ n : Nat, (∀ i : Nat, i < n → 1 ≤ b (s + i) - 48 ∧ b (s + i) - 48 ≤ 7) → (0 ≤ zsb b s n ∧ zsb b s n < 128) ∧ ∀ j : Nat, j < 32 → (zbt (zsb b s n) j ↔ ∃ i : Nat, i < n ∧ (b (s + i) - 49).toNat = j)
  | 0, _ => ⟨by rw [zsb]; decide, fun j _ => ⟨fun z => absurd z (by rw [zsb]; exact zbt_z), fun ⟨i, h, _⟩ => by omega⟩⟩
  | n + 1, h => by
    obtain ⟨r, g⟩ := zsb_r n (fun i hi => h i (by omega))
    have d := h n (by omega)
    have p7 : (2 : Int) ^ (b (s + n) - 49).toNat < 128 := by
      have := Nat.pow_lt_pow_right (a := 2) (n := 7) (m := (b (s + n) - 49).toNat) (by decide) (by omega)
      exact_mod_cast this
    have p0 := zp2 (b (s + n) - 49).toNat
    rw [zsb]
    refine ⟨zor_n (k := 7) (by decide) r.1 r.2 (by omega) p7, fun j hj => ?_⟩
    rw [zor_bt (by omega), g j hj, zbt_p2]
    constructor
    · rintro (⟨i, i1, i2⟩ | z)
      · exact ⟨i, by omega, i2⟩
      · exact ⟨n, by omega, z⟩
    · rintro ⟨i, i1, i2⟩
      by_cases c : i = n
      · exact Or.inr (by rw [← c]; exact i2)
      · exact Or.inl ⟨i, by omega, i2⟩
theorem zsv_d {s e but : Int} (h : zsv b s e but) {i : Nat} (hi : (i : Int) < e - s) : 1 ≤ b (s + i) - 48 ∧ b (s + i) - 48 ≤ 7 := (h i hi).1
theorem c61 (hS : zStr T) (hB : zBy b m) (h : zRt V b m t) : ∃ y, zcall 61 [(2, 58)] T V = some ((0, y), T, V) ∧ ((zStw b m t 0 ∧ y = zSx b m t ∧ 0 < y ∧ y < 128) ∨ (¬ zStw b m t 0 ∧ y = 0)) := by
  obtain ⟨h1, h2, h3, h4, h5⟩ := h
  have sr := zS_r (b := b) hB.1.1 t
  have fr := (zF_r (b := b) sr.2).1
  have mm := hB.1
  obtain ⟨s, hs⟩ : ∃ s, zS b m t = s := ⟨_, rfl⟩
  obtain ⟨e, he⟩ : ∃ e, zF b m s = e := ⟨_, rfl⟩
  unfold zStw zSx
  rw [hs, he] at h4 fr
  rw [hs] at h3 h5 sr
  rw [hs, he]
  rw [e61, b61_0 hS, h5]
  by_cases c : zKd b m s = 2
  · have pos : s < e := by
      by_cases cs : s < m
      · have := (zF_r (b := b) sr.2).2.1 cs; omega
      · rw [show zKd b m s = 0 from if_neg cs] at c; exact absurd c (by decide)
    have kk : ∀ x, s ≤ x → x < e → 48 ≤ b x ∧ b x ≤ 57 := fun x x1 x2 => by
      have q := (zF_r (b := b) sr.2).2.2.1 (by omega) x x1 (by omega)
      rw [show zKd b m s = zkb (b s) from if_pos (by omega)] at c
      rw [c] at q
      exact zkb_2.1 q
    rw [if_pos c, b61_10 hS, h3]
    have := zup (α := zV) (fun x _ => ∀ i : Nat, (i : Int) < x - s → (1 ≤ b (s + i) - 48 ∧ b (s + i) - 48 ≤ 7) ∧ ¬ zbt (zor (zsb b s i) 0) (b (s + i) - 49).toNat) (fun x v => ∃ y, ev 61 17 [(2, 58), (0, zsb b s (x - s).toNat), (0, x), v] [] T V = some ((0, y), T, V) ∧ (((zKd b m s = 2 ∧ zsv b s e 0) ∧ y = zsb b s (e - s).toNat ∧ 0 < y ∧ y < 128) ∨ (¬ (zKd b m s = 2 ∧ zsv b s e 0) ∧ y = 0))) (lo := s) (hi := e) (by omega) ?_ ?_ (9, 0) (fun i hi => by omega)
    · rw [show (s - s).toNat = 0 by omega, zsb] at this
      exact this
    · intro v hi
      rw [b61_17 hS, h4, if_pos (by omega), b61_75]
      obtain ⟨r, g⟩ := zsb_r (b := b) (s := s) (e - s).toNat (fun i hi2 => (hi i (by omega)).1)
      refine ⟨_, rfl, Or.inl ⟨⟨c, hi⟩, rfl, ?_, r.2⟩⟩
      have d := (hi 0 (by omega)).1
      have z := (g (b (s + (0 : Nat)) - 49).toNat (by omega)).2 ⟨0, by omega, rfl⟩
      by_cases c0 : zsb b s (e - s).toNat = 0
      · rw [c0] at z; exact absurd z zbt_z
      · omega
    · intro x v x1 x2 hi next
      have ei : s + ((x - s).toNat : Int) = x := by omega
      obtain ⟨r, g⟩ := zsb_r (b := b) (s := s) (x - s).toNat (fun i hi2 => (hi i (by omega)).1)
      have kx := kk x x1 x2
      have bad : ¬ ((1 ≤ b x - 48 ∧ b x - 48 ≤ 7) ∧ ¬ zbt (zsb b s (x - s).toNat) (b x - 49).toNat) → ¬ (zKd b m s = 2 ∧ zsv b s e 0) := fun q z => by
        have := z.2 (x - s).toNat (by omega)
        rw [ei, zor_0 (by omega)] at this
        exact q this
      rw [b61_17 hS, h4, if_neg (by omega), b61_25 hS (by omega) (by rw [h1]; omega), h1]
      by_cases c1 : b x - 48 < 1
      · rw [if_pos c1, b61_59]
        exact ⟨0, rfl, Or.inr ⟨bad (fun z => by omega), rfl⟩⟩
      · rw [if_neg c1, b61_43]
        by_cases c2 : 7 < b x - 48
        · rw [if_pos c2, b61_59]
          exact ⟨0, rfl, Or.inr ⟨bad (fun z => by omega), rfl⟩⟩
        · rw [if_neg c2, b61_49 (by omega) (by omega), zand_1, show b x - 48 - 1 = b x - 49 by omega]
          by_cases c3 : zbt (zsb b s (x - s).toNat) (b x - 49).toNat
          · rw [if_neg (by unfold zbt at c3; omega), b61_59]
            exact ⟨0, rfl, Or.inr ⟨bad (fun z => z.2 c3), rfl⟩⟩
          · rw [if_pos (by unfold zbt at c3; omega), b61_61 (by omega) (by omega) (by omega), show b x - 48 - 1 = b x - 49 by omega]
            have st : zor (zsb b s (x - s).toNat) (2 ^ (b x - 49).toNat) = zsb b s (x + 1 - s).toNat := by
              rw [show (x + 1 - s).toNat = (x - s).toNat + 1 by omega, zsb, ei]
            rw [st]
            refine next _ (fun i hi2 => ?_)
            by_cases ci : (i : Int) = x - s
            · rw [ci, show s + (x - s) = x by omega, show i = (x - s).toNat by omega, zor_0 (by omega)]
              exact ⟨by omega, c3⟩
            · exact hi i (by omega)
  · rw [if_neg c, b61_8]
    exact ⟨0, rfl, Or.inr ⟨fun z => c z.1, rfl⟩⟩
theorem znv_0 {s : Int} : ∀ n : Nat, (∀ i : Nat, i < n → 48 ≤ b (s + i)) → 0 ≤ znv b s n
  | 0, _ => by rw [znv]; decide
  | n + 1, h => by
    have i := znv_0 n (fun i hi => h i (by omega))
    have d := h n (by omega)
    rw [znv]
    omega
theorem c64 (hS : zStr T) (hB : zBy b m) (h : zRt V b m t) : ∃ y, zcall 64 [(2, 58)] T V = some ((0, y), T, V) ∧ ((zKd b m (zS b m t) = 2 ∧ y = min 1000 (zNx b m t) ∧ 0 ≤ zNx b m t) ∨ (zKd b m (zS b m t) ≠ 2 ∧ y = -1)) := by
  obtain ⟨h1, h2, h3, h4, h5⟩ := h
  have sr := zS_r (b := b) hB.1.1 t
  have fr := (zF_r (b := b) sr.2).1
  have mm := hB.1
  obtain ⟨s, hs⟩ : ∃ s, zS b m t = s := ⟨_, rfl⟩
  obtain ⟨e, he⟩ : ∃ e, zF b m s = e := ⟨_, rfl⟩
  unfold zNx
  rw [hs, he] at h4 fr
  rw [hs] at h3 h5 sr
  rw [hs, he]
  rw [e64, b64_0 hS, h5]
  by_cases c : zKd b m s = 2
  · have kk : ∀ x, s ≤ x → x < e → 48 ≤ b x ∧ b x ≤ 57 := fun x x1 x2 => by
      have q := (zF_r (b := b) sr.2).2.2.1 (by omega) x x1 (by omega)
      rw [show zKd b m s = zkb (b s) from if_pos (by omega)] at c
      rw [c] at q
      exact zkb_2.1 q
    have key := zfor (fun x => ev 64 17 [(2, 58), (0, min 1000 (znv b s (x - s).toNat)), (0, x)] [] T V) (lo := s) (hi := e) (by omega) (fun x x1 x2 => by
      show ev 64 17 [(2, 58), (0, min 1000 (znv b s (x - s).toNat)), (0, x)] [] T V = ev 64 17 [(2, 58), (0, min 1000 (znv b s (x + 1 - s).toNat)), (0, x + 1)] [] T V
      have ei : s + ((x - s).toNat : Int) = x := by omega
      have kx := kk x x1 x2
      have p := znv_0 (b := b) (s := s) (x - s).toNat (fun i hi => (kk (s + i) (by omega) (by omega)).1)
      rw [b64_17 hS, h4, if_neg (by omega), b64_25 hS (by omega) (by omega) (by rw [h1]; omega) (by rw [h1]; omega) (by omega), h1, show (x + 1 - s).toNat = (x - s).toNat + 1 by omega, znv, ei]
      rw [show min 1000 (min 1000 (znv b s (x - s).toNat) * 10 + b x - 48) = min 1000 (znv b s (x - s).toNat * 10 + (b x - 48)) by omega])
    have p := znv_0 (b := b) (s := s) (e - s).toNat (fun i hi => (kk (s + i) (by omega) (by omega)).1)
    rw [if_pos c, b64_10 hS, h3]
    rw [show (s - s).toNat = 0 by omega] at key
    have k0 : (min 1000 (znv b s 0)) = (0 : Int) := by rw [znv]; decide
    rw [k0] at key
    rw [key, b64_17 hS, h4, if_pos (by omega), b64_55]
    exact ⟨_, rfl, Or.inl ⟨c, rfl, p⟩⟩
  · rw [if_neg c, b64_8]
    exact ⟨-1, rfl, Or.inr ⟨c, rfl⟩⟩
theorem c63 (hS : zStr T) (hB : zBy b m) (h : zRt V b m t) : ∃ y, zcall 63 [(2, 58)] T V = some ((2, y), T, V) ∧ ((zNa b m t 0 ∧ y = 33) ∨ (¬ zNa b m t 0 ∧ zNa b m t 1 ∧ y = 41) ∨ (¬ zNa b m t 0 ∧ ¬ zNa b m t 1 ∧ y = -1)) := by
  obtain ⟨y, f1, f2⟩ := c46 (x := 0) hS hB h (by decide)
  obtain ⟨y', g1, g2⟩ := c46 (x := 1) hS hB h (by decide)
  rw [e63, b63_0 hS, f1]
  simp only [Option.bind_some, zpush0]
  rw [b63_6]
  rcases f2 with ⟨rfl, f2⟩ | ⟨rfl, f2⟩
  · rw [if_neg (by decide), b63_9 hS]
    exact ⟨33, rfl, Or.inl ⟨f2, rfl⟩⟩
  · rw [if_pos rfl, b63_17 hS, g1]
    simp only [Option.bind_some, zpush0]
    rw [b63_23]
    rcases g2 with ⟨rfl, g2⟩ | ⟨rfl, g2⟩
    · rw [if_neg (by decide), b63_26 hS, b63_37]
      exact ⟨41, rfl, Or.inr (Or.inl ⟨f2, g2, rfl⟩)⟩
    · rw [if_pos rfl, b63_36, b63_37]
      exact ⟨-1, rfl, Or.inr (Or.inr ⟨f2, g2, rfl⟩)⟩
theorem c69 (hS : zStr T) (hB : zBy b m) (h : zRt V b m t) : ∃ y, zcall 69 [(2, 58), (0, 59)] T V = some ((0, y), T, V) ∧ ((y = 1 ∧ zKd b m (zS b m t) = 3 ∧ b (zS b m t) = 59) ∨ (y = 0 ∧ ¬ (zKd b m (zS b m t) = 3 ∧ b (zS b m t) = 59))) := by
  obtain ⟨h1, h2, h3, h4, h5⟩ := h
  have sr := zS_r (b := b) hB.1.1 t
  have mm := hB.1
  rw [e69, b69_0 hS, h5]
  by_cases c : zKd b m (zS b m t) = 3
  · have sm : zS b m t < m := by
      by_cases cs : zS b m t < m
      · exact cs
      · rw [show zKd b m (zS b m t) = 0 from if_neg cs] at c; exact absurd c (by decide)
    rw [if_pos c, b69_8 hS (by rw [h3]; omega), h1, h3]
    by_cases c2 : b (zS b m t) = 59
    · rw [if_pos c2, b69_24, b69_29 (by decide)]
      exact ⟨1, rfl, Or.inl ⟨rfl, c, c2⟩⟩
    · rw [if_neg c2, b69_28, b69_29 (by decide)]
      exact ⟨0, rfl, Or.inr ⟨rfl, fun z => c2 z.2⟩⟩
  · rw [if_neg c, b69_28, b69_29 (by decide)]
    exact ⟨0, rfl, Or.inr ⟨rfl, fun z => c z.1⟩⟩
end HELP
