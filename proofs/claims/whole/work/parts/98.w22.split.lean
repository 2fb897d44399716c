/-! the reference: tokens -/
def zBc (V : zM) (b : Int → Int) (m : Int) : Prop := ∀ j, 0 ≤ j → j < m → b j = V 137 j % 256 ∧ -128 ≤ V 137 j ∧ V 137 j ≤ 127
noncomputable def zWan (b : Int → Int) (s e : Int) : Nat → Int
  | 0 => 0
  | n + 1 => zif (zNm b s e (6 - (n : Int))) (7 - (n : Int)) (zWan b s e n)
noncomputable def zCd (b : Int → Int) (m s : Int) : Int := if s < m then (if zkb (b s) = 1 then zWan b s (zF b m s) 7 else if zkb (b s) = 2 then 90 else 100 + b s) else 0
def zVo (b : Int → Int) (m s v : Int) : Prop := zKd b m s = 2 → (v = znv b s (zF b m s - s).toNat ∨ (1000000 < v ∧ 1000000 < znv b s (zF b m s - s).toNat))
def zof (x : Nat) : Nat := [0, 5, 10, 15, 22, 27, 32, 36].getD x 36
theorem zof_d : ∀ x : Nat, x < 7 → zof (x + 1) = zof x + (z_str (x : Int)).length + 1 ∧ zof (x + 1) ≤ 36 ∧ zwords.getD (zof x + (z_str (x : Int)).length) 0 = 32 ∧ ∀ i : Nat, i < (z_str (x : Int)).length → zwords.getD (zof x + i) 0 = (z_str (x : Int)).getD i 0 := by decide +kernel
theorem zNm_d : ∀ x : Nat, x < 7 → ∀ y : Nat, y < 7 → x = y ∨ (z_str (x : Int)).length ≠ (z_str (y : Int)).length ∨ ∃ i : Nat, i < 6 ∧ (i < (z_str (x : Int)).length ∧ i < (z_str (y : Int)).length) ∧ (z_str (x : Int)).getD i 0 ≠ (z_str (y : Int)).getD i 0 := by decide +kernel
theorem zNm_u {b : Int → Int} {s e x y : Int} (hx : 0 ≤ x ∧ x < 7) (hy : 0 ≤ y ∧ y < 7) (h1 : zNm b s e x) (h2 : zNm b s e y) : x = y := by
  obtain ⟨k, rfl⟩ := Int.eq_ofNat_of_zero_le hx.1
  obtain ⟨j, rfl⟩ := Int.eq_ofNat_of_zero_le hy.1
  rcases zNm_d k (by omega) j (by omega) with z | z | ⟨i, i1, i2, i3⟩
  · rw [z]
  · exact absurd (by have := h1.1; have := h2.1; omega) z
  · exact absurd ((h1.2 i i2.1).symm.trans (h2.2 i i2.2)) i3
theorem zWan_r {b : Int → Int} {s e : Int} : ∀ n : Nat, n ≤ 7 → (zWan b s e n = 0 ∨ (8 - (n : Int) ≤ zWan b s e n ∧ zWan b s e n ≤ 7)) ∧ ∀ x : Int, 7 - (n : Int) ≤ x → x < 7 → (zWan b s e n = x + 1 ↔ zNm b s e x)
  | 0, _ => ⟨Or.inl rfl, fun x h1 h2 => by omega⟩
  | n + 1, h => by
    obtain ⟨g1, g2⟩ := zWan_r (b := b) (s := s) (e := e) n (by omega)
    rw [zWan]
    by_cases c : zNm b s e (6 - (n : Int))
    · rw [zif_t c]
      refine ⟨Or.inr (by omega), fun x h1 h2 => ?_⟩
      by_cases cx : x = 6 - (n : Int)
      · rw [cx]; exact ⟨fun _ => c, fun _ => by omega⟩
      · exact ⟨fun z => by omega, fun z => absurd (zNm_u (by omega) (by omega) z c) cx⟩
    · rw [zif_f c]
      refine ⟨by omega, fun x h1 h2 => ?_⟩
      by_cases cx : x = 6 - (n : Int)
      · rw [cx]; exact ⟨fun z => by omega, fun z => absurd z c⟩
      · exact g2 x (by omega) h2
section SPLIT
variable {T : zT} {V : zM} {b : Int → Int} {m : Int}
theorem zBc_k (h : zBc V b m) {j : Int} (h1 : 0 ≤ j) (h2 : j < m) : (zkb (b j) = 1 ↔ 97 ≤ V 137 j ∧ V 137 j ≤ 122) ∧ (zkb (b j) = 2 ↔ 48 ≤ V 137 j ∧ V 137 j ≤ 57) ∧ (b j = 32 ↔ V 137 j = 32) ∧ (zkb (b j) ≠ 3 → V 137 j = b j) := by
  obtain ⟨a1, a2, a3⟩ := h j h1 h2
  rw [zkb_1, zkb_2]
  refine ⟨by omega, by omega, by omega, fun z => ?_⟩
  rcases zkb_r (b j) with q | q | q
  · have := zkb_1.1 q; omega
  · have := zkb_2.1 q; omega
  · exact absurd q z
theorem zand_25x {c x : Int} (h : x = c % 256) (h1 : -128 ≤ c) (h2 : c ≤ 127) : zand c 255 = x := by
  have n := zand_n (x := 255) (y := c) (by decide) (by decide)
  rw [zand_c]
  refine zbt_ext 8 n.1 (by omega) (by omega) (by omega) (fun j hj => ?_)
  have h255 : zbt 255 j := by
    have : j = 0 ∨ j = 1 ∨ j = 2 ∨ j = 3 ∨ j = 4 ∨ j = 5 ∨ j = 6 ∨ j = 7 := by omega
    rcases this with rfl | rfl | rfl | rfl | rfl | rfl | rfl | rfl <;> unfold zbt <;> decide
  rw [zand_bt (by omega), h, show (256 : Int) = 2 ^ 8 by decide, zbt_mod hj]
  exact ⟨fun z => z.2, fun z => ⟨h255, z⟩⟩
theorem c168 {s e : Int} (hS : zStr T) (hw : zWd V) (hc : zBc V b m) (hm : 0 ≤ m ∧ m ≤ 400) (hs : 0 ≤ s ∧ s ≤ e ∧ e ≤ m) (hk : ∀ x, s ≤ x → x < e → zkb (b x) = 1) : zcall 168 [(2, 130), (0, s), (0, e)] T V = some ((0, zWan b s e 7), T, V) := by
  rw [e168, b168_0]
  refine zup (α := zV × zV × zV) (fun _ _ => True) (fun x v => ev 168 5 [(2, 130), (0, s), (0, e), (0, x + 1), (0, (zof x.toNat : Int)), v.1, v.2.1, v.2.2] [] T V = some ((0, zWan b s e (7 - x).toNat), T, V)) (lo := 0) (hi := 7) (by decide) ?_ ?_ ((9, 0), (9, 0), (9, 0)) trivial
  · rintro ⟨v5, v6, v7⟩ _
    show ev 168 5 [(2, 130), (0, s), (0, e), (0, 7 + 1), (0, (zof (7 : Int).toNat : Int)), v5, v6, v7] [] T V = _
    rw [b168_5 hS, if_pos (by decide), b168_126]
    rfl
  · rintro x ⟨v5, v6, v7⟩ x1 x2 _ next
    show ev 168 5 [(2, 130), (0, s), (0, e), (0, x + 1), (0, (zof x.toNat : Int)), v5, v6, v7] [] T V = _
    obtain ⟨k, rfl⟩ := Int.eq_ofNat_of_zero_le x1
    obtain ⟨o1, o2, o3, o4⟩ := zof_d k (by omega)
    obtain ⟨l1, l2, l3⟩ := z_str_r (x := (k : Int)) (by omega)
    have ek : ((k : Int)).toNat = k := Int.toNat_natCast k
    rw [ek]
    obtain ⟨L, hL⟩ : ∃ L, (z_str (k : Int)).length = L := ⟨_, rfl⟩
    rw [hL] at o1 o3 o4 l1 l2 l3
    obtain ⟨o, ho⟩ : ∃ o, zof k = o := ⟨_, rfl⟩
    rw [ho] at o1 o3 o4
    have wl : ∀ i : Nat, i < L → V 136 ((o : Int) + (i : Int)) = (z_str (k : Int)).getD i 0 := fun i hi => by
      have := hw (o + i) (by omega)
      rw [o4 i hi, Int.natCast_add] at this
      exact this
    have we : V 136 ((o : Int) + (L : Int)) = 32 := by
      have := hw (o + L) (by omega)
      rw [o3, Int.natCast_add] at this
      exact this
    rw [ho, b168_5 hS, if_neg (by omega), b168_15]
    -- how long the word is
    have len := zfor (fun i => ev 168 18 [(2, 130), (0, s), (0, e), (0, (k : Int) + 1), (0, (o : Int)), (0, i), v6, v7] [] T V) (lo := 0) (hi := (L : Int)) (by omega) (fun i i1 i2 => by
      show ev 168 18 [(2, 130), (0, s), (0, e), (0, (k : Int) + 1), (0, (o : Int)), (0, i), v6, v7] [] T V = ev 168 18 [(2, 130), (0, s), (0, e), (0, (k : Int) + 1), (0, (o : Int)), (0, i + 1), v6, v7] [] T V
      have q := wl i.toNat (by omega)
      have l := l3 i.toNat (by omega)
      rw [show ((i.toNat : Nat) : Int) = i by omega] at q
      rw [b168_18 hS (by omega) (by omega), if_neg (by omega), b168_33 (by omega)])
    have len' : ev 168 18 [(2, 130), (0, s), (0, e), (0, (k : Int) + 1), (0, (o : Int)), (0, 0), v6, v7] [] T V = ev 168 18 [(2, 130), (0, s), (0, e), (0, (k : Int) + 1), (0, (o : Int)), (0, (L : Int)), v6, v7] [] T V := len
    rw [len', b168_18 hS (by omega) (by omega), if_pos we, b168_39 (by omega)]
    have fin : ∀ x6 x7, ((x6 = 1 ∧ zNm b s e (k : Int)) ∨ (x6 = 0 ∧ ¬ zNm b s e (k : Int))) → ev 168 104 [(2, 130), (0, s), (0, e), (0, (k : Int) + 1), (0, (o : Int)), (0, (L : Int)), (0, x6), (0, x7)] [] T V = some ((0, zWan b s e (7 - (k : Int)).toNat), T, V) := fun x6 x7 hx => by
      rw [b168_104, show (7 - (k : Int)).toNat = (7 - ((k : Int) + 1)).toNat + 1 by omega, zWan, show (6 : Int) - (((7 - ((k : Int) + 1)).toNat : Nat) : Int) = (k : Int) by omega, show (7 : Int) - (((7 - ((k : Int) + 1)).toNat : Nat) : Int) = (k : Int) + 1 by omega]
      rcases hx with ⟨rfl, hx⟩ | ⟨rfl, hx⟩
      · rw [if_neg (by decide), b168_109, zif_t hx]
      · rw [if_pos rfl, b168_111 (by omega) (by omega) (by omega), zif_f hx]
        have := next ((0, (L : Int)), (0, 0), (0, x7)) trivial
        rw [show ((k : Int) + 1).toNat = k + 1 by omega, o1] at this
        rw [show ((o : Int) + ((L : Int) + 1)) = ((o + L + 1 : Nat) : Int) by omega]
        exact this
    by_cases c1 : (L : Int) = e - s
    · rw [if_pos c1, b168_47, b168_52]
      have cmp := zup (α := Unit) (fun i _ => ∀ j : Nat, (j : Int) < i → b (s + j) = (z_str (k : Int)).getD j 0) (fun i _ => ev 168 57 [(2, 130), (0, s), (0, e), (0, (k : Int) + 1), (0, (o : Int)), (0, (L : Int)), (0, 1), (0, i)] [] T V = some ((0, zWan b s e (7 - (k : Int)).toNat), T, V)) (lo := 0) (hi := (L : Int)) (by omega) ?_ ?_ () (fun j hj => by omega)
      · exact cmp
      · intro _ hi
        rw [b168_57, if_pos (by omega)]
        exact fin 1 _ (Or.inl ⟨rfl, by rw [hL]; omega, fun i hi2 => hi i (by rw [hL] at hi2; omega)⟩)
      · intro i _ i1 i2 hi next2
        have q := wl i.toNat (by omega)
        rw [show ((i.toNat : Nat) : Int) = i by omega] at q
        have kx := (zBc_k hc (j := s + i) (by omega) (by omega)).2.2.2 (by rw [hk (s + i) (by omega) (by omega)]; decide)
        rw [b168_57, if_neg (by omega), b168_64, if_neg (by decide), b168_69 hS (by omega) (by omega) (by omega) (by omega), q, kx]
        by_cases c2 : (z_str (k : Int)).getD i.toNat 0 = b (s + i)
        · rw [if_pos c2, b168_91, b168_96 (by omega)]
          refine next2 () (fun j hj => ?_)
          by_cases cj : (j : Int) = i
          · rw [cj, ← c2, show j = i.toNat by omega]
          · exact hi j (by omega)
        · have nn : ¬ zNm b s e (k : Int) := fun z => c2 (by
            have := z.2 i.toNat (by omega)
            rw [show ((i.toNat : Nat) : Int) = i by omega] at this
            exact this.symm)
          rw [if_neg c2, b168_95, b168_96 (by omega), b168_57]
          by_cases c3 : (L : Int) ≤ i + 1
          · rw [if_pos c3]; exact fin 0 _ (Or.inr ⟨rfl, nn⟩)
          · rw [if_neg c3, b168_64, if_pos rfl]; exact fin 0 _ (Or.inr ⟨rfl, nn⟩)
    · have nn : ¬ zNm b s e (k : Int) := fun z => c1 (by have := z.1; rw [hL] at this; omega)
      rw [if_neg c1, b168_51, b168_52, b168_57, if_neg (by omega), b168_64, if_pos rfl]
      exact fin 0 _ (Or.inr ⟨rfl, nn⟩)
end SPLIT
