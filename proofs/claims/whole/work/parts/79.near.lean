/-! pairs; the walls near two texts -/
theorem zadd_mo : zMo (fun a b => a + b) 0 := ⟨fun a b c => by show a + b + c = a + (b + c); omega, fun a b => by show a + b = b + a; omega, rfl⟩
theorem zfo_sum {f : Int → Int} {n : Nat} : zfo (fun a b => a + b) 0 f n = zsum f n := by
  induction n with
  | zero => rfl
  | succ n ih => rw [zfo, zsum, ih]
theorem zsum_app {f : Int → Int} {m : Nat} : ∀ k : Nat, zsum f (m + k) = zsum f m + zsum (fun j => f ((m : Int) + j)) k := by
  intro k
  induction k with
  | zero => rw [Nat.add_zero, zsum]; omega
  | succ k ih =>
    rw [show m + (k + 1) = (m + k) + 1 from rfl, zsum, ih, zsum]
    have e : ((m + k : Nat) : Int) = (m : Int) + (k : Int) := by omega
    rw [e]
    omega
theorem zsum_nest {f : Int → Int} (m : Nat) : zsum (fun a => zsum (fun b => f (27 * a + b)) 27) m = zsum f (27 * m) := by
  induction m with
  | zero => rfl
  | succ m ih =>
    rw [zsum, ih, show 27 * (m + 1) = 27 * m + 27 by omega, zsum_app]
    congr 1
theorem zsum_s {f : Int → Int} {i : Int} (h : 0 ≤ i) : zsum f (i + 1).toNat = zsum f i.toNat + f i := by
  have e : (i + 1).toNat = i.toNat + 1 := by omega
  rw [e, zsum, Int.toNat_of_nonneg h]
theorem zsum_01 {f : Int → Int} {n : Nat} (h : ∀ l : Int, 0 ≤ l → l < n → 0 ≤ f l ∧ f l ≤ 1) : 0 ≤ zsum f n ∧ zsum f n ≤ n := by
  induction n with
  | zero => simp [zsum]
  | succ n ih => rw [zsum]; have := h n (by omega) (by omega); have := ih (fun l a b => h l a (by omega)); omega
theorem zcnt_or {p q : Int → Prop} {n : Nat} (h : ∀ s, ¬ (p s ∧ q s)) : zcnt (fun s => p s ∨ q s) n = zcnt p n + zcnt q n := by
  induction n with
  | zero => rfl
  | succ n ih =>
    rw [zcnt, zcnt, zcnt, ih]
    by_cases hp : p n
    · rw [zif_t (Or.inl hp), zif_t hp, zif_f (fun hq => h n ⟨hp, hq⟩)]; omega
    · by_cases hq : q n
      · rw [zif_t (Or.inr hq), zif_f hp, zif_t hq]; omega
      · rw [zif_f (fun c => c.elim hp hq), zif_f hp, zif_f hq]; omega
section NEAR
variable {n : Int} {T : zT} {V : zM}
/-- both letters, no gap, and some set shows them -/
noncomputable def zgp (K : Int → Int) (p : Int) : Int := zif ((p / 27 ≠ 26 ∧ p % 27 ≠ 26) ∧ ∃ s : Int, (0 ≤ s ∧ s < 128) ∧ zpr K s = p) 1 0
theorem zgp_r (K : Int → Int) (p : Int) : 0 ≤ zgp K p ∧ zgp K p ≤ 1 := by
  unfold zgp
  by_cases h : (p / 27 ≠ 26 ∧ p % 27 ≠ 26) ∧ ∃ s : Int, (0 ≤ s ∧ s < 128) ∧ zpr K s = p
  · rw [zif_t h]; decide
  · rw [zif_f h]; decide
theorem c89 (h : zJ n T V) : zcall 89 [(2, 0)] T V = some ((0, zsum (zgp (V 132)) 729), T, V) := by
  have hS := h.str
  obtain ⟨⟨l1, l2, l3⟩, -, g2, g3, g4, -, -⟩ := h.pt2
  have k1 : ∀ i, 0 ≤ i → i < V 65 5 → 0 ≤ V 70 i ∧ V 70 i < 729 := l2
  have k2 : ∀ i j, 0 ≤ i → i < j → j < V 65 5 → V 70 i ≠ V 70 j := g2
  have k3 : ∀ i, 0 ≤ i → i < V 65 5 → 0 < V 66 (V 70 i) := g3
  have k4 : ∀ p, 0 ≤ p → p < 729 → V 66 p = zcnt (fun s => True ∧ zpr (V 132) s = p) 128 := g4
  have k5 : ∀ p, 0 ≤ p → p < 729 → V 66 p ≠ 0 → ∃ i, (0 ≤ i ∧ i < V 65 5) ∧ V 70 i = p := l3
  have kr : 0 ≤ V 65 5 ∧ V 65 5 ≤ 128 := l1
  have hs : ∀ i, 0 ≤ i → i < V 65 5 → ∃ s : Int, (0 ≤ s ∧ s < 128) ∧ zpr (V 132) s = V 70 i := fun i i1 i2 => by
    have := k3 i i1 i2
    rw [k4 _ (k1 i i1 i2).1 (k1 i i1 i2).2, zcnt_pos] at this
    obtain ⟨s, s1, -, s2⟩ := this
    exact ⟨s, by omega, s2⟩
  have key := zfor (fun i => ev 89 4 [(2, 0), (0, zsum (fun j => zgp (V 132) (V 70 j)) i.toNat), (0, i), if i = 0 then (9, 0) else (0, V 70 (i - 1))] [] T V) (lo := 0) (hi := V 65 5) kr.1 (fun i i1 i2 => by
    show ev 89 4 _ _ _ _ = ev 89 4 _ _ _ _
    have r := k1 i i1 i2
    have zr := zsum_01 (f := fun j => zgp (V 132) (V 70 j)) (n := i.toNat) (fun l _ _ => zgp_r _ _)
    rw [b89_4 hS, if_neg (by omega), b89_15 hS (by omega) (by omega), zsum_s i1, if_neg (show ¬ i + 1 = 0 by omega), show i + 1 - 1 = i by omega]
    by_cases c1 : V 70 i / 27 = 26
    · rw [if_pos c1, b89_46 (by omega)]
      have : zgp (V 132) (V 70 i) = 0 := zif_f (fun q => q.1.1 c1)
      rw [this, Int.add_zero]
    · rw [if_neg c1, b89_34 r.1]
      by_cases c2 : V 70 i % 27 = 26
      · rw [if_pos c2, b89_46 (by omega)]
        have : zgp (V 132) (V 70 i) = 0 := zif_f (fun q => q.1.2 c2)
        rw [this, Int.add_zero]
      · rw [if_neg c2, b89_43 (by omega), b89_46 (by omega)]
        have : zgp (V 132) (V 70 i) = 1 := zif_t ⟨⟨c1, c2⟩, hs i i1 i2⟩
        rw [this])
  have inj := zfo_inj zadd_mo (g := zgp (V 132)) (k := V 70) (N := 729) (V 65 5).toNat (fun a a1 a2 => by have := k1 a a1 (by omega); omega) (fun a b a1 a2 a3 => k2 a b a1 a2 (by omega))
  rw [zfo_sum, zfo_sum] at inj
  have e : zsum (fun x => zif (∃ a : Int, (0 ≤ a ∧ a < ((V 65 5).toNat : Int)) ∧ V 70 a = x) (zgp (V 132) x) 0) 729 = zsum (zgp (V 132)) 729 := zsum_congr fun p p1 p2 => by
    by_cases c : ∃ a : Int, (0 ≤ a ∧ a < ((V 65 5).toNat : Int)) ∧ V 70 a = p
    · rw [zif_t c]
    · rw [zif_f c]
      refine (zif_f (fun q => c ?_)).symm
      obtain ⟨-, s, s1, s2⟩ := q
      have : 0 < V 66 p := by
        rw [k4 p p1 (by omega), zcnt_pos]
        exact ⟨s, by omega, trivial, s2⟩
      obtain ⟨i, i1, i2⟩ := k5 p p1 (by omega) (by omega)
      exact ⟨i, by omega, i2⟩
  rw [e89, b89_0]
  refine key.trans ?_
  rw [b89_4 hS, if_pos (by omega), b89_52, inj, e]
theorem k_pairs (h : zJ n T V) (hn : n < 1000) : zSame 0 89 201 [] n T V := by
  have hS := h.str
  unfold zSame
  rw [c89 h]
  refine zwp_ret ?_
  rw [e201, b201_0 hS]
  refine zwp_seq (c197 hS h.ok) ?_
  rintro r T1 W ⟨rfl, rfl, w1, w2⟩
  simp only [zpush9]
  rw [b201_4]
  have sr : ∀ s, 0 ≤ s → s < 128 → (0 ≤ zsgn (V 132) 0 s ∧ zsgn (V 132) 0 s ≤ 26) ∧ (0 ≤ zsgn (V 132) 1 s ∧ zsgn (V 132) 1 s ≤ 26) := fun s _ _ => ⟨zsgn_r _ _ _, zsgn_r _ _ _⟩
  -- cleared
  have k1 := zfor (fun i => ev 201 6 [(2, 130), (0, i), (9, 0), (9, 0)] [] T1 (zs W 144 (fun j => if 0 ≤ j ∧ j < i then 0 else W 144 j))) (lo := 0) (hi := 729) (by decide) (fun i i1 i2 => by
    show ev 201 6 _ _ _ _ = ev 201 6 _ _ _ _
    rw [b201_6, if_neg (by omega), b201_13 hS (by omega) (by omega), zwr_zs]
    congr 2
    funext j
    by_cases e : j = i
    · subst e; rw [if_pos rfl, if_pos (by omega)]
    · rw [if_neg e]
      (repeat' split) <;> first | rfl | (exfalso; omega))
  have e0 : zs W 144 (fun j => if 0 ≤ j ∧ j < 0 then 0 else W 144 j) = W := by
    have : (fun j => if 0 ≤ j ∧ j < 0 then 0 else W 144 j) = W 144 := by
      funext j
      rw [if_neg (by omega)]
    rw [this, zs_id]
  simp only [e0] at k1
  rw [k1, b201_6, if_pos (by decide), b201_26]
  -- marked
  refine zup (α := zM) (fun i U => (∀ r, r ≠ 144 → U r = W r) ∧ ∀ p, 0 ≤ p → p < 729 → U 144 p = zif (∃ s : Int, (0 ≤ s ∧ s < i) ∧ zpr (V 132) s = p) 1 0) (fun i U => zwp (ev 201 28 [(2, 130), (0, i), (9, 0), (9, 0)] [] T1 U) fun r' T2 V2 => (∃ x, ((0, zsum (zgp (V 132)) 729) : zV) = (0, x) ∧ r' = (0, x)) ∧ zJ (n + 1) T2 V2) (lo := 0) (hi := 128) (by decide) ?_ ?_ _ ⟨fun r hr => zsr_ne hr, fun p p1 p2 => by
    rw [zsr_same, if_pos ⟨p1, p2⟩, zif_f]
    rintro ⟨s, s1, -⟩
    omega⟩
  · intro U hU
    show zwp (ev 201 28 _ _ _ _) _
    rw [b201_28, if_pos (by decide), b201_63]
    have val : ∀ a b, 0 ≤ a → a < 26 → 0 ≤ b → b < 26 → U 144 (27 * a + b) = zgp (V 132) (27 * a + b) := fun a b a1 a2 b1 b2 => by
      rw [hU.2 _ (by omega) (by omega)]
      exact zif_congr ⟨fun ⟨s, q⟩ => ⟨by omega, s, q⟩, fun q => q.2⟩ (fun _ => rfl) (fun _ => rfl)
    have inner : ∀ a x, 0 ≤ a → a < 26 → 0 ≤ x → x ≤ 26 * a → ev 201 75 [(2, 130), (0, x + zsum (fun b => zgp (V 132) (27 * a + b)) (0 : Int).toNat), (0, a), (0, 0)] [] T1 U = ev 201 75 [(2, 130), (0, x + zsum (fun b => zgp (V 132) (27 * a + b)) (26 : Int).toNat), (0, a), (0, 26)] [] T1 U := fun a x a1 a2 x1 x2 =>
      zfor (fun b => ev 201 75 [(2, 130), (0, x + zsum (fun b => zgp (V 132) (27 * a + b)) b.toNat), (0, a), (0, b)] [] T1 U) (by decide) (fun b b1 b2 => by
        show ev 201 75 _ _ _ _ = ev 201 75 _ _ _ _
        have zr := zsum_01 (f := fun b => zgp (V 132) (27 * a + b)) (n := b.toNat) (fun l _ _ => zgp_r _ _)
        have gr := zgp_r (V 132) (27 * a + b)
        rw [b201_75, if_neg (by omega), b201_81 hS (by omega) (by omega) (by omega), val a b a1 a2 b1 b2, zsum_s b1]
        by_cases z : zgp (V 132) (27 * a + b) = 0
        · rw [if_pos z, b201_100, b201_101 (by omega) (by omega), z, Int.add_zero, Int.add_zero]
        · have z1 : zgp (V 132) (27 * a + b) = 1 := by omega
          rw [if_neg z, b201_96, b201_101 (by omega) (by omega), z1, Int.add_assoc])
    have rr : ∀ a : Nat, 0 ≤ zsum (fun a => zsum (fun b => zgp (V 132) (27 * a + b)) 26) a ∧ zsum (fun a => zsum (fun b => zgp (V 132) (27 * a + b)) 26) a ≤ 26 * a := fun a => by
      induction a with
      | zero => simp [zsum]
      | succ a ih => rw [zsum]; have := zsum_01 (f := fun b => zgp (V 132) (27 * (a : Int) + b)) (n := 26) (fun l _ _ => zgp_r _ _); omega
    have outer := zfor (fun a => ev 201 67 [(2, 130), (0, zsum (fun a => zsum (fun b => zgp (V 132) (27 * a + b)) 26) a.toNat), (0, a), if a = 0 then (9, 0) else (0, 26)] [] T1 U) (lo := 0) (hi := 26) (by decide) (fun a a1 a2 => by
      show ev 201 67 _ _ _ _ = ev 201 67 _ _ _ _
      have r := rr a.toNat
      have q := inner a _ a1 a2 r.1 (by omega)
      have q0 : zsum (fun b => zgp (V 132) (27 * a + b)) (0 : Int).toNat = 0 := rfl
      rw [q0, Int.add_zero] at q
      rw [b201_67, if_neg (by omega), b201_73, q, b201_75, if_pos (by decide), b201_109 (by omega), if_neg (by omega), zsum_s a1]
      rfl)
    rw [show ev 201 67 [(2, 130), (0, 0), (0, 0), (9, 0)] [] T1 U = _ from outer]
    rw [b201_67, if_pos (by decide), b201_115]
    have tot : zsum (fun a => zsum (fun b => zgp (V 132) (27 * a + b)) 26) (26 : Int).toNat = zsum (zgp (V 132)) 729 := by
      have e1 := zsum_nest (f := zgp (V 132)) 27
      rw [show 27 * 27 = 729 from rfl] at e1
      rw [← e1]
      show _ = zsum _ (26 + 1)
      rw [zsum]
      have z26 : zsum (fun b => zgp (V 132) (27 * ((26 : Nat) : Int) + b)) 27 = 0 := by
        have : zsum (fun b => zgp (V 132) (27 * ((26 : Nat) : Int) + b)) 27 = zsum (fun _ => 0) 27 := zsum_congr fun b b1 b2 => zif_f (fun q => q.1.1 (by omega))
        rw [this]
        rfl
      rw [z26, Int.add_zero]
      refine zsum_congr fun a a1 a2 => ?_
      have e27 : zsum (fun b => zgp (V 132) (27 * a + b)) 27 = zsum (fun b => zgp (V 132) (27 * a + b)) 26 + zgp (V 132) (27 * a + ((26 : Nat) : Int)) := rfl
      have : zgp (V 132) (27 * a + ((26 : Nat) : Int)) = 0 := zif_f (fun q => q.1.2 (by omega))
      rw [e27, this, Int.add_zero]
    refine zwp_ret ⟨⟨_, rfl, by rw [tot]⟩, zJ_md h hn (fun r => ?_) (fun j _ => by rw [hU.1 130 (by decide), w1 130 (by decide) (by decide)])⟩
    by_cases u : 142 ≤ r ∧ r ≤ 144
    · omega
    · exact Or.inr (Or.inr (Or.inr (Or.inr (by rw [hU.1 r (by omega), w1 r (by omega) (by omega)]))))
  · intro i U i1 i2 hU next
    show zwp (ev 201 28 _ _ _ _) _
    obtain ⟨v1, v2⟩ := w2 i i1 i2
    have k := sr i i1 i2
    have e142 : U 142 i = zsgn (V 132) 0 i := by rw [hU.1 142 (by decide), v1]
    have e143 : U 143 i = zsgn (V 132) 1 i := by rw [hU.1 143 (by decide), v2]
    rw [b201_28, if_neg (by omega), b201_35 hS ⟨i1, i2⟩ (by rw [e142]; omega) (by rw [e142, e143]; omega) (by rw [e142, e143]; omega) (by omega), e142, e143]
    refine next _ ⟨fun r hr => by rw [zwr_ne hr, hU.1 r hr], fun p p1 p2 => ?_⟩
    have hp : zpr (V 132) i = zsgn (V 132) 0 i * 27 + zsgn (V 132) 1 i := rfl
    rw [zwr_same]
    by_cases c : p = 27 * zsgn (V 132) 0 i + zsgn (V 132) 1 i
    · rw [if_pos c, zif_t ⟨i, by omega, by rw [hp, c]; omega⟩]
    · rw [if_neg c, hU.2 p p1 p2]
      refine zif_congr ⟨fun ⟨s, s1, s2⟩ => ⟨s, by omega, s2⟩, fun ⟨s, s1, s2⟩ => ⟨s, ?_, s2⟩⟩ (fun _ => rfl) (fun _ => rfl)
      have : s ≠ i := fun e => c (by rw [e, hp] at s2; omega)
      omega
/-- how far a set is from two signs -/
noncomputable def zds (K : Int → Int) (e w s : Int) : Int := (if zsgn K 0 s = e then 0 else 1) + (if zsgn K 1 s = w then 0 else 1)
/-- the nearest of the sets S -/
def zNo (K : Int → Int) (e w : Int) (S : Int → Prop) (wr st wy : Int) : Prop := (∀ s, 0 ≤ s → s < 128 → S s → wr ≤ zds K e w s) ∧ ((0 ≤ st ∧ st < 128) ∧ S st ∧ zds K e w st = wr) ∧ (∀ s, 0 ≤ s → s < 128 → S s → zds K e w s = wr → zcst K st < zcst K s ∨ (zcst K st = zcst K s ∧ st ≤ s)) ∧ wy = zcnt (fun s => S s ∧ zds K e w s = wr) 128
theorem zNo_u {K : Int → Int} {e w : Int} {S : Int → Prop} {a1 a2 a3 b1 b2 b3 : Int} (h : zNo K e w S a1 a2 a3) (g : zNo K e w S b1 b2 b3) : a1 = b1 ∧ a2 = b2 ∧ a3 = b3 := by
  obtain ⟨h1, ⟨h2, h3, h4⟩, h5, h6⟩ := h
  obtain ⟨g1, ⟨g2, g3, g4⟩, g5, g6⟩ := g
  have x1 := h1 b2 g2.1 g2.2 g3
  have x2 := g1 a2 h2.1 h2.2 h3
  have e1 : a1 = b1 := by omega
  subst e1
  have x3 := h5 b2 g2.1 g2.2 g3 g4
  have x4 := g5 a2 h2.1 h2.2 h3 h4
  exact ⟨rfl, by omega, by rw [h6, g6]⟩
theorem zNo_S {K : Int → Int} {e w : Int} {S S' : Int → Prop} {a1 a2 a3 : Int} (q : ∀ s, 0 ≤ s → s < 128 → (S s ↔ S' s)) (h : zNo K e w S a1 a2 a3) : zNo K e w S' a1 a2 a3 := by
  obtain ⟨h1, ⟨h2, h3, h4⟩, h5, h6⟩ := h
  exact ⟨fun s s1 s2 s3 => h1 s s1 s2 ((q s s1 s2).2 s3), ⟨h2, (q _ h2.1 h2.2).1 h3, h4⟩, fun s s1 s2 s3 => h5 s s1 s2 ((q s s1 s2).2 s3), by rw [h6]; exact zcnt_congr fun s s1 s2 => by rw [q s s1 (by omega)]⟩
theorem zds_r (K : Int → Int) (e w s : Int) : 0 ≤ zds K e w s ∧ zds K e w s ≤ 2 := by
  unfold zds
  (repeat' split) <;> omega
/-- nears: by sets -/
theorem c206 {i N : Int} {W : zM} (hS : zStr T) (hK : zKok (W 132)) (hi : 0 ≤ i ∧ i < N) (hN : W 132 364 = N) (hN2 : N ≤ 16) (h42 : ∀ s, 0 ≤ s → s < 128 → W 142 s = zsgn (W 132) 0 s ∧ W 143 s = zsgn (W 132) 1 s) : zwp (zcall 206 [(2, 130), (0, i)] T W) fun r T' V' => r = (9, 0) ∧ T' = T ∧ (∀ r, r ≠ 130 → V' r = W r) ∧ (∀ j, j < 25 ∨ 27 < j → V' 130 j = W 130 j) ∧ zNo (W 132) (W 132 (332 + i)) (W 132 (348 + N - 1 - i)) (fun _ => True) (V' 130 25) (V' 130 26) (V' 130 27) := by
  have hc := hK.cok
  rw [e206, b206_0 hS (by omega) (by omega) (by omega) (by omega) (by omega) (by omega), hN]
  obtain ⟨a, ha⟩ : ∃ a, W 132 (332 + i) = a := ⟨_, rfl⟩
  obtain ⟨b, hb⟩ : ∃ b, W 132 (348 + N - 1 - i) = b := ⟨_, rfl⟩
  rw [ha, hb]
  refine zup (α := zM × zV) (fun k c => (∀ r, r ≠ 130 → c.1 r = W r) ∧ (∀ j, j < 25 ∨ 27 < j → c.1 130 j = W 130 j) ∧ ((k = 0 ∧ c.1 130 25 = 3) ∨ zNo (W 132) a b (fun s => s < k) (c.1 130 25) (c.1 130 26) (c.1 130 27))) (fun k c => zwp (ev 206 41 [(2, 130), (0, i), (0, a), (0, b), (0, k), c.2] [] T c.1) fun r T' V' => r = (9, 0) ∧ T' = T ∧ (∀ r, r ≠ 130 → V' r = W r) ∧ (∀ j, j < 25 ∨ 27 < j → V' 130 j = W 130 j) ∧ zNo (W 132) a b (fun _ => True) (V' 130 25) (V' 130 26) (V' 130 27)) (lo := 0) (hi := 128) (by decide) ?_ ?_ (zwr W 130 25 3, (9, 0)) ⟨fun r hr => zwr_ne hr, fun j hj => by show zwr W 130 25 3 130 j = _; rw [zwr_same, if_neg (by omega)], Or.inl ⟨rfl, by show zwr W 130 25 3 130 25 = _; rw [zwr_same, if_pos rfl]⟩⟩
  · intro c hcc
    show zwp (ev 206 41 _ _ _ _) _
    rw [b206_41, if_pos (by decide), b206_163]
    refine zwp_ret ⟨rfl, rfl, hcc.1, hcc.2.1, ?_⟩
    rcases hcc.2.2 with q | q
    · omega
    · exact zNo_S (fun s s1 s2 => ⟨fun _ => trivial, fun _ => s2⟩) q
  · intro k c k1 k2 hcc next
    show zwp (ev 206 41 _ _ _ _) _
    obtain ⟨c1, c2, c3⟩ := hcc
    obtain ⟨v1, v2⟩ := h42 k k1 k2
    have e142 : c.1 142 k = zsgn (W 132) 0 k := by rw [c1 142 (by decide), v1]
    have e143 : c.1 143 k = zsgn (W 132) 1 k := by rw [c1 143 (by decide), v2]
    have e132 : c.1 132 = W 132 := c1 132 (by decide)
    have dr := zds_r (W 132) a b k
    have cr := zcst_r hc k
    have toD : zwp (ev 206 41 [(2, 130), (0, i), (0, a), (0, b), (0, k), c.2] [] T c.1) (fun r T' V' => r = (9, 0) ∧ T' = T ∧ (∀ r, r ≠ 130 → V' r = W r) ∧ (∀ j, j < 25 ∨ 27 < j → V' 130 j = W 130 j) ∧ zNo (W 132) a b (fun _ => True) (V' 130 25) (V' 130 26) (V' 130 27)) ↔ zwp (if zds (W 132) a b k ≤ c.1 130 25 then ev 206 96 [(2, 130), (0, i), (0, a), (0, b), (0, k), (0, zds (W 132) a b k)] [] T c.1 else ev 206 93 [(2, 130), (0, i), (0, a), (0, b), (0, k), (0, zds (W 132) a b k)] [] T c.1) (fun r T' V' => r = (9, 0) ∧ T' = T ∧ (∀ r, r ≠ 130 → V' r = W r) ∧ (∀ j, j < 25 ∨ 27 < j → V' 130 j = W 130 j) ∧ zNo (W 132) a b (fun _ => True) (V' 130 25) (V' 130 26) (V' 130 27)) := by
      rw [b206_41, if_neg (by omega), b206_49 hS ⟨k1, k2⟩, e142]
      unfold zds
      by_cases z1 : zsgn (W 132) 0 k = a
      · rw [if_pos z1, if_pos z1, b206_60, b206_65 hS ⟨k1, k2⟩, e143]
        by_cases z2 : zsgn (W 132) 1 k = b
        · rw [if_pos z2, if_pos z2, b206_76, b206_81 hS (by decide)]
        · rw [if_neg z2, if_neg z2, b206_80, b206_81 hS (by decide)]
      · rw [if_neg z1, if_neg z1, b206_64, b206_65 hS ⟨k1, k2⟩, e143]
        by_cases z2 : zsgn (W 132) 1 k = b
        · rw [if_pos z2, if_pos z2, b206_76, b206_81 hS (by decide)]
        · rw [if_neg z2, if_neg z2, b206_80, b206_81 hS (by decide)]
    rw [toD]
    generalize hd : zds (W 132) a b k = d at *
    -- a set that is nearer
    have fresh : ∀ (P : Prop), d < c.1 130 25 → zNo (W 132) a b (fun s => s < k + 1) d k 1 := fun _ hlt => by
      have low : ∀ s, 0 ≤ s → s < 128 → s < k → d < zds (W 132) a b s := fun s s1 s2 s3 => by
        rcases c3 with q | q
        · omega
        · have := q.1 s s1 s2 s3; omega
      refine ⟨fun s s1 s2 s3 => ?_, ⟨⟨k1, k2⟩, by omega, hd⟩, fun s s1 s2 s3 s4 => ?_, ?_⟩
      · by_cases e : s = k
        · rw [e, hd]; omega
        · have := low s s1 s2 (by omega); omega
      · by_cases e : s = k
        · subst e; right; omega
        · have := low s s1 s2 (by omega); omega
      · have z := zcnt_add (p := fun s => False ∧ s = s) (q := fun s => s < k + 1 ∧ zds (W 132) a b s = d ∧ 0 ≤ s ∧ s < 128) (n := 128) (s0 := k) (by omega) (fun q => q.1) (fun s => ⟨fun q => by
          by_cases e : s = k
          · exact Or.inr e
          · have := low s q.2.2.1 q.2.2.2 (by omega); omega, fun q => by
          rcases q with q | q
          · exact q.1.elim
          · rw [q]; exact ⟨by omega, hd, k1, k2⟩⟩)
        have z0 : zcnt (fun s => False ∧ s = s) 128 = 0 := by
          have := zcnt_r (fun s => False ∧ s = s) 128
          by_cases q : 0 < zcnt (fun s => False ∧ s = s) 128
          · obtain ⟨s, -, q2⟩ := zcnt_pos.1 q
            exact q2.1.elim
          · omega
        rw [z0] at z
        have z1 : zcnt (fun s => s < k + 1 ∧ zds (W 132) a b s = d ∧ 0 ≤ s ∧ s < 128) 128 = 1 := by omega
        exact z1.symm.trans <| zcnt_congr fun s s1 s2 => ⟨fun q => ⟨q.1, q.2.1⟩, fun q => ⟨q.1, q.2, s1, by omega⟩⟩
    by_cases g1 : d ≤ c.1 130 25
    · rw [if_pos g1, b206_96 hS]
      by_cases g2 : c.1 130 25 ≤ d
      · have ge : d = c.1 130 25 := by omega
        have q : zNo (W 132) a b (fun s => s < k) (c.1 130 25) (c.1 130 26) (c.1 130 27) := by
          rcases c3 with q | q
          · omega
          · exact q
        obtain ⟨q1, ⟨q2, q3, q4⟩, q5, q6⟩ := q
        have wr := zcnt_r (fun s => s < k ∧ zds (W 132) a b s = c.1 130 25) 128
        have wy : c.1 130 27 + 1 = zcnt (fun s => s < k + 1 ∧ zds (W 132) a b s = c.1 130 25) 128 := by
          rw [q6]
          exact (zcnt_add (s0 := k) (by omega) (fun z => by have := z.1; omega) (fun s => ⟨fun z => by
            by_cases e : s = k
            · exact Or.inr e
            · exact Or.inl ⟨by have := z.1; omega, z.2⟩, fun z => by
            rcases z with z | z
            · exact ⟨by have := z.1; omega, z.2⟩
            · rw [z]; exact ⟨by omega, by rw [hd]; exact ge⟩⟩)).symm
        have wr2 := zcnt_r (fun s => s < k + 1 ∧ zds (W 132) a b s = c.1 130 25) 128
        rw [if_pos g2, b206_110 hS (by omega), b206_116 hS]
        have r25 : ∀ y, zwr c.1 130 27 y 130 25 = c.1 130 25 := fun y => by rw [zwr_same, if_neg (by decide)]
        have r26 : ∀ y, zwr c.1 130 27 y 130 26 = c.1 130 26 := fun y => by rw [zwr_same, if_neg (by decide)]
        have r132 : ∀ y, zwr c.1 130 27 y 132 = W 132 := fun y => by rw [zwr_ne (by decide), e132]
        have hc3 : ∀ y, zcok (zwr c.1 130 27 y 132) := fun y => by rw [r132]; exact hc
        rw [r25, if_neg (by omega), b206_128 hS, c199 hS (hc3 _)]
        simp only [Option.bind_some, zpush0]
        rw [b206_134 hS, r26, c199 hS (hc3 _)]
        simp only [Option.bind_some, zpush0]
        rw [b206_142, r132]
        by_cases g3 : zcst (W 132) (c.1 130 26) ≤ zcst (W 132) k
        · rw [if_pos g3, b206_151 hS, b206_157 (by omega)]
          refine next (zwr (zwr c.1 130 27 (c.1 130 27 + 1)) 130 25 d, (0, d)) ⟨fun r hr => by show zwr _ 130 25 d r = _; rw [zwr_ne hr, zwr_ne hr, c1 r hr], fun j hj => by show zwr _ 130 25 d 130 j = _; rw [zwr_same, if_neg (by omega), zwr_same, if_neg (by omega), c2 j hj], Or.inr ?_⟩
          have f1 : zwr (zwr c.1 130 27 (c.1 130 27 + 1)) 130 25 d 130 25 = c.1 130 25 := by rw [zwr_same, if_pos rfl, ge]
          have f2 : zwr (zwr c.1 130 27 (c.1 130 27 + 1)) 130 25 d 130 26 = c.1 130 26 := by rw [zwr_same, if_neg (by decide), zwr_same, if_neg (by decide)]
          have f3 : zwr (zwr c.1 130 27 (c.1 130 27 + 1)) 130 25 d 130 27 = c.1 130 27 + 1 := by rw [zwr_same, if_neg (by decide), zwr_same, if_pos rfl]
          show zNo _ _ _ _ (zwr (zwr c.1 130 27 (c.1 130 27 + 1)) 130 25 d 130 25) (zwr (zwr c.1 130 27 (c.1 130 27 + 1)) 130 25 d 130 26) (zwr (zwr c.1 130 27 (c.1 130 27 + 1)) 130 25 d 130 27)
          rw [f1, f2, f3]
          refine ⟨fun s s1 s2 s3 => ?_, ⟨q2, by show c.1 130 26 < k + 1; have : c.1 130 26 < k := q3; omega, q4⟩, fun s s1 s2 s3 s4 => ?_, wy⟩
          · by_cases e : s = k
            · rw [e, hd]; omega
            · exact q1 s s1 s2 (by show s < k; have : s < k + 1 := s3; omega)
          · by_cases e : s = k
            · subst e; have : c.1 130 26 < s := q3; omega
            · exact q5 s s1 s2 (by show s < k; have : s < k + 1 := s3; omega) s4
        · rw [if_neg g3, b206_145 hS, b206_151 hS, b206_157 (by omega)]
          refine next (zwr (zwr (zwr c.1 130 27 (c.1 130 27 + 1)) 130 26 k) 130 25 d, (0, d)) ⟨fun r hr => by show zwr _ 130 25 d r = _; rw [zwr_ne hr, zwr_ne hr, zwr_ne hr, c1 r hr], fun j hj => by show zwr _ 130 25 d 130 j = _; rw [zwr_same, if_neg (by omega), zwr_same, if_neg (by omega), zwr_same, if_neg (by omega), c2 j hj], Or.inr ?_⟩
          have f1 : zwr (zwr (zwr c.1 130 27 (c.1 130 27 + 1)) 130 26 k) 130 25 d 130 25 = c.1 130 25 := by rw [zwr_same, if_pos rfl, ge]
          have f2 : zwr (zwr (zwr c.1 130 27 (c.1 130 27 + 1)) 130 26 k) 130 25 d 130 26 = k := by rw [zwr_same, if_neg (by decide), zwr_same, if_pos rfl]
          have f3 : zwr (zwr (zwr c.1 130 27 (c.1 130 27 + 1)) 130 26 k) 130 25 d 130 27 = c.1 130 27 + 1 := by rw [zwr_same, if_neg (by decide), zwr_same, if_neg (by decide), zwr_same, if_pos rfl]
          show zNo _ _ _ _ (zwr (zwr (zwr c.1 130 27 (c.1 130 27 + 1)) 130 26 k) 130 25 d 130 25) (zwr (zwr (zwr c.1 130 27 (c.1 130 27 + 1)) 130 26 k) 130 25 d 130 26) (zwr (zwr (zwr c.1 130 27 (c.1 130 27 + 1)) 130 26 k) 130 25 d 130 27)
          rw [f1, f2, f3]
          refine ⟨fun s s1 s2 s3 => ?_, ⟨⟨k1, k2⟩, by show k < k + 1; omega, by rw [hd]; exact ge⟩, fun s s1 s2 s3 s4 => ?_, wy⟩
          · by_cases e : s = k
            · rw [e, hd]; omega
            · exact q1 s s1 s2 (by show s < k; have : s < k + 1 := s3; omega)
          · by_cases e : s = k
            · subst e; right; omega
            · have := q5 s s1 s2 (by show s < k; have : s < k + 1 := s3; omega) s4
              left; omega
      · rw [if_neg g2, b206_106, b206_116 hS]
        have r25 : ∀ y, zwr c.1 130 27 y 130 25 = c.1 130 25 := fun y => by rw [zwr_same, if_neg (by decide)]
        rw [r25, if_pos (by omega), b206_145 hS, b206_151 hS, b206_157 (by omega)]
        refine next (zwr (zwr (zwr c.1 130 27 1) 130 26 k) 130 25 d, (0, d)) ⟨fun r hr => by show zwr _ 130 25 d r = _; rw [zwr_ne hr, zwr_ne hr, zwr_ne hr, c1 r hr], fun j hj => by show zwr _ 130 25 d 130 j = _; rw [zwr_same, if_neg (by omega), zwr_same, if_neg (by omega), zwr_same, if_neg (by omega), c2 j hj], Or.inr ?_⟩
        have f1 : zwr (zwr (zwr c.1 130 27 1) 130 26 k) 130 25 d 130 25 = d := by rw [zwr_same, if_pos rfl]
        have f2 : zwr (zwr (zwr c.1 130 27 1) 130 26 k) 130 25 d 130 26 = k := by rw [zwr_same, if_neg (by decide), zwr_same, if_pos rfl]
        have f3 : zwr (zwr (zwr c.1 130 27 1) 130 26 k) 130 25 d 130 27 = 1 := by rw [zwr_same, if_neg (by decide), zwr_same, if_neg (by decide), zwr_same, if_pos rfl]
        show zNo _ _ _ _ (zwr (zwr (zwr c.1 130 27 1) 130 26 k) 130 25 d 130 25) (zwr (zwr (zwr c.1 130 27 1) 130 26 k) 130 25 d 130 26) (zwr (zwr (zwr c.1 130 27 1) 130 26 k) 130 25 d 130 27)
        rw [f1, f2, f3]
        exact fresh True (by omega)
    · rw [if_neg g1, b206_93, b206_157 (by omega)]
      refine next (c.1, (0, d)) ⟨c1, c2, Or.inr ?_⟩
      rcases c3 with q | q
      · omega
      · obtain ⟨q1, ⟨q2, q3, q4⟩, q5, q6⟩ := q
        show zNo (W 132) a b (fun s => s < k + 1) (c.1 130 25) (c.1 130 26) (c.1 130 27)
        refine ⟨fun s s1 s2 s3 => ?_, ⟨q2, by show c.1 130 26 < k + 1; have : c.1 130 26 < k := q3; omega, q4⟩, fun s s1 s2 s3 s4 => ?_, ?_⟩
        · by_cases e : s = k
          · rw [e, hd]; omega
          · exact q1 s s1 s2 (by show s < k; have : s < k + 1 := s3; omega)
        · have : s ≠ k := fun e => by rw [e, hd] at s4; omega
          exact q5 s s1 s2 (by show s < k; have : s < k + 1 := s3; omega) s4
        · rw [q6]
          refine zcnt_congr fun s s1 s2 => ⟨fun z => ⟨by have := z.1; omega, z.2⟩, fun z => ⟨?_, z.2⟩⟩
          have : s ≠ k := fun e => by have := z.2; rw [e, hd] at this; omega
          have := z.1
          omega
end NEAR
