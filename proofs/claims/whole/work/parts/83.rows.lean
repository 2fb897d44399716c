/-! the rows of the class: a tree of beginnings -/
def zTw (V : zM) (q : Int) (K : Int → Int) (t : Int) : Prop :=
  (V q 5 = K (284 + t) ∧ 0 ≤ K (284 + t) ∧ K (284 + t) ≤ 8) ∧ (V q 9 = K (374 + t) ∧ 0 ≤ K (374 + t) ∧ K (374 + t) ≤ 4) ∧
  (∀ w, 0 ≤ w → w < K (284 + t) → V (q + 3) w = zmn K t w ∧ V (q + 4) w = zwl K t w ∧ (1 ≤ zwl K t w ∧ zwl K t w ≤ 6) ∧ ∀ i, 0 ≤ i → i < 6 → V (q + 5) (w * 6 + i) = K (156 + 8 * (8 * t + w) + (2 + i)) ∧ 0 ≤ K (156 + 8 * (8 * t + w) + (2 + i)) ∧ K (156 + 8 * (8 * t + w) + (2 + i)) ≤ 25) ∧
  (∀ i, 0 ≤ i → i < 4 → V (q + 7) i = K (366 + 4 * t + i))
theorem zTw_congr {V V' : zM} {q t : Int} {K : Int → Int} (e : ∀ d, 0 ≤ d → d ≤ 7 → V' (q + d) = V (q + d)) (h : zTw V q K t) : zTw V' q K t := by
  have e0 : V' q = V q := by have := e 0 (by decide) (by decide); rwa [Int.add_zero] at this
  unfold zTw at h ⊢
  rw [e0, e 3 (by decide) (by decide), e 4 (by decide) (by decide), e 5 (by decide) (by decide), e 7 (by decide) (by decide)]
  exact h
section ROWS
variable {T : zT} {V : zM} {b : Int}
/-- what addNode leaves -/
def zAdd (V V' : zM) (b nd k : Int) : Prop := (∀ r, r < b ∨ b + 5 < r → V' r = V r) ∧ (∀ j, V' b j = if j = 5 then nd + 1 else V b j) ∧ (∀ z, V' (b + 1) z = if z = nd then k else V (b + 1) z) ∧ (∀ z, V' (b + 2) z = if z = nd then -1 else V (b + 2) z) ∧ (∀ z, V' (b + 3) z = if z = nd then -1 else V (b + 3) z) ∧ (∀ z, V' (b + 4) z = if z = nd then -1 else V (b + 4) z) ∧ (∀ z, V' (b + 5) z = if z = nd then 0 else V (b + 5) z)
theorem c103 {nd k : Int} (h : zRows T b) (hn : V b 5 = nd) (h2 : 0 ≤ nd ∧ nd ≤ 195) : ∃ V', zcall 103 [(2, b), (0, k)] T V = some ((0, nd), T, V') ∧ zAdd V V' b nd k := by
  have e : min (V b 5) 195 = nd := by omega
  refine ⟨_, by rw [e103, b103_0 h (by omega) (by omega), e], ?_⟩
  refine ⟨fun r hr => ?_, fun j => ?_, fun z => ?_, fun z => ?_, fun z => ?_, fun z => ?_, fun z => ?_⟩ <;> simp (disch := omega) only [zwr_ne, zwr_same]
/-- along a row of siblings -/
theorem c105w {x s : Int} (h : zRows T b) {Q : zV → zT → zM → Prop} (l : List Int) : ∀ (p i : Int), zch (V (b + 3)) p l → 0 ≤ i → i + (l.length : Int) ≤ 8 → (∀ y, y ∈ l → 0 ≤ y ∧ y < 196) → (∀ y, y ∈ l → V (b + 1) y = s → Q (0, y) T V) → ((∀ y, y ∈ l → V (b + 1) y ≠ s) → ∀ p' i', zwp (ev 105 47 [(2, b), (0, x), (0, s), (0, p'), (0, i')] [] T V) Q) → zwp (ev 105 10 [(2, b), (0, x), (0, s), (0, p), (0, i)] [] T V) Q := by
  induction l with
  | nil =>
    intro p i hc hi hl hr hf hno
    rw [b105_10]
    by_cases g : 8 ≤ i
    · rw [if_pos g]; exact hno (fun y hy => absurd hy List.not_mem_nil) _ _
    · rw [if_neg g, b105_17, if_pos (show p = -1 from hc)]; exact hno (fun y hy => absurd hy List.not_mem_nil) _ _
  | cons y l ih =>
    intro p i hc hi hl hr hf hno
    obtain ⟨hp, hc2⟩ := hc
    rw [List.length_cons] at hl
    have ry := hr y (List.mem_cons_self ..)
    subst hp
    rw [b105_10, if_neg (by omega), b105_17, if_neg (by omega), b105_22 h ry]
    by_cases g : V (b + 1) p = s
    · rw [if_pos g, b105_32]
      exact zwp_ret (hf p (List.mem_cons_self ..) g)
    · rw [if_neg g, b105_34 h ry (by omega)]
      refine ih _ _ hc2 (by omega) (by omega) (fun z hz => hr z (List.mem_cons_of_mem _ hz)) (fun z hz => hf z (List.mem_cons_of_mem _ hz)) (fun q => hno (fun z hz => ?_))
      rcases List.mem_cons.1 hz with e | e
      · rw [e]; exact g
      · exact q z e
/-- what childOf leaves where there is none -/
def zAdc (V V' : zM) (b nd x k : Int) : Prop := (∀ r, r < b ∨ b + 5 < r → V' r = V r) ∧ (∀ j, V' b j = if j = 5 then nd + 1 else V b j) ∧ (∀ z, V' (b + 1) z = if z = nd then k else V (b + 1) z) ∧ (∀ z, V' (b + 2) z = if z = x then nd else if z = nd then -1 else V (b + 2) z) ∧ (∀ z, V' (b + 3) z = if z = nd then V (b + 2) x else V (b + 3) z) ∧ (∀ z, V' (b + 4) z = if z = nd then -1 else V (b + 4) z) ∧ (∀ z, V' (b + 5) z = if z = nd then 0 else V (b + 5) z)
theorem c105 {nd x s : Int} {l : List Int} (h : zRows T b) (hn : V b 5 = nd) (h2 : nd ≤ 195) (hx : 0 ≤ x ∧ x < nd) (hc : zch (V (b + 3)) (V (b + 2) x) l) (hl : l.length ≤ 8) (hr : ∀ y, y ∈ l → 0 ≤ y ∧ y < 196) : zwp (zcall 105 [(2, b), (0, x), (0, s)] T V) fun r T' V' => T' = T ∧ ((∃ y, r = (0, y) ∧ (y ∈ l ∧ V (b + 1) y = s) ∧ V' = V) ∨ (r = (0, nd) ∧ (∀ y, y ∈ l → V (b + 1) y ≠ s) ∧ zAdc V V' b nd x s)) := by
  rw [e105, b105_0 h (by omega)]
  refine c105w h l _ 0 hc (by decide) (by omega) hr (fun y hy e => ⟨rfl, Or.inl ⟨y, rfl, ⟨hy, e⟩, rfl⟩⟩) (fun q p' i' => ?_)
  obtain ⟨U, u1, ⟨a0, a1, a2, a3, a4, a5, a6⟩⟩ := c103 (V := V) (k := s) h hn (by omega)
  rw [b105_47 h, u1]
  simp only [Option.bind_some, zpush0]
  have ex : U (b + 2) x = V (b + 2) x := by rw [a3, if_neg (by omega)]
  rw [b105_52, if_neg (by omega), b105_60 h (by omega) (by omega), b105_81, ex]
  refine zwp_ret ⟨rfl, Or.inr ⟨rfl, q, ?_⟩⟩
  refine ⟨fun r hr => by rw [zwr_ne (by omega), zwr_ne (by omega), a0 r hr], fun j => by rw [zwr_ne (by omega), zwr_ne (by omega), a1], fun z => by rw [zwr_ne (by omega), zwr_ne (by omega), a2], fun z => by rw [zwr_same, zwr_ne (by omega), a3], fun z => ?_, fun z => by rw [zwr_ne (by omega), zwr_ne (by omega), a5], fun z => by rw [zwr_ne (by omega), zwr_ne (by omega), a6]⟩
  rw [zwr_ne (by omega), zwr_same, a4]
  by_cases e : z = nd
  · rw [if_pos e, if_pos e]
  · rw [if_neg e, if_neg e, if_neg e]
/-- the whole tree, words below w in it -/
def zTF (V : zM) (b : Int) (K : Int → Int) (a t m w n nd : Int) (M N O : Int → Int) (L : Int → List Int) : Prop := (V b 5 = nd ∧ 1 ≤ nd) ∧ zTi K a t m w n nd (V (b + 1)) (V (b + 2)) (V (b + 3)) M N O L ∧ zTe K a t m w nd M N O (V (b + 4)) (V (b + 5))
abbrev zG : Type := (Int → Int) × (Int → Int) × (Int → Int) × (Int → List Int)
theorem zTF_b {K : Int → Int} {a t m w n nd : Int} {M N O : Int → Int} {L : Int → List Int} (h : zTF V b K a t m w n nd M N O L) (hW : 0 ≤ K (284 + t) ∧ K (284 + t) ≤ 8) (hm : 0 ≤ m ∧ m < zms K a t ∧ zms K a t ≤ 4) (hw : w < K (284 + t)) (hn : n < 6) : nd ≤ 195 := by
  have h9 := h.2.1.2.2.2.2.2.2.2.2
  have e1 : 6 * K (284 + t) * m ≤ 6 * K (284 + t) * (zms K a t - 1) := Int.mul_le_mul_of_nonneg_left (by omega) (by omega)
  have e2 : 6 * K (284 + t) * (zms K a t - 1) ≤ 48 * (zms K a t - 1) := Int.mul_le_mul_of_nonneg_right (by omega) (by omega)
  omega
theorem c104 {q t w m nd : Int} {K : Int → Int} {a : Int} {M N O : Int → Int} {L : Int → List Int} (h : zRows T b) (hq : zTongue T q) (hap : zap b 8 q 8) (ht : t = 0 ∨ t = 1) (hw : zTw V q K t) (hw2 : 0 ≤ w ∧ w < K (284 + t)) (hm : 0 ≤ m ∧ m < zms K a t ∧ zms K a t ≤ 4) (hft : zfits K a t w m) (hT : zTF V b K a t m w 0 nd M N O L) : zwp (zcall 104 [(2, b), (0, m), (2, q), (0, w), (0, t)] T V) fun r T' V' => T' = T ∧ (∀ r, r < b ∨ b + 5 < r → V' r = V r) ∧ (∀ j, j ≠ 5 → V' b j = V b j) ∧ ∃ x nd' M' N' O' L', r = (0, x) ∧ (0 ≤ x ∧ x < nd') ∧ (M' x = m ∧ N' x = zwl K t w) ∧ zalk K t w (O' x) (zwl K t w) ∧ zTF V' b K a t m w (zwl K t w) nd' M' N' O' L' := by
  obtain ⟨hw1, hw3, hw4, hw5⟩ := hw
  obtain ⟨v1, v2, v3, v4⟩ := hw4 w hw2.1 hw2.2
  unfold zap at hap
  rw [e104, b104_0 hq (by omega), v2]
  have root := hT.2.1.2.1 m hm.1 hm.2.1
  refine zup (α := zM × Int × Int × zG) (fun i c => (∀ r, r < b ∨ b + 5 < r → c.1 r = V r) ∧ (∀ j, j ≠ 5 → c.1 b j = V b j) ∧ (0 ≤ c.2.1 ∧ c.2.1 < c.2.2.1) ∧ (c.2.2.2.1 c.2.1 = m ∧ c.2.2.2.2.1 c.2.1 = i) ∧ (i = 0 ∨ zalk K t w (c.2.2.2.2.2.1 c.2.1) i) ∧ zTF c.1 b K a t m w i c.2.2.1 c.2.2.2.1 c.2.2.2.2.1 c.2.2.2.2.2.1 c.2.2.2.2.2.2) (fun i c => zwp (ev 104 14 [(2, b), (0, m), (2, q), (0, w), (0, t), (0, zwl K t w), (0, c.2.1), (0, i)] [] T c.1) fun r T' V' => T' = T ∧ (∀ r, r < b ∨ b + 5 < r → V' r = V r) ∧ (∀ j, j ≠ 5 → V' b j = V b j) ∧ ∃ x nd' M' N' O' L', r = (0, x) ∧ (0 ≤ x ∧ x < nd') ∧ (M' x = m ∧ N' x = zwl K t w) ∧ zalk K t w (O' x) (zwl K t w) ∧ zTF V' b K a t m w (zwl K t w) nd' M' N' O' L') (lo := 0) (hi := zwl K t w) (by omega) ?_ ?_ (V, m, nd, M, N, O, L) ⟨fun r _ => rfl, fun j _ => rfl, ⟨hm.1, root.1⟩, ⟨root.2.1, root.2.2⟩, Or.inl rfl, hT⟩
  · intro c hc
    show zwp (ev 104 14 _ _ _ _) _
    obtain ⟨c1, c2, c3, c4, c5, c6⟩ := hc
    rw [b104_14, if_pos (by omega), b104_57]
    exact zwp_ret ⟨rfl, c1, c2, c.2.1, c.2.2.1, c.2.2.2.1, c.2.2.2.2.1, c.2.2.2.2.2.1, c.2.2.2.2.2.2, rfl, c3, c4, c5.resolve_left (by omega), c6⟩
  · intro i c i1 i2 hc next
    show zwp (ev 104 14 _ _ _ _) _
    obtain ⟨c1, c2, c3, c4, c5, c6⟩ := hc
    have nb := zTF_b c6 hw1.2 hm hw2.2 (by omega)
    obtain ⟨⟨n1, n2⟩, ti, te⟩ := c6
    have lt := ti.2.2.2.2.2.2.1 c.2.1 c3.1 c3.2
    have ll : ((c.2.2.2.2.2.2 c.2.1).length : Int) ≤ 8 := by
      unfold zlim at lt
      repeat' split at lt
      all_goals omega
    have rng : ∀ y, y ∈ c.2.2.2.2.2.2 c.2.1 → 0 ≤ y ∧ y < 196 := fun y hy => by
      have := (ti.2.2.2.2.1 c.2.1 c3.1 c3.2 y hy).1
      omega
    -- the letter
    have letter : ∀ Q, zwp (ev 104 14 [(2, b), (0, m), (2, q), (0, w), (0, t), (0, zwl K t w), (0, c.2.1), (0, i)] [] T c.1) Q ↔ zwp ((zcall 105 [(2, b), (0, c.2.1), (0, zla K t w i)] T c.1).bind fun x => ev 104 49 [(2, b), (0, m), (2, q), (0, w), (0, t), (0, zwl K t w), (0, c.2.1), (0, i)] (z_push x.1 []) x.2.1 x.2.2) Q := fun Q => by
      rw [b104_14, if_neg (by omega), b104_21]
      unfold zla
      rcases ht with e | e
      · subst e
        rw [if_pos rfl, if_pos rfl, b104_41, b104_43 hq, c76 hq (by omega) (by omega), c1 (q + 5) (by omega), (v4 i i1 (by omega)).1]
        simp only [Option.bind_some, zpush0]
        rw [b104_46 h]
      · subst e
        rw [if_neg (by decide), if_neg (by decide), b104_31 (by omega) (by omega), b104_43 hq, c76 hq (by omega) (by omega), c1 (q + 5) (by omega), (v4 (zwl K 1 w - 1 - i) (by omega) (by omega)).1]
        simp only [Option.bind_some, zpush0]
        rw [b104_46 h]
    rw [letter]
    refine zwp_seq (c105 (l := c.2.2.2.2.2.2 c.2.1) h n1 nb c3 (ti.2.2.2.1 c.2.1 c3.1 c3.2) (by omega) rng) ?_
    rintro r T1 V1 ⟨rfl, (⟨y, rfl, ⟨y1, y2⟩, rfl⟩ | ⟨rfl, y1, y2⟩)⟩
    · simp only [zpush0]
      rw [b104_49 (by omega)]
      obtain ⟨t1, t2, t3, t4⟩ := zTi_found ti c3 c4 hw2.1 c5 i2 y1 y2
      exact next (c.1, y, c.2.2.1, c.2.2.2) ⟨c1, c2, t2, t3, Or.inr t4, ⟨n1, n2⟩, t1, te⟩
    · simp only [zpush0]
      rw [b104_49 (by omega)]
      obtain ⟨z0, z1, z2, z3, z4, z5, z6⟩ := y2
      obtain ⟨t1, t2⟩ := zTi_new ti c3 c4 hw2 hm.2.1 c5 ⟨i2, by omega⟩ hft y1 z2 z3 z4
      refine next (V1, c.2.2.1, c.2.2.1 + 1, zku c.2.2.2.1 c.2.2.1 m, zku c.2.2.2.2.1 c.2.2.1 (i + 1), zku c.2.2.2.2.2.1 c.2.2.1 w, fun z => if z = c.2.1 then c.2.2.1 :: c.2.2.2.2.2.2 c.2.1 else if z = c.2.2.1 then [] else c.2.2.2.2.2.2 z) ⟨fun r hr => by show V1 r = V r; rw [z0 r hr, c1 r hr], fun j hj => by show V1 b j = V b j; rw [z1, if_neg hj, c2 j hj], ⟨by show 0 ≤ c.2.2.1; omega, by show c.2.2.1 < c.2.2.1 + 1; omega⟩, ⟨if_pos rfl, if_pos rfl⟩, Or.inr ?_, ⟨by show V1 b 5 = c.2.2.1 + 1; rw [z1, if_pos rfl], by show 1 ≤ c.2.2.1 + 1; omega⟩, t1, ?_⟩
      · show zalk K t w (if c.2.2.1 = c.2.2.1 then w else _) (i + 1)
        rw [if_pos rfl]
        exact ⟨by omega, by omega, fun k _ _ => rfl⟩
      · show zTe K a t m w (c.2.2.1 + 1) (zku c.2.2.2.1 c.2.2.1 m) (zku c.2.2.2.2.1 c.2.2.1 (i + 1)) (zku c.2.2.2.2.2.1 c.2.2.1 w) (V1 (b + 4)) (V1 (b + 5))
        exact zTe_new te t2 (fun z s1 s2 => by rw [z5, if_neg (by omega)]) (by rw [z5, if_pos rfl]) (fun z s1 s2 => by rw [z6, if_neg (by omega)]) (by rw [z6, if_pos rfl])
/-- the tree as the steps of the places -/
def zTri (V : zM) (b : Int) (K : Int → Int) (a t nd : Int) (Q : Int → Int) (L : Int → List Int) : Prop :=
  (V b 5 = nd ∧ 1 ≤ nd ∧ nd ≤ 196) ∧ Q 0 = 0 ∧ ∀ x, 0 ≤ x → x < nd →
    0 ≤ Q x ∧ zch (V (b + 3)) (V (b + 2) x) (L x) ∧ (L x).length ≤ 8 ∧ (∀ y, y ∈ L x → (0 ≤ y ∧ y < nd) ∧ (0 ≤ V (b + 1) y ∧ V (b + 1) y < 26) ∧ zdel K a t (Q x) (V (b + 1) y) = Q y) ∧ (L x).Pairwise (fun y z => V (b + 1) y ≠ V (b + 1) z) ∧ (∀ s, 0 ≤ s → s < 26 → zdel K a t (Q x) s ≠ -1 → ∃ y, y ∈ L x ∧ V (b + 1) y = s) ∧
    ((V (b + 4) x = -1 ∧ zdel K a t (Q x) 26 = -1) ∨ ((0 ≤ V (b + 4) x ∧ V (b + 4) x < nd) ∧ zdel K a t (Q x) 26 = Q (V (b + 4) x))) ∧ V (b + 5) x = zif (zfin K a t (Q x)) 1 0
theorem zTri_of {q : Int} {K : Int → Int} {a t nd : Int} {M N O : Int → Int} {L : Int → List Int} (ht : t = 0 ∨ t = 1) (hw : zTw V q K t) (hms : 1 ≤ zms K a t ∧ zms K a t ≤ 4) (ha : a = 0 ∨ a = 1) (h : zTF V b K a t (zms K a t) 0 0 nd M N O L) : zTri V b K a t nd (fun x => zpl (M x) (N x) (O x)) L := by
  obtain ⟨hw1, hw3, hw4, hw5⟩ := hw
  obtain ⟨⟨n1, n2⟩, ⟨h1, h2, h3, h4, h5, h6, h7, h8, h9⟩, he⟩ := h
  have lim : ∀ x, 0 ≤ x → x < nd → ∀ k, zlim (K (284 + t)) (zms K a t) 0 0 (M x) k = K (284 + t) := fun x x1 x2 k => by
    have := (h1 x x1 x2).1.1
    unfold zlim
    rw [if_pos (by omega)]
  have r0 := h2 0 (by decide) (by omega)
  have o0 := ((h1 0 (by decide) (by omega)).2.1 r0.2.2).2
  have dec : ∀ x, 0 ≤ x → x < nd → (0 ≤ M x ∧ M x < zms K a t) ∧ (0 ≤ N x ∧ N x ≤ 6) ∧ (0 ≤ O x ∧ O x < 8) ∧ (O x < if N x = 0 then 1 else K (284 + t)) := fun x x1 x2 => by
    obtain ⟨a1, a2, a3⟩ := h1 x x1 x2
    refine ⟨a1.1, a1.2, ?_, ?_⟩
    · by_cases z : N x = 0
      · have := (a2 z).2; omega
      · have := a3 (by omega); rw [lim x x1 x2] at this; omega
    · by_cases z : N x = 0
      · rw [if_pos z]; have := (a2 z).2; omega
      · rw [if_neg z]; have := a3 (by omega); rw [lim x x1 x2] at this; omega
  have pq : ∀ x, 0 ≤ x → x < nd → (zpl (M x) (N x) (O x) / 56 = M x ∧ zpl (M x) (N x) (O x) / 8 % 7 = N x ∧ zpl (M x) (N x) (O x) % 8 = O x) ∧ 0 ≤ zpl (M x) (N x) (O x) := fun x x1 x2 => by
    obtain ⟨d1, d2, d3, -⟩ := dec x x1 x2
    unfold zpl
    omega
  have hval : ∀ x, 0 ≤ x → x < nd → zval K a t (zpl (M x) (N x) (O x)) := fun x x1 x2 => by
    obtain ⟨d1, d2, d3, d4⟩ := dec x x1 x2
    obtain ⟨⟨p1, p2, p3⟩, p4⟩ := pq x x1 x2
    unfold zval
    rw [p1, p2, p3]
    exact ⟨p4, d1.2, d4⟩
  have wt : ((K (284 + t)).toNat : Int) = K (284 + t) := Int.toNat_of_nonneg hw1.2.1
  have del : ∀ x, 0 ≤ x → x < nd → ∀ s, s ≠ 26 → zdel K a t (zpl (M x) (N x) (O x)) s = zif (zlst (zfol K a t (M x) (N x) (O x) s) (K (284 + t)).toNat < K (284 + t)) (zpl (M x) (N x + 1) (zlst (zfol K a t (M x) (N x) (O x) s) (K (284 + t)).toNat)) (-1) := fun x x1 x2 s hs => by
    obtain ⟨⟨p1, p2, p3⟩, p4⟩ := pq x x1 x2
    unfold zdel
    rw [zif_f (by omega), zif_t (hval x x1 x2), zif_f hs, p1, p2, p3]
  have del26 : ∀ x, 0 ≤ x → x < nd → zdel K a t (zpl (M x) (N x) (O x)) 26 = zif (zwho K a t (M x) (N x) (O x)) (if a = 1 then 0 else if M x < zms K a t - 1 then zpl (M x + 1) 0 0 else -1) (-1) := fun x x1 x2 => by
    obtain ⟨⟨p1, p2, p3⟩, p4⟩ := pq x x1 x2
    unfold zdel
    rw [zif_f (by omega), zif_t (hval x x1 x2), zif_t rfl, p1, p2, p3]
  have fin : ∀ x, 0 ≤ x → x < nd → (zfin K a t (zpl (M x) (N x) (O x)) ↔ zwho K a t (M x) (N x) (O x) ∧ M x = zms K a t - 1) := fun x x1 x2 => by
    obtain ⟨⟨p1, p2, p3⟩, p4⟩ := pq x x1 x2
    unfold zfin
    rw [p1, p2, p3]
    exact ⟨fun q => q.elim (fun z => by omega) (fun z => ⟨z.2.2.1, z.2.2.2⟩), fun q => Or.inr ⟨by omega, hval x x1 x2, q.1, q.2⟩⟩
  refine ⟨⟨n1, n2, ?_⟩, ?_, fun x x1 x2 => ?_⟩
  · have e1 : 6 * K (284 + t) * zms K a t ≤ 6 * 8 * zms K a t := Int.mul_le_mul_of_nonneg_right (by omega) (by omega)
    omega
  · show zpl (M 0) (N 0) (O 0) = 0
    rw [r0.2.1, r0.2.2, o0]
    rfl
  · have hx := he x x1 x2
    have d := dec x x1 x2
    have whoE : (∃ u, (0 ≤ u ∧ u < (if M x < zms K a t then K (284 + t) else if M x = zms K a t then 0 else 0)) ∧ 0 < N x ∧ zfits K a t u (M x) ∧ zwl K t u = N x ∧ zalk K t u (O x) (N x)) ↔ zwho K a t (M x) (N x) (O x) := by
      rw [if_pos d.1.2]
      exact Iff.rfl
    rw [whoE] at hx
    refine ⟨(pq x x1 x2).2, h4 x x1 x2, ?_, fun y hy => ?_, h8 x x1 x2, fun s s1 s2 hd => ?_, ?_, ?_⟩
    · have := h7 x x1 x2; rw [lim x x1 x2] at this; omega
    · obtain ⟨y1, y2, y3, y4, y5⟩ := h5 x x1 x2 y hy
      have dy := dec y y1.1 y1.2
      have oy := ((h1 y y1.1 y1.2).2.2 (by omega)).2.1
      rw [lim y y1.1 y1.2] at oy
      obtain ⟨f1, f2, f3, f4⟩ := y4
      have lr : 0 ≤ V (b + 1) y ∧ V (b + 1) y < 26 := by
        rw [← f4]
        obtain ⟨-, -, -, u4⟩ := hw4 (O y) dy.2.2.1.1 oy
        have wl := (hw4 (O y) dy.2.2.1.1 oy).2.2.1
        unfold zla
        rcases ht with e | e
        · subst e
          rw [if_pos rfl]
          have := (u4 (N x) d.2.1.1 (by omega)).2
          omega
        · subst e
          rw [if_neg (by decide)]
          have := (u4 (zwl K 1 (O y) - 1 - N x) (by omega) (by omega)).2
          omega
      refine ⟨y1, lr, ?_⟩
      have el : zlst (zfol K a t (M x) (N x) (O x) (V (b + 1) y)) (K (284 + t)).toNat = O y := zlst_u ⟨dy.2.2.1.1, by omega⟩ (fun _ => ⟨f1, f2, f3, f4⟩) (fun u u1 u2 => y5 u u1 u2)
      show zdel K a t (zpl (M x) (N x) (O x)) (V (b + 1) y) = zpl (M y) (N y) (O y)
      rw [del x x1 x2 _ (by omega), el, zif_t oy, y2, y3]
    · have hd' : zdel K a t (zpl (M x) (N x) (O x)) s ≠ -1 := hd
      rw [del x x1 x2 s (by omega)] at hd'
      by_cases z : zlst (zfol K a t (M x) (N x) (O x) s) (K (284 + t)).toNat < K (284 + t)
      · obtain ⟨g1, g2, -⟩ := zlst_p (zfol K a t (M x) (N x) (O x) s) (K (284 + t)).toNat
        exact h6 x x1 x2 s _ g1.1 (by rw [lim x x1 x2]; exact z) (g2 (by omega))
      · rw [zif_f z] at hd'
        exact absurd rfl hd'
    · show (V (b + 4) x = -1 ∧ zdel K a t (zpl (M x) (N x) (O x)) 26 = -1) ∨ ((0 ≤ V (b + 4) x ∧ V (b + 4) x < nd) ∧ zdel K a t (zpl (M x) (N x) (O x)) 26 = zpl (M (V (b + 4) x)) (N (V (b + 4) x)) (O (V (b + 4) x)))
      rw [del26 x x1 x2]
      by_cases w : zwho K a t (M x) (N x) (O x)
      · have q := (hx.1 w).1
        rw [zif_t w]
        rcases ha with e | e
        · rw [if_neg (by omega)] at q ⊢
          by_cases l : M x < zms K a t - 1
          · rw [if_pos l] at q ⊢
            have rt := h2 (M x + 1) (by omega) (by omega)
            have ot := ((h1 (M x + 1) (by omega) rt.1).2.1 rt.2.2).2
            refine Or.inr ⟨by omega, ?_⟩
            rw [q, rt.2.1, rt.2.2, ot]
          · rw [if_neg l] at q ⊢
            exact Or.inl ⟨q, rfl⟩
        · rw [if_pos e] at q ⊢
          refine Or.inr ⟨by omega, ?_⟩
          rw [q, r0.2.1, r0.2.2, o0]
          rfl
      · rw [zif_f w]
        exact Or.inl ⟨(hx.2 w).1, rfl⟩
    · show V (b + 5) x = zif (zfin K a t (zpl (M x) (N x) (O x))) 1 0
      by_cases w : zwho K a t (M x) (N x) (O x)
      · have q := (hx.1 w).2
        rw [q]
        by_cases l : M x = zms K a t - 1
        · rw [if_pos l, zif_t ((fin x x1 x2).2 ⟨w, l⟩)]
        · rw [if_neg l, zif_f (fun z => l ((fin x x1 x2).1 z).2)]
      · rw [(hx.2 w).2, zif_f (fun z => w ((fin x x1 x2).1 z).1)]
end ROWS
