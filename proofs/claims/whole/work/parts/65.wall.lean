/-! the wall's cells; the yards -/
theorem zTg_k {V V' : zM} {b t : Int} {K K' : Int → Int} (ht : t = 0 ∨ t = 1) (e : ∀ d, 0 ≤ d → d ≤ 7 → V' (b + d) = V (b + d)) (hk : ∀ i, 0 ≤ i → i < 300 ∨ (332 ≤ i ∧ i < 376) → K' i = K i) (h : zTg V b K t) : zTg V' b K' t := by
  obtain ⟨a1, a2, a3, a4, a5, a6, a7, a8, a9⟩ := zTg_congr e h
  refine ⟨fun l g1 g2 => ?_, fun l g1 g2 g3 => ?_, fun w g1 g2 => ?_, fun w c g1 g2 g3 g4 => ?_, fun c g1 g2 => ?_, fun c g1 g2 => ?_, ?_, ?_, ?_⟩
  · rw [hk _ (by omega) (by omega), hk _ (by omega) (by omega)]; exact a1 l g1 g2
  · rw [hk _ (by omega) (by omega)] at g3 ⊢; exact a2 l g1 g2 g3
  · rw [hk _ (by omega) (by omega), hk _ (by omega) (by omega)]; exact a3 w g1 g2
  · rw [hk _ (by omega) (by omega)]; exact a4 w c g1 g2 g3 g4
  · rw [hk _ (by omega) (by omega)]; exact a5 c g1 g2
  · rw [hk _ (by omega) (by omega)]; exact a6 c g1 g2
  · rw [hk _ (by omega) (by omega)]; exact a7
  · rw [hk _ (by omega) (by omega)]; exact a8
  · rw [hk _ (by omega) (by omega)]; exact a9
theorem zSR_wall {V V' : zM} {b : Int} {K K' : Int → Int} (h : zSR V b K) (e : ∀ d, 3 ≤ d → d ≤ 26 → V' (b + d) = V (b + d)) (hk : ∀ i, 0 ≤ i → i < 300 ∨ (332 ≤ i ∧ i < 427) → K' i = K i) (hn : V' b 0 = K' 427) (hw : ∀ c, 0 ≤ c → c < 16 → V' (b + 1) c = K' (300 + c) ∧ V' (b + 2) c = K' (316 + c)) : zSR V' b K' := by
  refine ⟨hn, hw, fun i g1 g2 => ?_, zTg_k (Or.inl rfl) (fun d g1 g2 => ?_) (fun i g1 g2 => hk i g1 (by omega)) h.east, zTg_k (Or.inr rfl) (fun d g1 g2 => ?_) (fun i g1 g2 => hk i g1 (by omega)) h.west, ?_⟩
  · rw [e 3 (by decide) (by decide), e 4 (by decide) (by decide), hk _ (by omega) (by omega), hk _ (by omega) (by omega)]; exact h.mir g1 g2
  · have := e (5 + d) (by omega) (by omega); rwa [← Int.add_assoc] at this
  · have := e (13 + d) (by omega) (by omega); rwa [← Int.add_assoc] at this
  · have := zYr_congr (V' := V') (fun d g1 g2 => by have := e (21 + d) (by omega) (by omega); rwa [← Int.add_assoc] at this) h.yards
    unfold zYr at this ⊢
    rw [hk 426 (by decide) (by decide)]
    refine ⟨this.1, fun y g1 g2 => ?_⟩
    rw [hk _ (by omega) (by omega), hk _ (by omega) (by omega), hk _ (by omega) (by omega), hk _ (by omega) (by omega), hk _ (by omega) (by omega)]
    exact this.2 y g1 g2
theorem zSR_yard {V V' : zM} {b : Int} {K K' : Int → Int} (h : zSR V b K) (e : ∀ d, 0 ≤ d → d ≤ 20 → V' (b + d) = V (b + d)) (hk : ∀ i, 0 ≤ i → i < 376 ∨ i = 427 → K' i = K i) (hy : zYr V' (b + 21) K') : zSR V' b K' := by
  refine ⟨?_, fun c g1 g2 => ?_, fun i g1 g2 => ?_, zTg_k (Or.inl rfl) (fun d g1 g2 => ?_) (fun i g1 g2 => hk i g1 (by omega)) h.east, zTg_k (Or.inr rfl) (fun d g1 g2 => ?_) (fun i g1 g2 => hk i g1 (by omega)) h.west, hy⟩
  · have := e 0 (by decide) (by decide); rw [Int.add_zero] at this; rw [this, hk _ (by decide) (by decide)]; exact h.n
  · rw [e 1 (by decide) (by decide), e 2 (by decide) (by decide), hk _ (by omega) (by omega), hk _ (by omega) (by omega)]; exact h.wall g1 g2
  · rw [e 3 (by decide) (by decide), e 4 (by decide) (by decide), hk _ (by omega) (by omega), hk _ (by omega) (by omega)]; exact h.mir g1 g2
  · have := e (5 + d) (by omega) (by omega); rwa [← Int.add_assoc] at this
  · have := e (13 + d) (by omega) (by omega); rwa [← Int.add_assoc] at this
theorem zKok_k {K K' : Int → Int} (h : zKok K) (hk : ∀ i, 0 ≤ i → i < 300 ∨ (332 ≤ i ∧ i < 376) → K' i = K i) (hn : 1 ≤ K' 427 ∧ K' 427 ≤ 16) (hw : ∀ c, 0 ≤ c → c < 16 → (0 ≤ K' (300 + c) ∧ K' (300 + c) < 128) ∧ (0 ≤ K' (316 + c) ∧ K' (316 + c) < 128)) (hh : 0 ≤ K' 426 ∧ K' 426 ≤ 10) (hy : ∀ y f, 0 ≤ y → y < 10 → 0 ≤ f → f < 5 → 0 ≤ K' (376 + 5 * y + f) ∧ K' (376 + 5 * y + f) ≤ 999) : zKok K' := by
  obtain ⟨h1, h2, h3, h4, h5, h6, h7, h8, h9, h10, h11⟩ := h
  refine ⟨hn, hw, fun c g1 g2 => ?_, fun t l g1 g2 g3 g4 => ?_, fun t g1 g2 => ?_, fun t w g1 g2 g3 g4 => ?_, fun t w c g1 g2 g3 g4 g5 g6 => ?_, fun t c g1 g2 g3 g4 => ?_, fun t c g1 g2 g3 g4 => ?_, hh, hy⟩
  · rw [hk _ (by omega) (by omega), hk _ (by omega) (by omega)]; exact h3 c g1 g2
  · rw [hk _ (by omega) (by omega), hk (3 * (26 * t + l) + 1) (by omega) (by omega), hk (3 * (26 * t + l) + 2) (by omega) (by omega)]; exact h4 t l g1 g2 g3 g4
  · rw [hk _ (by omega) (by omega), hk (364 + t) (by omega) (by omega), hk (374 + t) (by omega) (by omega)]; exact h5 t g1 g2
  · rw [hk _ (by omega) (by omega)] at g4
    have := (h5 t g1 g2).1
    rw [hk _ (by omega) (by omega), hk _ (by omega) (by omega)]; exact h6 t w g1 g2 g3 g4
  · rw [hk _ (by omega) (by omega)]; exact h7 t w c g1 g2 g3 g4 g5 g6
  · rw [hk _ (by omega) (by omega)]; exact h8 t c g1 g2 g3 g4
  · rw [hk _ (by omega) (by omega)]; exact h9 t c g1 g2 g3 g4
section WALL
variable {n : Int} {T : zT} {V : zM}
/-- cells from n on are bare now -/
def zbare (n i : Int) (f : Int → Int) : Int → Int := fun j => if n ≤ j ∧ j < i then 0 else f j
theorem zwr_bare {V : zM} {n i : Int} {a b : Int} (hab : a ≠ b) (hn : n ≤ i) : zwr (zwr (zs (zs V a (zbare n i (V a))) b (zbare n i (V b))) a i 0) b i 0 = zs (zs V a (zbare n (i + 1) (V a))) b (zbare n (i + 1) (V b)) := by
  funext r j
  simp only [zwr_eq, zs_eq, zbare]
  by_cases h1 : r = b
  · subst h1
    have : ¬ r = a := fun e => hab e.symm
    simp only [this, false_and, if_false, true_and, if_true]
    (repeat' split) <;> first | rfl | (exfalso; omega)
  · by_cases h2 : r = a
    · subst h2
      simp only [h1, false_and, if_false, true_and, if_true]
      (repeat' split) <;> first | rfl | (exfalso; omega)
    · simp only [h1, h2, false_and, if_false]
theorem zs_bare0 {V : zM} {n a b : Int} : zs (zs V a (zbare n n (V a))) b (zbare n n (V b)) = V := by
  funext r j
  simp only [zs_eq, zbare]
  (repeat' split) <;> first | rfl | (exfalso; omega) | (subst r; rfl)
theorem c25 {b x : Int} (h : zState T b) (hx : 0 ≤ x ∧ x ≤ 16) : zcall 25 [(2, b), (0, x)] T V = some ((9, 0), T, zwr (zs (zs V (b + 1) (zbare x 16 (V (b + 1)))) (b + 2) (zbare x 16 (V (b + 2)))) b 0 x) := by
  have key := zfor (fun i => ev 25 2 [(2, b), (0, x), (0, i)] [] T (zs (zs V (b + 1) (zbare x i (V (b + 1)))) (b + 2) (zbare x i (V (b + 2))))) (lo := x) (hi := 16) hx.2 (fun i h1 h2 => by
    show ev 25 2 _ _ _ _ = ev 25 2 _ _ _ _
    rw [b25_2, if_neg (by omega), b25_8 h (by omega) (by omega), zwr_bare (by omega) h1])
  rw [e25, b25_0]
  have k0 : ev 25 2 [(2, b), (0, x), (0, x)] [] T V = ev 25 2 [(2, b), (0, x), (0, 16)] [] T (zs (zs V (b + 1) (zbare x 16 (V (b + 1)))) (b + 2) (zbare x 16 (V (b + 2)))) := by
    have := key
    simp only [zs_bare0] at this
    exact this
  rw [k0, b25_2, if_pos (by omega), b25_28 h]
theorem zwr_bare2 {V : zM} {n i : Int} (hn : n ≤ i) (hi : i < 16) (h0 : 0 ≤ n) : zwr (zwr (zs V 132 (fun j => if (300 + n ≤ j ∧ j < 300 + i) ∨ (316 + n ≤ j ∧ j < 316 + i) then 0 else V 132 j)) 132 (300 + i) 0) 132 (316 + i) 0 = zs V 132 (fun j => if (300 + n ≤ j ∧ j < 300 + (i + 1)) ∨ (316 + n ≤ j ∧ j < 316 + (i + 1)) then 0 else V 132 j) := by
  funext r j
  simp only [zwr_eq, zs_eq]
  by_cases h1 : r = 132
  · subst h1
    simp only [true_and, if_true]
    (repeat' split) <;> first | rfl | (exfalso; omega)
  · simp only [h1, false_and, if_false]
theorem c155 {x : Int} (hS : zStr T) (hx : 0 ≤ x ∧ x ≤ 16) (ht : 0 ≤ V 130 1 ∧ V 130 1 ≤ 1000) : zcall 155 [(2, 130), (0, x)] T V = some ((9, 0), T, zwr (zwr (zs V 132 (fun j => if (300 + x ≤ j ∧ j < 316) ∨ (316 + x ≤ j ∧ j < 332) then 0 else V 132 j)) 132 427 x) 130 1 (V 130 1 + 1)) := by
  have key := zfor (fun i => ev 155 2 [(2, 130), (0, x), (0, i)] [] T (zs V 132 (fun j => if (300 + x ≤ j ∧ j < 300 + i) ∨ (316 + x ≤ j ∧ j < 316 + i) then 0 else V 132 j))) (lo := x) (hi := 16) hx.2 (fun i h1 h2 => by
    show ev 155 2 _ _ _ _ = ev 155 2 _ _ _ _
    rw [b155_2, if_neg (by omega), b155_8 hS (by omega) (by omega) (by omega) (by omega) (by omega), zwr_bare2 h1 h2 hx.1])
  rw [e155, b155_0]
  have k0 : ev 155 2 [(2, 130), (0, x), (0, x)] [] T V = ev 155 2 [(2, 130), (0, x), (0, 16)] [] T (zs V 132 (fun j => if (300 + x ≤ j ∧ j < 316) ∨ (316 + x ≤ j ∧ j < 332) then 0 else V 132 j)) := by
    have e : zs V 132 (fun j => if (300 + x ≤ j ∧ j < 300 + x) ∨ (316 + x ≤ j ∧ j < 316 + x) then 0 else V 132 j) = V := by
      funext r j
      simp only [zs_eq]
      (repeat' split) <;> first | rfl | (exfalso; omega) | (subst r; rfl)
    simp only [e] at key
    exact key
  rw [k0, b155_2, if_pos (by omega)]
  have e1 : ∀ (f : Int → Int) (y : Int), zwr (zs V 132 f) 132 427 y 130 1 = V 130 1 := fun f y => by rw [zwr_ne (by decide), zsr_ne (by decide)]
  rw [b155_36 hS (by rw [e1]; omega), e1]
/-- the state after size -/
theorem zJ_size {x : Int} {V' : zM} (h : zJ n T V) (hn : n < 1000) (hx : 1 ≤ x ∧ x ≤ 16) (er : ∀ r, ¬ (r = 0 ∨ r = 1 ∨ r = 2 ∨ r = 3 ∨ r = 56 ∨ r = 130 ∨ r = 132) → V' r = V r) (e1 : V' 1 0 = x) (e132 : ∀ i, 0 ≤ i → i < 300 ∨ (332 ≤ i ∧ i < 427) → V' 132 i = V 132 i) (en : V' 132 427 = x) (ew : ∀ c, 0 ≤ c → c < 16 → V' 2 c = V' 132 (300 + c) ∧ V' 3 c = V' 132 (316 + c)) (eq : ∀ c, 0 ≤ c → c < 16 → (0 ≤ V' 132 (300 + c) ∧ V' 132 (300 + c) < 128) ∧ (0 ≤ V' 132 (316 + c) ∧ V' 132 (316 + c) < 128)) (ht : zTape V') (hc : zSc (n + 1) V') (h14 : V' 0 14 = V 0 14) (h2 : V' 130 2 = V 130 2 ∧ V' 130 1 = V 130 1 + 1) : zJ (n + 1) T V' := by
  have hk := h.ok
  refine zJ_upd h (fun r hr => er r ?_) ?_ ?_ ht hc ?_ ?_ ?_
  · unfold zkeep at hr; omega
  · exact zSR_wall h.sr (fun d g1 g2 => er _ (by omega)) e132 (by rw [e1, en]) ew
  · refine zKok_k hk (fun i g1 g2 => e132 i g1 (by omega)) (by omega) eq (by rw [e132 426 (by decide) (by decide)]; exact hk.held) (fun y f g1 g2 g3 g4 => ?_)
    rw [e132 _ (by omega) (by omega)]
    exact hk.yard g1 g2 g3 g4
  · exact zkc_congr fun i hi => e132 i (by omega) (by omega)
  · intro g; rwa [h14] at g
  · intro g
    have := h.sc.2.2.2.2.2.1
    omega
end WALL
