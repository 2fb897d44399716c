/-! what a clause tells -/
noncomputable def zfi {α : Type} (p : Prop) (a b : α) : α := @ite α p (Classical.propDecidable p) a b
theorem zfi_t {α : Type} {p : Prop} {a b : α} (h : p) : zfi p a b = a := by unfold zfi; exact if_pos h
theorem zfi_f {α : Type} {p : Prop} {a b : α} (h : ¬ p) : zfi p a b = b := by unfold zfi; exact if_neg h
def zk3 (K : Int → Int) (i x y z : Int) : Int → Int := fun j => if j = i then x else if j = i + 1 then y else if j = i + 2 then z else K j
def zkw (b : Int → Int) (K : Int → Int) (g mn s l : Int) : Int → Int := fun j => if j = 284 + g then K (284 + g) + 1 else if j = 156 + 8 * (8 * g + K (284 + g)) then mn else if j = 156 + 8 * (8 * g + K (284 + g)) + 1 then l else if 156 + 8 * (8 * g + K (284 + g)) + 2 ≤ j ∧ j < 156 + 8 * (8 * g + K (284 + g)) + 2 + l then b (s + (j - (156 + 8 * (8 * g + K (284 + g)) + 2))) - 97 else K j
def zkm (b : Int → Int) (K : Int → Int) (s : Int) : Int → Int := fun j => if 286 ≤ j ∧ j < 293 then b (s + (j - 286)) - 49 else K j
abbrev zRes : Type := Int × Nat × (Int → Int)
section SPEC
variable (b : Int → Int) (m : Int) (K : Int → Int)
noncomputable def zLet (g : Int) (t : Nat) : zRes := zfi (zOl b m t) (zfi (zStw b m (t + 1) 0) (zfi (zNa b m (t + 2) 6) (zfi (zStw b m (t + 3) (zSx b m (t + 1))) (-1, t + 4, zk3 K (3 * (26 * g + (b (zS b m t) - 97))) 1 (zSx b m (t + 1)) (zSx b m (t + 3))) (zS b m (t + 3), t, K)) (-1, t + 2, zk3 K (3 * (26 * g + (b (zS b m t) - 97))) 1 (zSx b m (t + 1)) 0)) (zS b m (t + 1), t, K)) (zS b m t, t, K)
noncomputable def zWr2 (g : Int) (t : Nat) : zRes := zfi (K (284 + g) = 8) (zS b m t, t, K) (zfi (zKd b m (zS b m (t + 2)) = 2 ∧ zNx b m (t + 2) ≤ 7) (zfi (zKd b m (zS b m (t + 3)) = 1 ∧ zF b m (zS b m (t + 3)) - zS b m (t + 3) ≤ 6) (-1, t + 4, zkw b K g (zNx b m (t + 2)) (zS b m (t + 3)) (zF b m (zS b m (t + 3)) - zS b m (t + 3))) (zS b m (t + 3), t, K)) (zS b m (t + 2), t, K))
noncomputable def zWrd (t : Nat) : zRes := zfi (zNa b m (t + 1) 0) (zWr2 b m K 0 t) (zfi (zNa b m (t + 1) 1) (zWr2 b m K 1 t) (zS b m (t + 1), t, K))
noncomputable def zMir (t : Nat) : zRes := zfi (zStw b m (t + 1) 0 ∧ zF b m (zS b m (t + 1)) - zS b m (t + 1) = 7) (-1, t + 2, zkm b K (zS b m (t + 1))) (zS b m (t + 1), t, K)
noncomputable def zCos (t : Nat) : zRes := zfi (zKd b m (zS b m (t + 1)) = 2 ∧ 1 ≤ zNx b m (t + 1) ∧ zNx b m (t + 1) ≤ 7) (zfi (zKd b m (zS b m (t + 2)) = 2 ∧ zNx b m (t + 2) ≤ 99) (-1, t + 3, zku K (293 + (zNx b m (t + 1) - 1)) (zNx b m (t + 2))) (zS b m (t + 2), t, K)) (zS b m (t + 1), t, K)
noncomputable def zDr2 (g : Int) (t : Nat) : zRes := zfi (zOl b m (t + 2)) (-1, t + 3, zku K (3 * (26 * g + (b (zS b m (t + 2)) - 97))) 0) (zS b m (t + 2), t, K)
noncomputable def zDro (t : Nat) : zRes := zfi (zNa b m (t + 1) 0) (zDr2 b m K 0 t) (zfi (zNa b m (t + 1) 1) (zDr2 b m K 1 t) (zS b m (t + 1), t, K))
noncomputable def zCla (t : Nat) : zRes := zfi (zNa b m t 0) (zLet b m K 0 (t + 1)) (zfi (zNa b m t 1) (zLet b m K 1 (t + 1)) (zfi (zNa b m t 2) (zWrd b m K t) (zfi (zNa b m t 3) (zMir b m K t) (zfi (zNa b m t 4) (zCos b m K t) (zfi (zNa b m t 5) (zDro b m K t) (zS b m t, t, K))))))
end SPEC
/-- tables changed -/
theorem zKok_t {K K' : Int → Int} (h : zKok K) (e : ∀ i, 300 ≤ i → K' i = K i) (h3 : ∀ i, 0 ≤ i → i < 7 → (0 ≤ K' (286 + i) ∧ K' (286 + i) ≤ 6) ∧ (0 ≤ K' (293 + i) ∧ K' (293 + i) ≤ 99)) (h4 : ∀ t l, 0 ≤ t → t ≤ 1 → 0 ≤ l → l < 26 → (K' (3 * (26 * t + l)) = 0 ∨ K' (3 * (26 * t + l)) = 1) ∧ (K' (3 * (26 * t + l)) = 1 → (1 ≤ K' (3 * (26 * t + l) + 1) ∧ K' (3 * (26 * t + l) + 1) ≤ 127) ∧ (0 ≤ K' (3 * (26 * t + l) + 2) ∧ K' (3 * (26 * t + l) + 2) ≤ 127) ∧ zand (K' (3 * (26 * t + l) + 2)) (K' (3 * (26 * t + l) + 1)) = 0)) (h5 : ∀ t, 0 ≤ t → t ≤ 1 → 0 ≤ K' (284 + t) ∧ K' (284 + t) ≤ 8) (h6 : ∀ t w, 0 ≤ t → t ≤ 1 → 0 ≤ w → w < K' (284 + t) → (0 ≤ K' (156 + 8 * (8 * t + w)) ∧ K' (156 + 8 * (8 * t + w)) ≤ 7) ∧ (1 ≤ K' (156 + 8 * (8 * t + w) + 1) ∧ K' (156 + 8 * (8 * t + w) + 1) ≤ 6)) (h7 : ∀ t w i, 0 ≤ t → t ≤ 1 → 0 ≤ w → w < 8 → 0 ≤ i → i < 6 → 0 ≤ K' (156 + 8 * (8 * t + w) + (2 + i)) ∧ K' (156 + 8 * (8 * t + w) + (2 + i)) ≤ 25) : zKok K' := by
  refine ⟨by rw [e 427 (by decide)]; exact h.n, fun c c1 c2 => by rw [e _ (by omega), e _ (by omega)]; exact h.wall c1 c2, h3, h4, fun t t1 t2 => ⟨h5 t t1 t2, by rw [e _ (by omega), e _ (by omega)]; exact (h.many t1 t2).2⟩, h6, h7, fun t i t1 t2 i1 i2 => by rw [e _ (by omega)]; exact h.txt t1 t2 i1 i2, fun t i t1 t2 i1 i2 => by rw [e _ (by omega)]; exact h.sto t1 t2 i1 i2, by rw [e 426 (by decide)]; exact h.held, fun y f y1 y2 f1 f2 => by rw [e _ (by omega)]; exact h.yard y1 y2 f1 f2⟩
theorem zk3_o {K : Int → Int} {i x y z j : Int} (h : j ≠ i) (h1 : j ≠ i + 1) (h2 : j ≠ i + 2) : zk3 K i x y z j = K j := by unfold zk3; rw [if_neg h, if_neg h1, if_neg h2]
theorem zk3_0 {K : Int → Int} {i x y z : Int} : zk3 K i x y z i = x := if_pos rfl
theorem zk3_1 {K : Int → Int} {i x y z : Int} : zk3 K i x y z (i + 1) = y := by unfold zk3; rw [if_neg (by omega), if_pos rfl]
theorem zk3_2 {K : Int → Int} {i x y z : Int} : zk3 K i x y z (i + 2) = z := by unfold zk3; rw [if_neg (by omega), if_neg (by omega), if_pos rfl]
theorem zku_o {K : Int → Int} {i v j : Int} (h : j ≠ i) : zku K i v j = K j := if_neg h
theorem zku_0 {K : Int → Int} {i v : Int} : zku K i v i = v := if_pos rfl
section OK
variable {b K : Int → Int} {m g l : Int}
theorem zok_let {x y : Int} (h : zKok K) (hg : g = 0 ∨ g = 1) (hl : 0 ≤ l ∧ l < 26) (hx : 0 < x ∧ x < 128) (hy : 0 ≤ y ∧ y < 128) (hd : zand y x = 0) : zKok (zk3 K (3 * (26 * g + l)) 1 x y) := by
  have o : ∀ j, 156 ≤ j → zk3 K (3 * (26 * g + l)) 1 x y j = K j := fun j hj => zk3_o (by omega) (by omega) (by omega)
  refine zKok_t h (fun i hi => o i (by omega)) (fun i i1 i2 => by rw [o _ (by omega), o _ (by omega)]; exact h.mir i1 i2) (fun t l' t1 t2 l1 l2 => ?_) (fun t t1 t2 => by rw [o _ (by omega)]; exact (h.many t1 t2).1) (fun t w t1 t2 w1 w2 => ?_) (fun t w i t1 t2 w1 w2 i1 i2 => by rw [o _ (by omega)]; exact h.ltr t1 t2 w1 w2 i1 i2)
  · by_cases c : 26 * t + l' = 26 * g + l
    · rw [c, zk3_0, zk3_1, zk3_2]
      exact ⟨Or.inr rfl, fun _ => ⟨by omega, by omega, hd⟩⟩
    · rw [zk3_o (by omega) (by omega) (by omega), zk3_o (by omega) (by omega) (by omega), zk3_o (by omega) (by omega) (by omega)]
      exact h.let t1 t2 l1 l2
  · rw [o _ (by omega)] at w2
    rw [o _ (by omega), o _ (by omega)]
    exact h.wrd t1 t2 w1 w2
theorem zok_dro (h : zKok K) (hg : g = 0 ∨ g = 1) (hl : 0 ≤ l ∧ l < 26) : zKok (zku K (3 * (26 * g + l)) 0) := by
  have o : ∀ j, 156 ≤ j → zku K (3 * (26 * g + l)) 0 j = K j := fun j hj => zku_o (by omega)
  refine zKok_t h (fun i hi => o i (by omega)) (fun i i1 i2 => by rw [o _ (by omega), o _ (by omega)]; exact h.mir i1 i2) (fun t l' t1 t2 l1 l2 => ?_) (fun t t1 t2 => by rw [o _ (by omega)]; exact (h.many t1 t2).1) (fun t w t1 t2 w1 w2 => ?_) (fun t w i t1 t2 w1 w2 i1 i2 => by rw [o _ (by omega)]; exact h.ltr t1 t2 w1 w2 i1 i2)
  · by_cases c : 26 * t + l' = 26 * g + l
    · rw [c, zku_0]
      exact ⟨Or.inl rfl, fun z => absurd z (by decide)⟩
    · rw [zku_o (by omega), zku_o (by omega), zku_o (by omega)]
      exact h.let t1 t2 l1 l2
  · rw [o _ (by omega)] at w2
    rw [o _ (by omega), o _ (by omega)]
    exact h.wrd t1 t2 w1 w2
theorem zok_cos {k v : Int} (h : zKok K) (hk : 0 ≤ k ∧ k < 7) (hv : 0 ≤ v ∧ v ≤ 99) : zKok (zku K (293 + k) v) := by
  have o : ∀ j, j < 293 ∨ 300 ≤ j → zku K (293 + k) v j = K j := fun j hj => zku_o (by omega)
  refine zKok_t h (fun i hi => o i (by omega)) (fun i i1 i2 => ?_) (fun t l' t1 t2 l1 l2 => by rw [o _ (by omega), o _ (by omega), o _ (by omega)]; exact h.let t1 t2 l1 l2) (fun t t1 t2 => by rw [o _ (by omega)]; exact (h.many t1 t2).1) (fun t w t1 t2 w1 w2 => ?_) (fun t w i t1 t2 w1 w2 i1 i2 => by rw [o _ (by omega)]; exact h.ltr t1 t2 w1 w2 i1 i2)
  · have q := h.mir i1 i2
    rw [o _ (by omega)]
    by_cases c : i = k
    · rw [c, zku_0]; rw [c] at q; exact ⟨q.1, hv⟩
    · rw [zku_o (by omega)]; exact q
  · rw [o _ (by omega)] at w2
    have := (h.many t1 t2).1
    rw [o _ (by omega), o _ (by omega)]
    exact h.wrd t1 t2 w1 w2
theorem zok_mir {s : Int} (h : zKok K) (hd : ∀ i, 0 ≤ i → i < 7 → 1 ≤ b (s + i) - 48 ∧ b (s + i) - 48 ≤ 7) : zKok (zkm b K s) := by
  have o : ∀ j, j < 286 ∨ 293 ≤ j → zkm b K s j = K j := fun j hj => if_neg (by omega)
  refine zKok_t h (fun i hi => o i (by omega)) (fun i i1 i2 => ?_) (fun t l' t1 t2 l1 l2 => by rw [o _ (by omega), o _ (by omega), o _ (by omega)]; exact h.let t1 t2 l1 l2) (fun t t1 t2 => by rw [o _ (by omega)]; exact (h.many t1 t2).1) (fun t w t1 t2 w1 w2 => ?_) (fun t w i t1 t2 w1 w2 i1 i2 => by rw [o _ (by omega)]; exact h.ltr t1 t2 w1 w2 i1 i2)
  · rw [o (293 + i) (by omega)]
    refine ⟨?_, (h.mir i1 i2).2⟩
    have : zkm b K s (286 + i) = b (s + (286 + i - 286)) - 49 := if_pos (by omega)
    rw [this, show (286 + i - 286) = i by omega]
    have := hd i i1 i2
    omega
  · rw [o _ (by omega)] at w2
    have := (h.many t1 t2).1
    rw [o _ (by omega), o _ (by omega)]
    exact h.wrd t1 t2 w1 w2
theorem zkw_n {mn s l' : Int} : zkw b K g mn s l' (284 + g) = K (284 + g) + 1 := if_pos rfl
theorem zok_wrd {mn s l : Int} (h : zKok K) (hg : g = 0 ∨ g = 1) (h8 : K (284 + g) ≠ 8) (hm : 0 ≤ mn ∧ mn ≤ 7) (hl : 1 ≤ l ∧ l ≤ 6) (hd : ∀ i, 0 ≤ i → i < l → 97 ≤ b (s + i) ∧ b (s + i) ≤ 122) : zKok (zkw b K g mn s l) := by
  have mk := (h.many (t := g) (by omega) (by omega)).1
  have o : ∀ j, j ≠ 284 + g → j < 156 + 8 * (8 * g + K (284 + g)) ∨ 156 + 8 * (8 * g + K (284 + g)) + 2 + l ≤ j → zkw b K g mn s l j = K j := fun j h1 h2 => by
    unfold zkw
    rw [if_neg h1, if_neg (by omega), if_neg (by omega), if_neg (by omega)]
  have w0 : zkw b K g mn s l (156 + 8 * (8 * g + K (284 + g))) = mn := by
    unfold zkw
    rw [if_neg (by omega), if_pos rfl]
  have w1 : zkw b K g mn s l (156 + 8 * (8 * g + K (284 + g)) + 1) = l := by
    unfold zkw
    rw [if_neg (by omega), if_neg (by omega), if_pos rfl]
  refine zKok_t h (fun i hi => o i (by omega) (by omega)) (fun i i1 i2 => by rw [o _ (by omega) (by omega), o _ (by omega) (by omega)]; exact h.mir i1 i2) (fun t l' t1 t2 l1 l2 => by rw [o _ (by omega) (by omega), o _ (by omega) (by omega), o _ (by omega) (by omega)]; exact h.let t1 t2 l1 l2) (fun t t1 t2 => ?_) (fun t w t1 t2 v1 v2 => ?_) (fun t w i t1 t2 v1 v2 i1 i2 => ?_)
  · have q := (h.many t1 t2).1
    by_cases c : t = g
    · rw [c, zkw_n]; omega
    · rw [o _ (by omega) (by omega)]; exact q
  · have q := (h.many t1 t2).1
    by_cases c : t = g
    · rw [c, zkw_n] at v2
      rw [c] at q ⊢
      by_cases cw : w = K (284 + g)
      · rw [cw, w0, w1]; exact ⟨hm, hl⟩
      · rw [o _ (by omega) (by omega), o _ (by omega) (by omega)]
        exact h.wrd (by omega) (by omega) v1 (by omega)
    · rw [o (284 + t) (by omega) (by omega)] at v2
      rw [o _ (by omega) (by omega), o _ (by omega) (by omega)]
      exact h.wrd t1 t2 v1 v2
  · by_cases c : t = g ∧ w = K (284 + g)
    · by_cases ci : i < l
      · have : zkw b K g mn s l (156 + 8 * (8 * t + w) + (2 + i)) = b (s + i) - 97 := by
          rw [c.1, c.2]
          unfold zkw
          rw [if_neg (by omega), if_neg (by omega), if_neg (by omega), if_pos (by omega), show s + (156 + 8 * (8 * g + K (284 + g)) + (2 + i) - (156 + 8 * (8 * g + K (284 + g)) + 2)) = s + i by omega]
        have := hd i i1 ci
        omega
      · rw [o _ (by omega) (by rw [c.1, c.2]; omega)]
        exact h.ltr t1 t2 v1 v2 i1 i2
    · rw [o _ (by omega) (by omega)]
      exact h.ltr t1 t2 v1 v2 i1 i2
end OK
