/-! one number of the state changed -/
def zku (K : Int → Int) (i v : Int) : Int → Int := fun j => if j = i then v else K j
def zCor (b r j i : Int) : Prop := (r = b ∧ j = 0 ∧ i = 427) ∨ (r = b + 1 ∧ (0 ≤ j ∧ j < 16) ∧ i = 300 + j) ∨ (r = b + 2 ∧ (0 ≤ j ∧ j < 16) ∧ i = 316 + j) ∨ (r = b + 5 + 6 ∧ (0 ≤ j ∧ j < 16) ∧ i = 332 + j) ∨ (r = b + 13 + 6 ∧ (0 ≤ j ∧ j < 16) ∧ i = 348 + j) ∨ (r = b + 5 ∧ j = 7 ∧ i = 364) ∨ (r = b + 13 ∧ j = 7 ∧ i = 365) ∨ (r = b + 5 + 7 ∧ (0 ≤ j ∧ j < 4) ∧ i = 366 + j) ∨ (r = b + 13 + 7 ∧ (0 ≤ j ∧ j < 4) ∧ i = 370 + j) ∨ (r = b + 5 ∧ j = 9 ∧ i = 374) ∨ (r = b + 13 ∧ j = 9 ∧ i = 375) ∨ (r = b + 21 ∧ j = 5 ∧ i = 426) ∨ ((b + 22 ≤ r ∧ r ≤ b + 26) ∧ (0 ≤ j ∧ j < 10) ∧ i = 376 + 5 * j + (r - (b + 22)))
def zGod (i v : Int) : Prop := (i = 427 ∧ 1 ≤ v ∧ v ≤ 16) ∨ (300 ≤ i ∧ i < 332 ∧ 0 ≤ v ∧ v < 128) ∨ (332 ≤ i ∧ i < 364 ∧ 0 ≤ v ∧ v ≤ 26) ∨ (364 ≤ i ∧ i < 366 ∧ 0 ≤ v ∧ v ≤ 16) ∨ (366 ≤ i ∧ i < 374 ∧ 0 ≤ v ∧ v ≤ 7) ∨ (374 ≤ i ∧ i < 376 ∧ 0 ≤ v ∧ v ≤ 4) ∨ (376 ≤ i ∧ i < 426 ∧ 0 ≤ v ∧ v ≤ 999) ∨ (i = 426 ∧ 0 ≤ v ∧ v ≤ 10)
theorem zKok_w {K : Int → Int} {i v : Int} (h : zKok K) (g : zGod i v) : zKok (zku K i v) := by
  obtain ⟨h1, h2, h3, h4, h5, h6, h7, h8, h9, h10, h11⟩ := h
  have hi : 300 ≤ i := by unfold zGod at g; omega
  refine ⟨?_, fun c g1 g2 => ?_, fun c g1 g2 => ?_, fun t l g1 g2 g3 g4 => ?_, fun t g1 g2 => ?_, fun t w g1 g2 g3 g4 => ?_, fun t w c g1 g2 g3 g4 g5 g6 => ?_, fun t c g1 g2 g3 g4 => ?_, fun t c g1 g2 g3 g4 => ?_, ?_, fun y f g1 g2 g3 g4 => ?_⟩
  · unfold zku; unfold zGod at g; split <;> omega
  · have q := h2 c g1 g2; unfold zku; unfold zGod at g; (repeat' split) <;> omega
  · have q := h3 c g1 g2; unfold zku; simp (disch := omega) only [if_neg]; exact q
  · have q := h4 t l g1 g2 g3 g4; unfold zku; simp (disch := omega) only [if_neg]; exact q
  · have q := h5 t g1 g2; unfold zku; unfold zGod at g; simp (disch := omega) only [if_neg]; refine ⟨q.1, ?_, ?_⟩ <;> (split <;> omega)
  · have g4' : w < K (284 + t) := by unfold zku at g4; rwa [if_neg (by omega)] at g4
    have g5 := (h5 t g1 g2).1
    have q := h6 t w g1 g2 g3 g4'; unfold zku; simp (disch := omega) only [if_neg]; exact q
  · have q := h7 t w c g1 g2 g3 g4 g5 g6; unfold zku; simp (disch := omega) only [if_neg]; exact q
  · have q := h8 t c g1 g2 g3 g4; unfold zku; unfold zGod at g; split <;> omega
  · have q := h9 t c g1 g2 g3 g4; unfold zku; unfold zGod at g; split <;> omega
  · unfold zku; unfold zGod at g; split <;> omega
  · have q := h11 y f g1 g2 g3 g4; unfold zku; unfold zGod at g; split <;> omega
theorem zTg_w {V : zM} {B b r j i v : Int} {K : Int → Int} {t : Int} (h : zTg V b K t) (ht : (t = 0 ∧ b = B + 5) ∨ (t = 1 ∧ b = B + 13)) (hc : zCor B r j i) : zTg (zwr V r j v) b (zku K i v) t := by
  obtain ⟨a1, a2, a3, a4, a5, a6, a7, a8, a9⟩ := h
  have hi : 300 ≤ i := by unfold zCor at hc; omega
  refine ⟨fun l g1 g2 => ?_, fun l g1 g2 g3 => ?_, fun w g1 g2 => ?_, fun w c g1 g2 g3 g4 => ?_, fun c g1 g2 => ?_, fun c g1 g2 => ?_, ?_, ?_, ?_⟩
  · have q := a1 l g1 g2; rw [zwr_eq, if_neg (by unfold zCor at hc; omega)]; unfold zku; rw [if_neg (show ¬ 3 * (26 * t + l) = i by omega), if_neg (show ¬ 3 * (26 * t + l) + 1 = i by omega)]; exact q
  · have g3' : K (3 * (26 * t + l)) = 1 := by unfold zku at g3; rwa [if_neg (by omega)] at g3
    have q := a2 l g1 g2 g3'; rw [zwr_eq, if_neg (by unfold zCor at hc; omega)]; unfold zku; rw [if_neg (by omega)]; exact q
  · have q := a3 w g1 g2; rw [zwr_eq, if_neg (by unfold zCor at hc; omega), zwr_eq, if_neg (by unfold zCor at hc; omega)]; unfold zku; rw [if_neg (by omega), if_neg (by omega)]; exact q
  · have q := a4 w c g1 g2 g3 g4; rw [zwr_eq, if_neg (by unfold zCor at hc; omega)]; unfold zku; rw [if_neg (by omega)]; exact q
  · have q := a5 c g1 g2; rw [zwr_eq]; unfold zku; unfold zCor at hc; split <;> split <;> omega
  · have q := a6 c g1 g2; rw [zwr_eq]; unfold zku; unfold zCor at hc; split <;> split <;> omega
  · rw [zwr_eq, if_neg (by unfold zCor at hc; omega)]; unfold zku; rw [if_neg (by omega)]; exact a7
  · rw [zwr_eq]; unfold zku; unfold zCor at hc; split <;> split <;> omega
  · rw [zwr_eq]; unfold zku; unfold zCor at hc; split <;> split <;> omega
theorem zYr_w {V : zM} {B r j i v : Int} {K : Int → Int} (h : zYr V (B + 21) K) (hc : zCor B r j i) : zYr (zwr V r j v) (B + 21) (zku K i v) := by
  obtain ⟨a1, a2⟩ := h
  refine ⟨?_, fun y g1 g2 => ?_⟩
  · rw [zwr_eq]; unfold zku; unfold zCor at hc; split <;> split <;> omega
  · have q := a2 y g1 g2
    simp only [zwr_eq]; unfold zku; unfold zCor at hc
    refine ⟨?_, ?_, ?_, ?_, ?_⟩ <;> (split <;> split <;> omega)
theorem zSR_w {V : zM} {b r j i v : Int} {K : Int → Int} (h : zSR V b K) (hc : zCor b r j i) : zSR (zwr V r j v) b (zku K i v) := by
  obtain ⟨a1, a2, a3, a4, a5, a6⟩ := h
  refine ⟨?_, fun c g1 g2 => ?_, fun c g1 g2 => ?_, zTg_w a4 (Or.inl ⟨rfl, rfl⟩) hc, zTg_w a5 (Or.inr ⟨rfl, rfl⟩) hc, zYr_w a6 hc⟩
  · rw [zwr_eq]; unfold zku; unfold zCor at hc; split <;> split <;> omega
  · have q := a2 c g1 g2; simp only [zwr_eq]; unfold zku; unfold zCor at hc
    refine ⟨?_, ?_⟩ <;> (split <;> split <;> omega)
  · have q := a3 c g1 g2; simp only [zwr_eq]; unfold zku; unfold zCor at hc
    refine ⟨?_, ?_⟩ <;> (split <;> split <;> omega)
/-- signs and costs hang on the tables alone -/
theorem zseen_k {K K' : Int → Int} (h : ∀ i, 0 ≤ i → i < 300 → K' i = K i) (s : Int) (k : Nat) (hk : k ≤ 7) : zseen K' s k = zseen K s k := by
  induction k with
  | zero => rfl
  | succ k ih => rw [zseen, zseen, ih (by omega), h (286 + (k : Int)) (by omega) (by omega)]
theorem zcs_k {K K' : Int → Int} (h : ∀ i, 0 ≤ i → i < 300 → K' i = K i) (s : Int) (k : Nat) (hk : k ≤ 7) : zcs K' s k = zcs K s k := by
  induction k with
  | zero => rfl
  | succ k ih => rw [zcs, zcs, ih (by omega), h (293 + (k : Int)) (by omega) (by omega)]
theorem zcst_k {K K' : Int → Int} (h : ∀ i, 0 ≤ i → i < 300 → K' i = K i) : zcst K' = zcst K := by
  funext s
  exact zcs_k h s 7 (by decide)
theorem zsgn_k {K K' : Int → Int} (h : ∀ i, 0 ≤ i → i < 300 → K' i = K i) {t s : Int} (ht : 0 ≤ t ∧ t ≤ 1) : zsgn K' t s = zsgn K t s := by
  have e : zsee K' t s = zsee K t s := by unfold zsee; rw [zseen_k h s 7 (by decide)]
  refine zlst_congr fun l g1 g2 => ?_
  unfold zfit
  rw [e, h _ (by omega) (by omega), h _ (by omega) (by omega), h _ (by omega) (by omega)]
theorem zpr_k {K K' : Int → Int} (h : ∀ i, 0 ≤ i → i < 300 → K' i = K i) : zpr K' = zpr K := by
  funext s
  unfold zpr
  rw [zsgn_k h (by decide), zsgn_k h (by decide)]
theorem zRd_k {V : zM} {K K' : Int → Int} (h : ∀ i, 0 ≤ i → i < 300 → K' i = K i) (g : zRd V K) : zRd V K' := by
  refine ⟨fun s h1 h2 => ?_, g.2⟩
  rw [zsgn_k h (by decide), zsgn_k h (by decide), zcst_k h]
  exact g.1 s h1 h2
theorem zPT_k {V : zM} {b : Int} {K K' : Int → Int} {A : Int → Prop} {mk : Int → Int} (h : ∀ i, 0 ≤ i → i < 300 → K' i = K i) (g : zPT V b K A mk) : zPT V b K' A mk := by
  unfold zPT at g ⊢
  rw [zpr_k h, zcst_k h]
  exact g
/-- stories changed: nothing is known of the tellings -/
theorem zJ_sto {n n' : Int} {T : zT} {V V' : zM} (h : zJ n T V) (hr : ∀ r, zkeep r → V' r = V r) (hs : zSR V' 1 (V' 132)) (hk : zKok (V' 132)) (ht : zTape V') (hc : zSc n' V') (hz : ∀ i, 0 ≤ i → i < 300 → V' 132 i = V 132 i) (h1 : V' 0 14 = 0) (h2 : V' 130 2 ≠ V' 130 1) : zJ n' T V' := by
  have hz' : ∀ i, 0 ≤ i → i < 300 → zkc (V' 132) i = zkc (V 132) i := fun i g1 g2 => by
    rw [zkc_in (Or.inl ⟨g1, g2⟩), zkc_in (Or.inl ⟨g1, g2⟩), hz i g1 g2]
  refine ⟨h.str, zGeo_congr (fun r hr' => hr r (by unfold zkeep; omega)) h.geo, hs, hk, ht, hc, ?_, ?_, ?_, ?_, ?_, zIm_congr (fun r hr' => hr r (by unfold zkeep; omega)) h.im, ?_⟩
  · have := zRd_k hz' h.rd
    unfold zRd at this ⊢
    rw [hr 60 (by unfold zkeep; omega), hr 61 (by unfold zkeep; omega), hr 62 (by unfold zkeep; omega), hr 63 (by unfold zkeep; omega), hr 64 (by unfold zkeep; omega)]
    exact this
  · exact zPT_congr (fun d g1 g2 => hr _ (by unfold zkeep; omega)) (zPT_k hz' h.pt)
  · exact zPL_congr (fun d g1 g2 => hr _ (by unfold zkeep; omega)) h.pl
  · intro h14
    rw [h1] at h14
    omega
  · intro hp
    exact absurd hp h2
  · have := h.wd
    unfold zWd at this ⊢
    rw [hr 136 (by unfold zkeep; omega)]
    exact this
theorem zkc_w {K : Int → Int} {i v : Int} (h : 300 ≤ i) (h2 : i < 366 ∨ 376 ≤ i) : zkc (zku K i v) = zkc K := zkc_congr fun j hj => by
  unfold zku
  rw [if_neg (by omega)]
section TONG
variable {T : zT} {V : zM}
theorem c74_0 (hS : zStr T) : zcall 74 [(2, 1), (0, 0)] T V = some ((2, 6), T, V) := c74 (st1 hS)
theorem c74_1 (hS : zStr T) : zcall 74 [(2, 1), (0, 1)] T V = some ((2, 14), T, V) := c74 (st1 hS)
end TONG
