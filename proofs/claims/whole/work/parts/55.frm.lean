/-! what leaves the invariant as it was -/
theorem zTg_congr {V V' : zM} {b : Int} {K : Int → Int} {t : Int} (e : ∀ d, 0 ≤ d → d ≤ 7 → V' (b + d) = V (b + d)) (h : zTg V b K t) : zTg V' b K t := by
  have e0 : V' b = V b := by have := e 0 (by decide) (by decide); rwa [Int.add_zero] at this
  unfold zTg at h ⊢
  rw [e0, e 1 (by decide) (by decide), e 2 (by decide) (by decide), e 3 (by decide) (by decide), e 4 (by decide) (by decide), e 5 (by decide) (by decide), e 6 (by decide) (by decide), e 7 (by decide) (by decide)]
  exact h
theorem zYr_congr {V V' : zM} {b : Int} {K : Int → Int} (e : ∀ d, 0 ≤ d → d ≤ 5 → V' (b + d) = V (b + d)) (h : zYr V b K) : zYr V' b K := by
  have e0 : V' b = V b := by have := e 0 (by decide) (by decide); rwa [Int.add_zero] at this
  unfold zYr at h ⊢
  rw [e0, e 1 (by decide) (by decide), e 2 (by decide) (by decide), e 3 (by decide) (by decide), e 4 (by decide) (by decide), e 5 (by decide) (by decide)]
  exact h
theorem zSR_congr {V V' : zM} {b : Int} {K : Int → Int} (e : ∀ d, 0 ≤ d → d ≤ 26 → V' (b + d) = V (b + d)) (h : zSR V b K) : zSR V' b K := by
  have e0 : V' b = V b := by have := e 0 (by decide) (by decide); rwa [Int.add_zero] at this
  obtain ⟨h1, h2, h3, h4, h5, h6⟩ := h
  refine ⟨by rw [e0]; exact h1, ?_, ?_, zTg_congr (fun d g1 g2 => ?_) h4, zTg_congr (fun d g1 g2 => ?_) h5, zYr_congr (fun d g1 g2 => ?_) h6⟩
  · rw [e 1 (by decide) (by decide), e 2 (by decide) (by decide)]; exact h2
  · rw [e 3 (by decide) (by decide), e 4 (by decide) (by decide)]; exact h3
  · have := e (5 + d) (by omega) (by omega); rwa [← Int.add_assoc] at this
  · have := e (13 + d) (by omega) (by omega); rwa [← Int.add_assoc] at this
  · have := e (21 + d) (by omega) (by omega); rwa [← Int.add_assoc] at this
theorem zPL_congr {V V' : zM} {b : Int} (e : ∀ d, 0 ≤ d → d ≤ 5 → V' (b + d) = V (b + d)) (h : zPL V b) : zPL V' b := by
  have e0 : V' b = V b := by have := e 0 (by decide) (by decide); rwa [Int.add_zero] at this
  unfold zPL at h ⊢
  rw [e0, e 1 (by decide) (by decide), e 5 (by decide) (by decide)]
  exact h
theorem zPT_congr {V V' : zM} {b : Int} {K : Int → Int} {A : Int → Prop} {mk : Int → Int} (e : ∀ d, 0 ≤ d → d ≤ 5 → V' (b + d) = V (b + d)) (h : zPT V b K A mk) : zPT V' b K A mk := by
  have e0 : V' b = V b := by have := e 0 (by decide) (by decide); rwa [Int.add_zero] at this
  have hl := zPL_congr e h.1
  refine ⟨hl, ?_⟩
  have h2 := h.2
  rw [e0, e 1 (by decide) (by decide), e 2 (by decide) (by decide), e 3 (by decide) (by decide), e 4 (by decide) (by decide), e 5 (by decide) (by decide)]
  exact h2
theorem zGeo_congr {T : zT} {V V' : zM} (e : ∀ r, r = 111 ∨ 153 ≤ r → V' r = V r) (h : zGeo T V) : zGeo T V' := by
  obtain ⟨q1, q2, g1, g2, n1, n2, p, m, h1, h2, h3, h4, h5, h6, h7, h8, h9⟩ := h
  refine ⟨q1, q2, g1, g2, n1, n2, p, m, h1, h2, h3, h4, h5, h6, h7, ?_, h9⟩
  rw [e p h6]
  exact h8
theorem zIm1_congr {T : zT} {V V' : zM} {k : Int} (e : ∀ r, r = 133 ∨ r = 134 ∨ 153 ≤ r → V' r = V r) (h : zIm1 T V k) : zIm1 T V' k := by
  unfold zIm1 at h ⊢
  rw [e 133 (by decide), e 134 (by decide)]
  rcases h with h | ⟨h1, h2, h3, h4, h5⟩
  · exact Or.inl h
  · exact Or.inr ⟨h1, h2, h3, zSR_congr (fun d g1 g2 => e _ (by omega)) h4, h5⟩
theorem zIm_congr {T : zT} {V V' : zM} (e : ∀ r, r = 133 ∨ r = 134 ∨ 153 ≤ r → V' r = V r) (h : zIm T V) : zIm T V' := ⟨zIm1_congr e h.1, zIm1_congr e h.2⟩
/-- the rows that the calls keep but those that change tables, tellings, images -/
def zkeep (r : Int) : Prop := (60 ≤ r ∧ r ≤ 64) ∨ (65 ≤ r ∧ r ≤ 76) ∨ (111 ≤ r ∧ r ≤ 119) ∨ r = 133 ∨ r = 134 ∨ r = 136 ∨ r = 151 ∨ 153 ≤ r
theorem zJ_upd {n n' : Int} {T : zT} {V V' : zM} (h : zJ n T V) (hr : ∀ r, zkeep r → V' r = V r) (hs : zSR V' 1 (V' 132)) (hk : zKok (V' 132)) (ht : zTape V') (hc : zSc n' V') (hz : zkc (V' 132) = zkc (V 132)) (h1 : V' 0 14 = 1 → V 0 14 = 1) (h2 : V' 130 2 = V' 130 1 → V 130 2 = V 130 1 ∧ V' 132 427 = V 132 427) : zJ n' T V' := by
  refine ⟨h.str, zGeo_congr (fun r hr' => hr r (by unfold zkeep; omega)) h.geo, hs, hk, ht, hc, ?_, ?_, ?_, ?_, ?_, zIm_congr (fun r hr' => hr r (by unfold zkeep; omega)) h.im, ?_⟩
  · have := h.rd
    unfold zRd at this ⊢
    rw [hz, hr 60 (by unfold zkeep; omega), hr 61 (by unfold zkeep; omega), hr 62 (by unfold zkeep; omega), hr 63 (by unfold zkeep; omega), hr 64 (by unfold zkeep; omega)]
    exact this
  · rw [hz]
    exact zPT_congr (fun d g1 g2 => hr _ (by unfold zkeep; omega)) h.pt
  · exact zPL_congr (fun d g1 g2 => hr _ (by unfold zkeep; omega)) h.pl
  · intro h14
    have := h.tl (h1 h14)
    unfold zTell at this ⊢
    rw [hz, hr 115 (by unfold zkeep; omega), hr 116 (by unfold zkeep; omega), hr 117 (by unfold zkeep; omega), hr 118 (by unfold zkeep; omega)]
    exact this
  · intro hp
    obtain ⟨g1, g2⟩ := h2 hp
    have := h.pr g1
    unfold zLeft at this ⊢
    rw [hz, g2, hr 151 (by unfold zkeep; omega)]
    exact this
  · have := h.wd
    unfold zWd at this ⊢
    rw [hr 136 (by unfold zkeep; omega)]
    exact this
/-- the state itself as it was -/
theorem zJ_same {n n' : Int} {T : zT} {V V' : zM} (h : zJ n T V) (hr : ∀ r, zkeep r ∨ (1 ≤ r ∧ r ≤ 27) ∨ r = 132 → V' r = V r) (ht : zTape V') (hc : zSc n' V') (h1 : V' 0 14 = 1 → V 0 14 = 1) (h2 : V' 130 2 = V' 130 1 → V 130 2 = V 130 1) : zJ n' T V' := by
  have e := hr 132 (by omega)
  refine zJ_upd h (fun r g => hr r (Or.inl g)) ?_ (by rw [e]; exact h.ok) ht hc (by rw [e]) h1 (fun g => ⟨h2 g, by rw [e]⟩)
  rw [e]
  exact zSR_congr (fun d g1 g2 => hr _ (by omega)) h.sr
