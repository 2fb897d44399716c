/-! the tellings by the class -/
theorem zTw_of {V : zM} {b t : Int} {K : Int → Int} (ht : t = 0 ∨ t = 1) (h : zTg V b K t) (hK : zKok K) : zTw V b (zkc K) t := by
  have hm := hK.many (t := t) (by omega) (by omega)
  have k1 : zkc K (284 + t) = K (284 + t) := zkc_in (by omega)
  have k2 : zkc K (374 + t) = K (374 + t) := zkc_in (by omega)
  refine ⟨by rw [k1]; exact ⟨h.words, hm.1⟩, by rw [k2]; exact ⟨h.slen, hm.2.2⟩, fun w w1 w2 => ?_, fun i i1 i2 => ?_⟩
  · rw [k1] at w2
    unfold zmn zwl
    rw [zkc_in (by omega), zkc_in (by omega)]
    refine ⟨h.mean w1 (by omega), h.len w1 (by omega), (hK.wrd (by omega) (by omega) w1 w2).2, fun i i1 i2 => ?_⟩
    rw [zkc_in (by omega)]
    exact ⟨h.ltr w1 (by omega) i1 i2, hK.ltr (by omega) (by omega) w1 (by omega) i1 i2⟩
  · rw [zkc_in (by omega)]
    exact h.sto i1 i2
theorem zJ.i55 {n : Int} {T : zT} {V : zM} (h : zJ n T V) : zI55 T := by
  intro k hk h0
  obtain ⟨a, b⟩ := h.im
  rcases hk with rfl | rfl
  · rcases a with a | a
    · omega
    · exact a.2.1
  · rcases b with a | a
    · omega
    · exact a.2.1
theorem zJ_x {n : Int} {T T' : zT} {V V' : zM} (h : zJ n T V) (hS : zStr T') (hg : zGeo T' V') (x : zHx T T' zCx) (hr : ∀ r, zKr T r → r ≠ 0 → V' r = V r) (h0 : ∀ j, j ≠ 14 → V' 0 j = V 0 j) (h14 : V' 0 14 = 0 ∨ V' 0 14 = 1) (htl : V' 0 14 = 1 → zTell V' (zkc (V 132))) : zJ n T' V' := by
  have low : ∀ r, 1 ≤ r → r < 78 → V' r = V r := fun r h1 h2 => hr r (Or.inl (by omega)) (by omega)
  have high : ∀ r, 120 ≤ r → r < 153 → V' r = V r := fun r h1 h2 => hr r (Or.inr (Or.inr (Or.inl (by omega)))) (by omega)
  have e132 := high 132 (by decide) (by decide)
  have hs := h.str.1
  have e55 : ∀ k, zp T' 55 k = zp T 55 k := fun k => x.2.2 55 k (by omega) (fun z => by unfold zCx at z; omega)
  have h55 := h.i55
  have im : ∀ k, k = 0 ∨ k = 1 → zIm1 T V k → zIm1 T' V' k := fun k hk z => by
    unfold zIm1 at z ⊢
    rw [high 134 (by decide) (by decide), high 133 (by decide) (by decide), e55]
    rcases z with z | ⟨z1, z2, z3, z4, z5⟩
    · exact Or.inl z
    · refine Or.inr ⟨z1, z2, zState_x z3 x (fun y k y1 y2 z => by unfold zCx at z; omega), ?_, z5⟩
      exact zSR_congr (fun d g1 g2 => hr _ (Or.inr (Or.inr (Or.inr ⟨k, hk, by omega, by omega, by omega⟩))) (by omega)) z4
  refine ⟨hS, hg, ?_, by rw [e132]; exact h.ok, ?_, ?_, ?_, ?_, ?_, ?_, ?_, ⟨im 0 (Or.inl rfl) h.im.1, im 1 (Or.inr rfl) h.im.2⟩, ?_⟩
  · rw [e132]
    exact zSR_congr (fun d g1 g2 => low _ (by omega) (by omega)) h.sr
  · have := h.tape
    unfold zTape at this ⊢
    rw [low 56 (by decide) (by decide), low 57 (by decide) (by decide), high 130 (by decide) (by decide), high 137 (by decide) (by decide)]
    exact this
  · have := h.sc
    unfold zSc at this ⊢
    rw [h0 15 (by decide), h0 16 (by decide), h0 17 (by decide), high 129 (by decide) (by decide), high 130 (by decide) (by decide), high 131 (by decide) (by decide)]
    obtain ⟨a1, a2, a3, a4, a5⟩ := this
    exact ⟨a1, a2, a3, h14, a5⟩
  · have := h.rd
    unfold zRd at this ⊢
    rw [e132, low 60 (by decide) (by decide), low 61 (by decide) (by decide), low 62 (by decide) (by decide), low 63 (by decide) (by decide), low 64 (by decide) (by decide)]
    exact this
  · rw [e132]
    exact zPT_congr (fun d g1 g2 => low _ (by omega) (by omega)) h.pt
  · exact zPL_congr (fun d g1 g2 => low _ (by omega) (by omega)) h.pl
  · intro z
    rw [e132]
    exact htl z
  · have := h.pr
    unfold zPri zLeft at this ⊢
    rw [e132, high 130 (by decide) (by decide), high 151 (by decide) (by decide)]
    exact this
  · have := h.wd
    unfold zWd at this ⊢
    rw [high 136 (by decide) (by decide)]
    exact this
