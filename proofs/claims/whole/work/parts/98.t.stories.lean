/-! the reference: laysStories, whole -/
section STORIES2
variable {T : zT} {V : zM}
theorem zLd_congr {V V' : zM} {K : Int → Int} {a t f q : Int} (h : zLd V K a t f q) (h5 : V' 145 = V 145) (h6 : V' 146 = V 146) : zLd V' K a t f q := by
  unfold zLd
  rw [h5, h6]
  exact h
theorem zSto_congr {V V' : zM} {K : Int → Int} {a : Int} (h : zSto V K a) (h0 : V' 130 31 = V 130 31) (h7 : V' 147 = V 147) (h5 : V' 145 = V 145) (h6 : V' 146 = V 146) : zSto V' K a := by
  obtain ⟨a1, a2, a3, a4, a5⟩ := h
  exact ⟨by rw [h0, a1], by rw [h7, a2], by rw [h7, a3], fun q q1 q2 => zLd_congr (a4 q q1 q2) h5 h6, fun q q1 q2 => zLd_congr (a5 q q1 q2) h5 h6⟩
theorem c211 {a : Int} (hS : zStr T) (hK : zKok (V 132)) (ha2 : a = 0 ∨ a = 1) : zwp (zcall 211 [(2, 130), (0, a)] T V) fun r T' V' => r = (9, 0) ∧ T' = T ∧ (∀ r, r ≠ 130 → ¬ (142 ≤ r ∧ r ≤ 147) → V' r = V r) ∧ (∀ j, j ≠ 31 → V' 130 j = V 130 j) ∧ zSto V' (zkc (V 132)) a ∧ ∀ s, 0 ≤ s → s < 128 → V' 142 s = zsgn (zkc (V 132)) 0 s ∧ V' 143 s = zsgn (zkc (V 132)) 1 s := by
  refine c211t (K := zkc (V 132)) hS (fun i hi => (zkc_in hi).symm) (zKw_of hK) ha2 (fun V1 k1 k2 k3 => ?_)
  have e132 : V1 132 = V 132 := k1 132 (by decide) (by decide) (by decide) (by decide)
  obtain ⟨r, T', V2, e1, e2, e3, e4, e5⟩ := c197 (V := V1) hS (by rw [e132]; exact hK)
  subst e2; subst e3
  rw [b211_15 hS, e1]
  simp only [Option.bind_some, zpush9]
  rw [b211_19]
  refine zwp_ret ⟨rfl, rfl, fun r h1 h2 => by rw [e4 r (by omega) (by omega), k1 r h1 (by omega) (by omega) (by omega)], fun j hj => by rw [e4 130 (by decide) (by decide), k2 j hj], zSto_congr k3 (by rw [e4 130 (by decide) (by decide)]) (e4 _ (by decide) (by decide)) (e4 _ (by decide) (by decide)) (e4 _ (by decide) (by decide)), fun s s1 s2 => ?_⟩
  rw [zsgn_c (by decide), zsgn_c (by decide), ← e132]
  exact e5 s s1 s2
end STORIES2
