/-! the reference: laysSteps, whole -/
section LAYQ
variable {T : zT} {V : zM} {K : Int → Int}
theorem c212 {t a : Int} (hS : zStr T) (hK : zKe V K) (hW : zKw K) (ht : t = 0 ∨ t = 1) (ha : V 130 31 = a) (ha2 : a = 0 ∨ a = 1) : zwp (zcall 212 [(2, 130), (0, t)] T V) fun r T' V' => r = (9, 0) ∧ T' = T ∧ zLo (zwr V 147 t (zuse K a t)) V' (224 * t) ∧ ∀ q, 0 ≤ q → q < 224 → zLd V' K a t (224 * t) q := by
  have hh := hW t ht
  obtain ⟨f, hf⟩ : ∃ f, 224 * t = f := ⟨_, rfl⟩
  obtain ⟨V1, hV1⟩ : ∃ V1, zwr V 147 t (zuse K a t) = V1 := ⟨_, rfl⟩
  have hms : 0 ≤ zms K a t ∧ zms K a t ≤ 4 := by
    unfold zms
    by_cases c : a = 1
    · rw [if_pos c]; decide
    · rw [if_neg c]; exact hh.2.1
  have hK1 : zKe V1 K := fun j hj => by rw [← hV1, zwr_ne (by decide)]; exact hK j hj
  have ha1 : V1 130 31 = a := by rw [← hV1, zwr_ne (by decide)]; exact ha
  rw [hf, hV1]
  -- behind the clearing
  have body : zwp (ev 212 49 [(2, 130), (0, t), (0, zms K a t), (0, f), (0, 0), (9, 0), (9, 0), (9, 0), (9, 0)] [] T V1) fun r T' V' => r = (9, 0) ∧ T' = T ∧ zLo V1 V' f ∧ ∀ q, 0 ≤ q → q < 224 → zLd V' K a t f q := by
    refine c212z hS (by omega) (fun V2 v5 l2 b2 => ?_)
    rw [b212_105]
    by_cases c : zms K a t = 0
    · rw [if_pos c, b212_109 hS (by omega) (by omega) (by omega) (by omega), b212_129, b212_132, if_pos (by omega), b212_385]
      obtain ⟨x1, x2, x3⟩ := l2
      refine zwp_ret ⟨rfl, rfl, ⟨fun r r1 r2 => by rw [zwr_ne r1, zwr_ne r2, x1 r r1 r2], fun j hj => by rw [zwr_ne (by decide), zwr_same, if_neg (by omega), x2 j hj], fun j hj => by rw [zwr_same, if_neg (by omega), zwr_ne (by decide), x3 j hj]⟩, fun q q1 q2 => ⟨?_, fun s s1 s2 => ?_⟩⟩
      · rw [zwr_ne (by decide), zwr_same]
        by_cases cq : q = 0
        · rw [if_pos (by omega), zif_t (show zfin K a t q from Or.inl ⟨c, cq⟩)]
        · rw [if_neg (by omega), (b2 q q1 q2).1, zif_f (show ¬ zfin K a t q from fun z => z.elim (fun z => cq z.2) (fun z => z.1 c))]
      · rw [zwr_same, zwr_ne (by decide)]
        unfold zdel
        rw [zif_t c]
        by_cases cq : q = 0 ∧ s = 26
        · rw [if_pos (by omega), zif_t cq]
        · rw [if_neg (by omega), (b2 q q1 q2).2 s s1 s2, zif_f cq]
    · rw [if_neg c, b212_129]
      refine c212m hS hK1 hW ht hf.symm ha1 ha2 (by omega) (fun V3 v5 v6 v7 v8 h3 => ?_) V2 _ _ _ _ ⟨l2, fun q q1 q2 => ⟨fun z => by omega, fun _ => b2 q q1 q2⟩⟩
      rw [b212_385]
      refine zwp_ret ⟨rfl, rfl, h3.1, fun q q1 q2 => ?_⟩
      by_cases cv : zval K a t q
      · exact (h3.2 q q1 q2).1 (by have := cv.2.1; unfold zpl; omega) cv
      · obtain ⟨z1, z2⟩ := (h3.2 q q1 q2).2 (fun z => cv z.2)
        refine ⟨by rw [z1, zif_f (show ¬ zfin K a t q from fun z => z.elim (fun z => c z.1) (fun z => cv z.2.1))], fun s s1 s2 => ?_⟩
        unfold zdel
        rw [z2 s s1 s2, zif_f c, zif_f cv]
  -- the start
  have start : zwp (ev 212 21 [(2, 130), (0, t), (9, 0), (9, 0), (9, 0), (9, 0), (9, 0), (9, 0), (9, 0)] [(0, zms K a t)] T V) fun r T' V' => r = (9, 0) ∧ T' = T ∧ zLo V1 V' f ∧ ∀ q, 0 ≤ q → q < 224 → zLd V' K a t f q := by
    rw [b212_21 hS (by omega), hf]
    by_cases c : zms K a t = 0
    · have e : zuse K a t = 56 * 1 := by unfold zuse; rw [if_pos c]
      rw [if_pos c, b212_39, b212_44 hS (by omega) (by omega), ← e, hV1]
      exact body
    · have e : zuse K a t = 56 * zms K a t := by unfold zuse; rw [if_neg c]
      rw [if_neg c, b212_43, b212_44 hS (by omega) (by omega), ← e, hV1]
      exact body
  rw [e212, b212_0 hS, ha]
  rcases ha2 with rfl | rfl
  · rw [if_pos rfl, b212_11 hS (by omega) (by omega), hK _ (by omega)]
    have e : zms K 0 t = K (374 + t) := if_neg (by decide)
    rw [e] at start
    exact start
  · rw [if_neg (by decide), b212_7]
    have e : zms K 1 t = 1 := if_pos rfl
    rw [e] at start
    exact start
end LAYQ
