/-! the reference: tells -/
section TELLS2
variable {T : zT} {V : zM}
theorem zuse_r {K : Int → Int} {a t : Int} (hW : zKw K) (ht : t = 0 ∨ t = 1) : 56 ≤ zuse K a t ∧ zuse K a t ≤ 224 := by
  have hh := hW t ht
  have hms : 0 ≤ zms K a t ∧ zms K a t ≤ 4 := by
    unfold zms
    by_cases c : a = 1
    · rw [if_pos c]; decide
    · rw [if_neg c]; exact hh.2.1
  unfold zuse
  by_cases c : zms K a t = 0
  · rw [if_pos c]; decide
  · rw [if_neg c]; omega
/-- what a walk of the reference keeps -/
def zWm (V0 V : zM) (K : Int → Int) (a : Int) : Prop := (∀ r, r ≠ 130 → ¬ (142 ≤ r ∧ r ≤ 150) → V r = V0 r) ∧ (∀ j, j ≠ 31 → V 130 j = V0 130 j) ∧ zSto V K a ∧ zCb V 148 (zuse K a 0) (zuse K a 1)
theorem c220w {V0 : zM} {K : Int → Int} {a : Int} {A : Int → Int → Prop} (hS : zStr T) (hW : zKw K) (h : zWm V0 V K a) (hsr : ∀ p, 0 ≤ p → p < 729 → 0 ≤ V 150 p ∧ V 150 p ≤ 128) : zwp (zcall 220 [(2, 130)] T V) fun r T' V' => r = (9, 0) ∧ T' = T ∧ zWm V0 V' K a ∧ (∀ r, r ≠ 148 → r ≠ 149 → V' r = V r) ∧ ∀ r : Nat, (∀ p, 0 ≤ p → p < 729 → V 150 p = zct K (A (r : Int)) p) → zN2 V' 148 K a A (zuse K a 0) (zuse K a 1) r = zN2 V 148 K a A (zuse K a 0) (zuse K a 1) (r + 1) := by
  obtain ⟨h1, h2, h3, h4⟩ := h
  have u0 := zuse_r (a := a) hW (Or.inl rfl)
  have u1 := zuse_r (a := a) hW (Or.inr rfl)
  obtain ⟨s1, s2, s3, s4, s5⟩ := id h3
  obtain ⟨r, T', V', e1, e2, e3, e4, e5, e6⟩ := c220 (V := V) (K := K) (a := a) (A := A) hS ⟨s2, by omega, u0.2⟩ ⟨s3, by omega, u1.2⟩ h4 (fun q y q1 q2 y1 y2 => ⟨(s4 q q1 (by omega)).2 y y1 y2, zdel_r hW (Or.inl rfl) q y⟩) (fun q y q1 q2 y1 y2 => ⟨(s5 q q1 (by omega)).2 y y1 y2, zdel_r hW (Or.inr rfl) q y⟩) hsr
  exact ⟨r, T', V', e1, e2, e3, ⟨fun r r1 r2 => by rw [e4 r (by omega) (by omega), h1 r r1 r2], fun j hj => by rw [e4 130 (by decide) (by decide), h2 j hj], zSto_congr h3 (by rw [e4 130 (by decide) (by decide)]) (e4 _ (by decide) (by decide)) (e4 _ (by decide) (by decide)) (e4 _ (by decide) (by decide)), e5⟩, e4, e6⟩
end TELLS2
