/-! the reference: laysSteps, all places of a tongue -/
def zLd (V : zM) (K : Int → Int) (a t f q : Int) : Prop := V 146 (f + q) = zif (zfin K a t q) 1 0 ∧ ∀ s, 0 ≤ s → s < 27 → V 145 ((f + q) * 27 + s) = zdel K a t q s
def zBq (V : zM) (f q : Int) : Prop := V 146 (f + q) = 0 ∧ ∀ s, 0 ≤ s → s < 27 → V 145 ((f + q) * 27 + s) = -1
def zJl (V V' : zM) (K : Int → Int) (a t f x : Int) : Prop := zLo V V' f ∧ ∀ q, 0 ≤ q → q < 224 → (q < x → zval K a t q → zLd V' K a t f q) ∧ (¬ (q < x ∧ zval K a t q) → zBq V' f q)
section LAYA
variable {K : Int → Int}
theorem zJl_jump {V V' : zM} {a t f x y : Int} (h : zJl V V' K a t f x) (hy : x ≤ y) (hno : ∀ q, x ≤ q → q < y → ¬ zval K a t q) : zJl V V' K a t f y := by
  refine ⟨h.1, fun q q1 q2 => ⟨fun q3 q4 => ?_, fun z => ?_⟩⟩
  · by_cases c : q < x
    · exact (h.2 q q1 q2).1 c q4
    · exact absurd q4 (hno q (by omega) q3)
  · exact (h.2 q q1 q2).2 (fun w => z ⟨by omega, w.2⟩)
theorem zPlc_ld {V V' : zM} {a t f m n o : Int} (h : zPlc V V' K a t m n o (f + zpl m n o)) (hz : zms K a t ≠ 0) (hv : zval K a t (zpl m n o)) (hm : 0 ≤ m) (hn : 0 ≤ n ∧ n < 7) (ho : 0 ≤ o ∧ o < 8) : zLd V' K a t f (zpl m n o) := by
  have e1 : zpl m n o / 56 = m := by unfold zpl; omega
  have e2 : zpl m n o / 8 % 7 = n := by unfold zpl; omega
  have e3 : zpl m n o % 8 = o := by unfold zpl; omega
  obtain ⟨-, -, -, h4, h5, h6⟩ := h
  refine ⟨?_, fun s s1 s2 => ?_⟩
  · rw [h4]
    refine zif_congr ?_ (fun _ => rfl) (fun _ => rfl)
    unfold zfin
    rw [e1, e2, e3]
    exact ⟨fun z => Or.inr ⟨hz, hv, z.1, z.2⟩, fun z => z.elim (fun z => absurd z.1 hz) (fun z => ⟨z.2.2.1, z.2.2.2⟩)⟩
  · unfold zdel
    rw [zif_f hz, zif_t hv, e1, e2, e3]
    by_cases c : s = 26
    · subst c
      rw [zif_t rfl, h5]
    · rw [zif_f c, h6 s s1 (by omega)]
theorem zJl_s {V V1 V' : zM} {a t f m n o : Int} (hf : f = 0 ∨ f = 224) (h : zJl V V1 K a t f (zpl m n o)) (hp : zPlc V1 V' K a t m n o (f + zpl m n o)) (hz : zms K a t ≠ 0) (hv : zval K a t (zpl m n o)) (hq : zpl m n o < 224) (hm : 0 ≤ m) (hn : 0 ≤ n ∧ n < 7) (ho : 0 ≤ o ∧ o < 8) : zJl V V' K a t f (zpl m n o + 1) := by
  have ld := zPlc_ld hp hz hv hm hn ho
  obtain ⟨⟨l1, l2, l3⟩, l4⟩ := h
  obtain ⟨p1, p2, p3, -⟩ := hp
  obtain ⟨x, hx⟩ : ∃ x, zpl m n o = x := ⟨_, rfl⟩
  have x0 : 0 ≤ x := by rw [← hx]; exact hv.1
  rw [hx] at ld l4 p2 p3 hv hq ⊢
  refine ⟨⟨fun r r1 r2 => by rw [p1 r r1 r2, l1 r r1 r2], fun j hj => by rw [p2 j (by omega), l2 j hj], fun j hj => by rw [p3 j (by omega), l3 j hj]⟩, fun q q1 q2 => ?_⟩
  by_cases c : q = x
  · subst c
    exact ⟨fun _ _ => ld, fun z => absurd ⟨by omega, hv⟩ z⟩
  · have e6 : V' 146 (f + q) = V1 146 (f + q) := p2 _ (by omega)
    have e5 : ∀ s, 0 ≤ s → s < 27 → V' 145 ((f + q) * 27 + s) = V1 145 ((f + q) * 27 + s) := fun s s1 s2 => p3 _ (by omega)
    refine ⟨fun q3 q4 => ?_, fun z => ?_⟩
    · obtain ⟨b1, b2⟩ := (l4 q q1 q2).1 (by omega) q4
      exact ⟨by rw [e6, b1], fun s s1 s2 => by rw [e5 s s1 s2, b2 s s1 s2]⟩
    · obtain ⟨b1, b2⟩ := (l4 q q1 q2).2 (fun w => z ⟨by omega, w.2⟩)
      exact ⟨by rw [e6, b1], fun s s1 s2 => by rw [e5 s s1 s2, b2 s s1 s2]⟩
end LAYA
