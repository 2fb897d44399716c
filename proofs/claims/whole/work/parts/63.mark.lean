/-! the marks -/
theorem zfo_max {p : Int → Prop} {n : Nat} : zfo max 0 (fun l => zif (p l) 1 0) n = zif (∃ l : Int, (0 ≤ l ∧ l < n) ∧ p l) 1 0 := by
  induction n with
  | zero => rw [zfo, zif_f]; rintro ⟨l, h, -⟩; omega
  | succ n ih =>
    rw [zfo, ih]
    by_cases h : p n
    · rw [zif_t h, zif_t (p := ∃ l : Int, (0 ≤ l ∧ l < (n + 1 : Nat)) ∧ p l) ⟨n, by omega, h⟩]
      by_cases h2 : ∃ l : Int, (0 ≤ l ∧ l < n) ∧ p l
      · rw [zif_t h2]; decide
      · rw [zif_f h2]; decide
    · rw [zif_f h]
      have e : (∃ l : Int, (0 ≤ l ∧ l < (n + 1 : Nat)) ∧ p l) ↔ ∃ l : Int, (0 ≤ l ∧ l < n) ∧ p l := by
        constructor
        · rintro ⟨l, q1, q2⟩
          have : l ≠ n := fun e => h (e ▸ q2)
          exact ⟨l, by omega, q2⟩
        · rintro ⟨l, q1, q2⟩
          exact ⟨l, by omega, q2⟩
      rw [zif_congr e (fun _ => rfl) (fun _ => rfl)]
      by_cases h2 : ∃ l : Int, (0 ≤ l ∧ l < n) ∧ p l
      · rw [zif_t h2]; decide
      · rw [zif_f h2]; decide
theorem zif_and {p q : Prop} : zif p (zif q 1 0) 0 = zif (p ∧ q) 1 0 := by
  by_cases hp : p
  · rw [zif_t hp]
    exact zif_congr ⟨fun h => ⟨hp, h⟩, fun h => h.2⟩ (fun _ => rfl) (fun _ => rfl)
  · rw [zif_f hp, zif_f (fun h => hp h.1)]
theorem zStp_max {K : Int → Int} {a : Int} {wy ct le sh : Int → Int} {n : Int} {O : Int → Int → Int → Int → Int → Int → Int → Int} {q : Int → Int → Prop} {c k h l m e w : Int} (hO : ∀ x y, 0 ≤ x → x < 27 → 0 ≤ y → y < 27 → zdel K a 0 e x ≠ -1 → zdel K a 1 w y ≠ -1 → 0 < wy (x * 27 + y) → O (c * wy (x * 27 + y)) (k + ct (x * 27 + y)) (if n < 8 then h * 128 + le (x * 27 + y) else h) (if n < 8 then l else l * 128 + le (x * 27 + y)) (zor m (sh (x * 27 + y))) (zdel K a 0 e x) (zdel K a 1 w y) = zif (q x y) 1 0) : zStp K a max 0 wy ct le sh n O c k h l m e w = zif (∃ x y : Int, ((0 ≤ x ∧ x < 27) ∧ (0 ≤ y ∧ y < 27)) ∧ (zdel K a 0 e x ≠ -1 ∧ zdel K a 1 w y ≠ -1) ∧ 0 < wy (x * 27 + y) ∧ q x y) 1 0 := by
  unfold zStp
  rw [zfo_congr (g := fun x => zif (zdel K a 0 e x ≠ -1 ∧ ∃ y : Int, (0 ≤ y ∧ y < (27 : Nat)) ∧ zdel K a 1 w y ≠ -1 ∧ 0 < wy (x * 27 + y) ∧ q x y) 1 0) (fun x x1 x2 => by
    rw [← zif_and, ← zfo_max]
    refine zif_congr Iff.rfl (fun hx => zfo_congr fun y y1 y2 => ?_) (fun _ => rfl)
    rw [← zif_and]
    refine zif_congr Iff.rfl (fun hy => ?_) (fun _ => rfl)
    rw [← zif_and]
    exact zif_congr Iff.rfl (fun hw => hO x y x1 (by omega) y1 (by omega) hx hy hw) (fun _ => rfl)), zfo_max]
  refine zif_congr ⟨?_, ?_⟩ (fun _ => rfl) (fun _ => rfl)
  · rintro ⟨x, x1, x2, y, y1, y2, y3, y4⟩
    exact ⟨x, y, ⟨by omega, by omega⟩, ⟨x2, y2⟩, y3, y4⟩
  · rintro ⟨x, y, ⟨x1, y1⟩, ⟨x2, y2⟩, y3, y4⟩
    exact ⟨x, by omega, x2, y, by omega, y2, y3, y4⟩
/-- a wall more, through pairs -/
theorem zW_gx {K : Int → Int} {a : Int} {A : Int → Int → Prop} {r : Nat} {e w : Int} : 0 < zW K a A (r + 1) e w ↔ ∃ x y : Int, ((0 ≤ x ∧ x < 27) ∧ (0 ≤ y ∧ y < 27)) ∧ (zdel K a 0 e x ≠ -1 ∧ zdel K a 1 w y ≠ -1) ∧ 0 < zct K (A (r : Int)) (x * 27 + y) ∧ 0 < zW K a A r (zdel K a 0 e x) (zdel K a 1 w y) := by
  rw [zW_gt]
  constructor
  · rintro ⟨s, s1, s2, s3, s4⟩
    have r0 := zsgn_r K 0 s
    have r1 := zsgn_r K 1 s
    exact ⟨zsgn K 0 s, zsgn K 1 s, ⟨by omega, by omega⟩, s3, zct_gt.2 ⟨s, s1, s2, rfl⟩, s4⟩
  · rintro ⟨x, y, ⟨x1, y1⟩, h1, h2, h3⟩
    obtain ⟨s, s1, s2, s3⟩ := zct_gt.1 h2
    obtain ⟨e1, e2⟩ := (zpr_x x1 y1).1 s3
    subst e1
    subst e2
    exact ⟨s, s1, s2, h1, h3⟩
section MARK
variable {K : Int → Int} {a : Int} {A B : Int → Int → Prop} {wy ct le sh : Int → Int} {n : Int} {r : Nat} {c k h l m e w : Int}
/-- behind the cell that is asked for -/
theorem zStp_b1 {j : Nat} (hw : ∀ p, 0 ≤ p → p < 729 → wy p = zct K (A (r : Int)) p) (hm : ∀ p, 0 ≤ p → p < 729 → 0 < wy p → zor m (sh p) = m) : zStp K a max 0 wy ct le sh n (fun _ _ _ _ m e w => zif (zbt m j ∧ 0 < zW K a A r e w) 1 0) c k h l m e w = zif (zbt m j ∧ 0 < zW K a A (r + 1) e w) 1 0 := by
  rw [zStp_max (q := fun x y => zbt m j ∧ 0 < zW K a A r (zdel K a 0 e x) (zdel K a 1 w y)) (fun x y x1 x2 y1 y2 _ _ hp => by
    show zif (zbt (zor m (sh (x * 27 + y))) j ∧ _) 1 0 = _
    rw [hm _ (by omega) (by omega) hp])]
  refine zif_congr ?_ (fun _ => rfl) (fun _ => rfl)
  rw [zW_gx]
  constructor
  · rintro ⟨x, y, ⟨x1, y1⟩, h1, h2, h3, h4⟩
    exact ⟨h3, x, y, ⟨x1, y1⟩, h1, by rw [← hw _ (by omega) (by omega)]; exact h2, h4⟩
  · rintro ⟨h3, x, y, ⟨x1, y1⟩, h1, h2, h4⟩
    exact ⟨x, y, ⟨x1, y1⟩, h1, by rw [hw _ (by omega) (by omega)]; exact h2, h3, h4⟩
/-- at the cell that is asked for -/
theorem zStp_b2 {j : Nat} {mk : Int → Int} (hw : ∀ p, 0 ≤ p → p < 729 → wy p = zct K (A (r : Int)) p) (hm : ∀ p, 0 ≤ p → p < 729 → 0 < wy p → (zbt (zor m (sh p)) j ↔ ∃ s, (0 ≤ s ∧ s < 128) ∧ A (r : Int) s ∧ zpr K s = p ∧ zbt (mk s) j)) (hB : ∀ s, B (r : Int) s ↔ (A (r : Int) s ∧ zbt (mk s) j)) (hB2 : ∀ (c s : Int), 0 ≤ c → c < r → 0 ≤ s → s < 128 → (A c s ↔ B c s)) (hc : 0 < c) : zStp K a max 0 wy ct le sh n (fun _ _ _ _ m e w => zif (zbt m j ∧ 0 < zW K a A r e w) 1 0) c k h l m e w = zif (0 < c ∧ 0 < zW K a B (r + 1) e w) 1 0 := by
  rw [zStp_max (q := fun x y => zbt (zor m (sh (x * 27 + y))) j ∧ 0 < zW K a A r (zdel K a 0 e x) (zdel K a 1 w y)) (fun x y x1 x2 y1 y2 _ _ hp => rfl)]
  refine zif_congr ?_ (fun _ => rfl) (fun _ => rfl)
  rw [zW_gx]
  constructor
  · rintro ⟨x, y, ⟨x1, y1⟩, h1, h2, h3, h4⟩
    refine ⟨hc, x, y, ⟨x1, y1⟩, h1, ?_, by rw [← zW_congr hB2]; exact h4⟩
    obtain ⟨s, s1, s2, s3, s4⟩ := (hm _ (by omega) (by omega) h2).1 h3
    exact zct_gt.2 ⟨s, s1, (hB s).2 ⟨s2, s4⟩, s3⟩
  · rintro ⟨-, x, y, ⟨x1, y1⟩, h1, h2, h4⟩
    obtain ⟨s, s1, s2, s3⟩ := zct_gt.1 h2
    have hp : 0 < wy (x * 27 + y) := by
      rw [hw _ (by omega) (by omega)]
      exact zct_gt.2 ⟨s, s1, ((hB s).1 s2).1, s3⟩
    exact ⟨x, y, ⟨x1, y1⟩, h1, hp, (hm _ (by omega) (by omega) hp).2 ⟨s, s1, ((hB s).1 s2).1, s3, ((hB s).1 s2).2⟩, by rw [zW_congr hB2]; exact h4⟩
/-- ahead of it -/
theorem zStp_b3 (hw : ∀ p, 0 ≤ p → p < 729 → wy p = zct K (B (r : Int)) p) (hc : 0 < c) : zStp K a max 0 wy ct le sh n (fun c _ _ _ _ e w => zif (0 < c ∧ 0 < zW K a B r e w) 1 0) c k h l m e w = zif (0 < c ∧ 0 < zW K a B (r + 1) e w) 1 0 := by
  rw [zStp_max (q := fun x y => 0 < c * wy (x * 27 + y) ∧ 0 < zW K a B r (zdel K a 0 e x) (zdel K a 1 w y)) (fun x y x1 x2 y1 y2 _ _ hp => rfl)]
  refine zif_congr ?_ (fun _ => rfl) (fun _ => rfl)
  rw [zW_gx]
  constructor
  · rintro ⟨x, y, ⟨x1, y1⟩, h1, h2, h3, h4⟩
    exact ⟨hc, x, y, ⟨x1, y1⟩, h1, by rw [← hw _ (by omega) (by omega)]; exact h2, h4⟩
  · rintro ⟨-, x, y, ⟨x1, y1⟩, h1, h2, h4⟩
    have hp : 0 < wy (x * 27 + y) := by rw [hw _ (by omega) (by omega)]; exact h2
    exact ⟨x, y, ⟨x1, y1⟩, h1, hp, Int.mul_pos hc hp, h4⟩
end MARK
