/-! of two walls the lower one; the cost alone; the first wall cell by cell -/
def zHl (n h l : Int) : Prop := 0 ≤ h ∧ 0 ≤ l ∧ (n ≤ 8 → h < 128 ^ n.toNat ∧ l = 0) ∧ (8 < n → h < 128 ^ 8 ∧ l < 128 ^ (n - 8).toNat)
theorem zHl_s {n h l s : Int} (hn : 0 ≤ n) (g : zHl n h l) (hs : 0 ≤ s ∧ s < 128) : zHl (n + 1) (if n < 8 then h * 128 + s else h) (if n < 8 then l else l * 128 + s) := by
  obtain ⟨h1, h2, h3, h4⟩ := g
  by_cases h8 : n < 8
  · rw [if_pos h8, if_pos h8]
    obtain ⟨g1, g2⟩ := h3 (by omega)
    refine ⟨by omega, h2, fun _ => ⟨?_, g2⟩, fun _ => by omega⟩
    have e : (n + 1).toNat = n.toNat + 1 := by omega
    rw [e, zpow_s]
    generalize (128 : Int) ^ n.toNat = E at *
    omega
  · rw [if_neg h8, if_neg h8]
    refine ⟨h1, by omega, fun _ => by omega, fun _ => ?_⟩
    have e : (n + 1 - 8).toNat = (n - 8).toNat + 1 := by omega
    rw [e, zpow_s]
    by_cases e8 : n = 8
    · subst e8
      obtain ⟨g1, g2⟩ := h3 (by omega)
      exact ⟨g1, by rw [g2]; simp; omega⟩
    · obtain ⟨g1, g2⟩ := h4 (by omega)
      refine ⟨g1, ?_⟩
      omega
theorem zHl_0 : zHl 0 0 0 := ⟨by decide, by decide, fun _ => ⟨by decide, rfl⟩, fun h => by omega⟩
theorem zwall_r {n h l : Int} (hn : 0 ≤ n) (g : zHl n h l) : 0 ≤ zwall n h l ∧ zwall n h l < 128 ^ n.toNat := by
  obtain ⟨h1, h2, h3, h4⟩ := g
  unfold zwall
  by_cases h8 : n ≤ 8
  · rw [if_pos h8]
    exact ⟨h1, (h3 h8).1⟩
  · rw [if_neg h8]
    obtain ⟨g1, g2⟩ := h4 (by omega)
    have e : n.toNat = 8 + (n - 8).toNat := by omega
    rw [e, Int.pow_add]
    have hE := zpow_pos (n - 8).toNat
    generalize (128 : Int) ^ (n - 8).toNat = E at *
    have a1 : (h + 1) * E ≤ 128 ^ 8 * E := Int.mul_le_mul_of_nonneg_right (by omega) (by omega)
    rw [Int.add_mul] at a1
    have a2 := Int.mul_nonneg h1 (Int.le_of_lt hE)
    omega
theorem zwall_lt {n h l h2 l2 : Int} (g : zHl n h l) (g' : zHl n h2 l2) : (h2 < h ∨ (h2 = h ∧ l2 < l)) ↔ zwall n h2 l2 < zwall n h l := by
  obtain ⟨a1, a2, a3, a4⟩ := g
  obtain ⟨b1, b2, b3, b4⟩ := g'
  unfold zwall
  by_cases h8 : n ≤ 8
  · rw [if_pos h8, if_pos h8]
    have := (a3 h8).2
    have := (b3 h8).2
    omega
  · rw [if_neg h8, if_neg h8]
    have c1 := (a4 (by omega)).2
    have c2 := (b4 (by omega)).2
    have hE := zpow_pos (n - 8).toNat
    generalize (128 : Int) ^ (n - 8).toNat = E at *
    rcases Int.lt_trichotomy h2 h with q | q | q
    · have : (h2 + 1) * E ≤ h * E := Int.mul_le_mul_of_nonneg_right (by omega) (by omega)
      rw [Int.add_mul] at this
      exact ⟨fun _ => by omega, fun _ => Or.inl q⟩
    · subst q
      omega
    · have : (h + 1) * E ≤ h2 * E := Int.mul_le_mul_of_nonneg_right (by omega) (by omega)
      rw [Int.add_mul] at this
      omega
theorem zO2_le {K : Int → Int} {n : Int} {r : Nat} {k h l e w : Int} : zO2 K n r k h l e w ≤ zinf := by
  unfold zO2
  by_cases q : k < 1000000
  · rw [zif_t q]; omega
  · rw [zif_f q]; omega
theorem zO2_blank {K : Int → Int} {n : Int} {r : Nat} {h l e w : Int} : zO2 K n r 1000000 h l e w = zinf := zif_f (by omega)
/-- what take keeps: the cheaper, of alike ones the lower -/
theorem zO2_take {K : Int → Int} {n : Int} {r : Nat} {k h l k2 h2 l2 e w : Int} (hn : 0 ≤ n) (hr : n + r ≤ 16) (hk2 : 0 ≤ k2 ∧ k2 < 1000000) (hk : k = 1000000 ∨ (0 ≤ k ∧ k < 1000000 ∧ zHl n h l)) (g' : zHl n h2 l2) : (((k2 < k ∨ (k2 = k ∧ (h2 < h ∨ (h2 = h ∧ l2 < l)))) → zO2 K n r k2 h2 l2 e w = min (zO2 K n r k h l e w) (zO2 K n r k2 h2 l2 e w)) ∧ (¬ (k2 < k ∨ (k2 = k ∧ (h2 < h ∨ (h2 = h ∧ l2 < l)))) → zO2 K n r k h l e w = min (zO2 K n r k h l e w) (zO2 K n r k2 h2 l2 e w))) := by
  rcases hk with hk | ⟨q1, q2, g⟩
  · subst hk
    rw [zO2_blank]
    have := zO2_le (K := K) (n := n) (r := r) (k := k2) (h := h2) (l := l2) (e := e) (w := w)
    exact ⟨fun _ => by omega, fun q => by omega⟩
  · have e1 := zwall_lt g g'
    have r1 := zwall_r hn g
    have r2 := zwall_r hn g'
    unfold zO2
    rw [zif_t hk2.2, zif_t q2]
    have hp : (128 : Int) ^ n.toNat * 128 ^ r ≤ 128 ^ 16 := by
      rw [← Int.pow_add]
      exact zpow_le _ (by omega)
    have hE := zpow_pos r
    generalize zwall n h l = X at *
    generalize zwall n h2 l2 = Y at *
    generalize (128 : Int) ^ r = E at *
    generalize (128 : Int) ^ n.toNat = F at *
    generalize zB K r e w = D
    have x1 : (X + 1) * E ≤ F * E := Int.mul_le_mul_of_nonneg_right (by omega) (by omega)
    have y1 : (Y + 1) * E ≤ F * E := Int.mul_le_mul_of_nonneg_right (by omega) (by omega)
    rw [Int.add_mul] at x1 y1
    have x0 : 0 ≤ X * E := Int.mul_nonneg r1.1 (by omega)
    have y0 : 0 ≤ Y * E := Int.mul_nonneg r2.1 (by omega)
    rw [e1]
    refine ⟨fun q => ?_, fun q => ?_⟩
    · have : k2 * 128 ^ 16 + Y * E ≤ k * 128 ^ 16 + X * E := by
        rcases q with q | ⟨q, q3⟩
        · omega
        · have : Y * E ≤ X * E := Int.mul_le_mul_of_nonneg_right (by omega) (by omega)
          omega
      omega
    · have : k * 128 ^ 16 + X * E ≤ k2 * 128 ^ 16 + Y * E := by
        by_cases q3 : k2 = k
        · have : X * E ≤ Y * E := Int.mul_le_mul_of_nonneg_right (by omega) (by omega)
          omega
        · omega
      omega
/-- set s is one of the cheapest beginnings -/
def zch1 (K : Int → Int) (r : Nat) (e w s : Int) : Prop := zon K 0 e w s ∧ zL K r (zdel K 0 0 e (zsgn K 0 s)) (zdel K 0 1 w (zsgn K 1 s)) ≠ 1000000000 ∧ zcst K s + zL K r (zdel K 0 0 e (zsgn K 0 s)) (zdel K 0 1 w (zsgn K 1 s)) = zL K (r + 1) e w
theorem zL_r {K : Int → Int} (hK : zcok K) (r : Nat) (hr : r ≤ 16) : ∀ e w, 0 ≤ zL K r e w ∧ (zL K r e w = 1000000000 ∨ zL K r e w ≤ 693 * r) := by
  induction r with
  | zero =>
    intro e w
    rw [zL]
    by_cases h : zfin K 0 0 e ∧ zfin K 0 1 w
    · rw [zif_t h]; omega
    · rw [zif_f h]; omega
  | succ r ih =>
    intro e w
    rw [zL]
    rcases zmin_at (z := 1000000000) (f := (fun s => zif (zon K 0 e w s ∧ zL K r (zdel K 0 0 e (zsgn K 0 s)) (zdel K 0 1 w (zsgn K 1 s)) ≠ 1000000000) (zcst K s + zL K r (zdel K 0 0 e (zsgn K 0 s)) (zdel K 0 1 w (zsgn K 1 s))) 1000000000)) (n := 128) with h | ⟨s, h1, h2⟩
    · rw [h]; omega
    · rw [h2]
      have := ih (by omega) (zdel K 0 0 e (zsgn K 0 s)) (zdel K 0 1 w (zsgn K 1 s))
      have := zcst_r hK s
      by_cases h3 : zon K 0 e w s ∧ zL K r (zdel K 0 0 e (zsgn K 0 s)) (zdel K 0 1 w (zsgn K 1 s)) ≠ 1000000000
      · rw [zif_t h3]
        have := h3.2
        omega
      · rw [zif_f h3]; omega
theorem zL_le {K : Int → Int} {r : Nat} {e w s : Int} (hs : 0 ≤ s ∧ s < 128) (h : zon K 0 e w s) (h2 : zL K r (zdel K 0 0 e (zsgn K 0 s)) (zdel K 0 1 w (zsgn K 1 s)) ≠ 1000000000) : zL K (r + 1) e w ≤ zcst K s + zL K r (zdel K 0 0 e (zsgn K 0 s)) (zdel K 0 1 w (zsgn K 1 s)) := by
  have q := (zmin_le (z := 1000000000) (f := (fun s => zif (zon K 0 e w s ∧ zL K r (zdel K 0 0 e (zsgn K 0 s)) (zdel K 0 1 w (zsgn K 1 s)) ≠ 1000000000) (zcst K s + zL K r (zdel K 0 0 e (zsgn K 0 s)) (zdel K 0 1 w (zsgn K 1 s))) 1000000000)) (n := 128)).2 s hs.1 hs.2
  rw [zif_t ⟨h, h2⟩] at q
  rw [zL]
  exact q
theorem zL_at {K : Int → Int} {r : Nat} {e w : Int} (h : zL K (r + 1) e w ≠ 1000000000) : ∃ s : Int, (0 ≤ s ∧ s < 128) ∧ zch1 K r e w s := by
  have h' := h
  rw [zL] at h
  rcases zmin_at (z := 1000000000) (f := (fun s => zif (zon K 0 e w s ∧ zL K r (zdel K 0 0 e (zsgn K 0 s)) (zdel K 0 1 w (zsgn K 1 s)) ≠ 1000000000) (zcst K s + zL K r (zdel K 0 0 e (zsgn K 0 s)) (zdel K 0 1 w (zsgn K 1 s))) 1000000000)) (n := 128) with g | ⟨s, h1, h2⟩
  · exact absurd g h
  · refine ⟨s, h1, ?_⟩
    by_cases h3 : zon K 0 e w s ∧ zL K r (zdel K 0 0 e (zsgn K 0 s)) (zdel K 0 1 w (zsgn K 1 s)) ≠ 1000000000
    · rw [zif_t h3] at h2
      refine ⟨h3.1, h3.2, ?_⟩
      rw [zL]
      exact h2.symm
    · rw [zif_f h3] at h2
      exact absurd h2 h
/-- the least of the cheapest beginnings -/
noncomputable def zfs (K : Int → Int) (r : Nat) (e w : Int) : Int := zlst (zch1 K r e w) 128
theorem zfs_p {K : Int → Int} {r : Nat} {e w : Int} (h : zL K (r + 1) e w ≠ 1000000000) : (0 ≤ zfs K r e w ∧ zfs K r e w < 128) ∧ zch1 K r e w (zfs K r e w) ∧ ∀ s, 0 ≤ s → s < zfs K r e w → ¬ zch1 K r e w s := by
  obtain ⟨⟨h1, h2⟩, h3, h4⟩ := zlst_p (zch1 K r e w) 128
  obtain ⟨s, g1, g2⟩ := zL_at h
  have : zlst (zch1 K r e w) 128 < 128 := by
    by_cases q : zlst (zch1 K r e w) 128 ≤ s
    · omega
    · exact absurd g2 (h4 s g1.1 (by omega))
  exact ⟨⟨h1, this⟩, h3 this, h4⟩
theorem zBL {K : Int → Int} (hK : zcok K) (r : Nat) (hr : r ≤ 16) : ∀ e w, (zB K r e w = zinf ∧ zL K r e w = 1000000000) ∨ (zL K r e w ≠ 1000000000 ∧ ∃ x, (0 ≤ x ∧ x < 128 ^ r) ∧ zB K r e w = zL K r e w * 128 ^ 16 + x) := by
  induction r with
  | zero =>
    intro e w
    rw [zL, zB]
    by_cases h : zfin K 0 0 e ∧ zfin K 0 1 w
    · rw [zif_t h, zif_t h]
      exact Or.inr ⟨by decide, 0, ⟨by decide, by decide⟩, by decide⟩
    · rw [zif_f h, zif_f h]
      exact Or.inl ⟨rfl, rfl⟩
  | succ r ih =>
    intro e w
    have ih' := ih (by omega)
    by_cases h : zL K (r + 1) e w = 1000000000
    · refine Or.inl ⟨?_, h⟩
      by_cases q : zB K (r + 1) e w < zinf
      · obtain ⟨s, s1, s2, s3⟩ := zB_at q
        rcases ih' (zdel K 0 0 e (zsgn K 0 s)) (zdel K 0 1 w (zsgn K 1 s)) with ⟨g1, g2⟩ | ⟨g1, -⟩
        · have a1 := Int.mul_nonneg (zcst_r hK s).1 (show (0 : Int) ≤ 128 ^ 16 by decide)
          have a2 := Int.mul_nonneg s1.1 (Int.le_of_lt (zpow_pos r))
          omega
        · have a1 := zL_le s1 s2 g1
          have a2 := zL_r hK r (by omega) (zdel K 0 0 e (zsgn K 0 s)) (zdel K 0 1 w (zsgn K 1 s))
          have a3 := zcst_r hK s
          omega
      · have := (zB_r hK (r + 1) e w).2
        omega
    · refine Or.inr ⟨h, ?_⟩
      obtain ⟨f1, ⟨f2, f3, f4⟩, f5⟩ := zfs_p h
      generalize zfs K r e w = f at *
      rcases ih' (zdel K 0 0 e (zsgn K 0 f)) (zdel K 0 1 w (zsgn K 1 f)) with ⟨g1, g2⟩ | ⟨g1, x, g2, g3⟩
      · exact absurd g2 f3
      · have hE := zpow_pos r
        have hE2 := zpow_s r
        have hE3 : (128 : Int) ^ (r + 1) ≤ 128 ^ 16 := zpow_le _ hr
        have k1 : f * 128 ^ r ≤ 127 * 128 ^ r := Int.mul_le_mul_of_nonneg_right (by omega) (by omega)
        have k2 : 0 ≤ f * 128 ^ r := Int.mul_nonneg f1.1 (by omega)
        refine ⟨f * 128 ^ r + x, ⟨by omega, by omega⟩, ?_⟩
        have le1 := zB_le (K := K) (r := r) f1 f2
        have c1 := zL_r hK r (by omega) (zdel K 0 0 e (zsgn K 0 f)) (zdel K 0 1 w (zsgn K 1 f))
        have c2 := zcst_r hK f
        have hzi : (zinf : Int) = 10 ^ 60 := rfl
        have key : zcst K f * 128 ^ 16 + f * 128 ^ r + zB K r (zdel K 0 0 e (zsgn K 0 f)) (zdel K 0 1 w (zsgn K 1 f)) = zL K (r + 1) e w * 128 ^ 16 + (f * 128 ^ r + x) := by
          rw [g3, ← f4, Int.add_mul]
          omega
        have lt1 : zB K (r + 1) e w < zinf := by
          have : (128 : Int) ^ 16 = 5192296858534827628530496329220096 := by decide
          rw [hzi]
          omega
        apply Int.le_antisymm
        · omega
        · obtain ⟨s, s1, s2, s3⟩ := zB_at lt1
          have d1 := zcst_r hK s
          have d2 : 0 ≤ s * 128 ^ r := Int.mul_nonneg s1.1 (by omega)
          rcases ih' (zdel K 0 0 e (zsgn K 0 s)) (zdel K 0 1 w (zsgn K 1 s)) with ⟨q1, q2⟩ | ⟨q1, y, q2, q3⟩
          · omega
          · have t1 := zL_le s1 s2 q1
            by_cases t2 : zcst K s + zL K r (zdel K 0 0 e (zsgn K 0 s)) (zdel K 0 1 w (zsgn K 1 s)) = zL K (r + 1) e w
            · have t3 : f ≤ s := by
                by_cases q : s < f
                · exact absurd ⟨s2, q1, t2⟩ (f5 s s1.1 q)
                · omega
              by_cases t4 : s = f
              · subst t4; omega
              · have : (f + 1) * 128 ^ r ≤ s * 128 ^ r := Int.mul_le_mul_of_nonneg_right (by omega) (by omega)
                rw [Int.add_mul] at this
                rw [s3, q3, ← t2]
                omega
            · rw [s3, q3]
              omega
/-- the first cell of the first wall -/
theorem zB_first {K : Int → Int} (hK : zcok K) (r : Nat) (hr : r ≤ 15) {e w : Int} (h : zL K (r + 1) e w ≠ 1000000000) : zB K (r + 1) e w = zcst K (zfs K r e w) * 128 ^ 16 + zfs K r e w * 128 ^ r + zB K r (zdel K 0 0 e (zsgn K 0 (zfs K r e w))) (zdel K 0 1 w (zsgn K 1 (zfs K r e w))) := by
  obtain ⟨f1, ⟨f2, f3, f4⟩, f5⟩ := zfs_p h
  generalize zfs K r e w = f at *
  have le1 := zB_le (K := K) (r := r) f1 f2
  apply Int.le_antisymm le1
  rcases zBL hK (r + 1) (by omega) e w with ⟨-, g⟩ | ⟨-, x0, -, x2⟩
  · exact absurd g h
  rcases zBL hK r (by omega) (zdel K 0 0 e (zsgn K 0 f)) (zdel K 0 1 w (zsgn K 1 f)) with ⟨-, g2⟩ | ⟨g1, x, g2, g3⟩
  · exact absurd g2 f3
  have hE := zpow_pos r
  have hE2 := zpow_s r
  have hE3 : (128 : Int) ^ (r + 1) ≤ 128 ^ 16 := zpow_le _ (by omega)
  have k1 : f * 128 ^ r ≤ 127 * 128 ^ r := Int.mul_le_mul_of_nonneg_right (by omega) (by omega)
  have c1 := zL_r hK r (by omega) (zdel K 0 0 e (zsgn K 0 f)) (zdel K 0 1 w (zsgn K 1 f))
  have c2 := zcst_r hK f
  have lt1 : zB K (r + 1) e w < zinf := by
    have : (128 : Int) ^ 16 = 5192296858534827628530496329220096 := by decide
    have hzi : (zinf : Int) = 10 ^ 60 := rfl
    rw [hzi]
    omega
  obtain ⟨s, s1, s2, s3⟩ := zB_at lt1
  have d1 := zcst_r hK s
  have d2 : 0 ≤ s * 128 ^ r := Int.mul_nonneg s1.1 (by omega)
  rcases zBL hK r (by omega) (zdel K 0 0 e (zsgn K 0 s)) (zdel K 0 1 w (zsgn K 1 s)) with ⟨q1, q2⟩ | ⟨q1, y, q2, q3⟩
  · omega
  · have t1 := zL_le s1 s2 q1
    by_cases t2 : zcst K s + zL K r (zdel K 0 0 e (zsgn K 0 s)) (zdel K 0 1 w (zsgn K 1 s)) = zL K (r + 1) e w
    · have t3 : f ≤ s := by
        by_cases q : s < f
        · exact absurd ⟨s2, q1, t2⟩ (f5 s s1.1 q)
        · omega
      by_cases t4 : s = f
      · subst t4; omega
      · have : (f + 1) * 128 ^ r ≤ s * 128 ^ r := Int.mul_le_mul_of_nonneg_right (by omega) (by omega)
        rw [Int.add_mul] at this
        omega
    · omega
theorem zW_L {K : Int → Int} (hK : zcok K) (r : Nat) (hr : r ≤ 16) : ∀ e w, 0 < zW K 0 (fun _ _ => True) r e w ↔ zL K r e w ≠ 1000000000 := by
  induction r with
  | zero =>
    intro e w
    rw [zW, zL]
    by_cases h : zfin K 0 0 e ∧ zfin K 0 1 w
    · rw [zif_t h, zif_t h]; decide
    · rw [zif_f h, zif_f h]; decide
  | succ r ih =>
    intro e w
    rw [zW_gt]
    constructor
    · rintro ⟨s, s1, -, s2, s3⟩
      have q1 := (ih (by omega) _ _).1 s3
      have t1 := zL_le s1 s2 q1
      have t2 := zL_r hK r (by omega) (zdel K 0 0 e (zsgn K 0 s)) (zdel K 0 1 w (zsgn K 1 s))
      have t3 := zcst_r hK s
      omega
    · intro h
      obtain ⟨s, s1, s2, s3, s4⟩ := zL_at h
      exact ⟨s, s1, trivial, s2, (ih (by omega) _ _).2 s3⟩
