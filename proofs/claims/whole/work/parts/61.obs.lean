/-! what is seen of an entry: how many walls, the cheapest wall, the marks -/
theorem zct_r (K : Int → Int) (A : Int → Prop) (p : Int) : 0 ≤ zct K A p ∧ zct K A p ≤ 128 := zcnt_r _ 128
theorem zW_pos (K : Int → Int) (a : Int) (A : Int → Int → Prop) (r : Nat) : ∀ e w, 0 ≤ zW K a A r e w := by
  induction r with
  | zero =>
    intro e w
    rw [zW]
    by_cases h : zfin K a 0 e ∧ zfin K a 1 w
    · rw [zif_t h]; decide
    · rw [zif_f h]; decide
  | succ r ih =>
    intro e w
    rw [zW]
    refine zsum_pos fun x _ _ => ?_
    by_cases h : zdel K a 0 e x ≠ -1
    · rw [zif_t h]
      refine zsum_pos fun y _ _ => ?_
      by_cases h2 : zdel K a 1 w y ≠ -1
      · rw [zif_t h2]
        exact Int.mul_nonneg (zct_r K _ _).1 (ih _ _)
      · rw [zif_f h2]; decide
    · rw [zif_f h]; decide
theorem zsum_gt {f : Int → Int} {n : Nat} (h : ∀ l : Int, 0 ≤ l → l < n → 0 ≤ f l) : 0 < zsum f n ↔ ∃ l : Int, (0 ≤ l ∧ l < n) ∧ 0 < f l := by
  induction n with
  | zero => exact ⟨fun q => by simp [zsum] at q, fun ⟨l, q, _⟩ => by omega⟩
  | succ n ih =>
    have h1 := zsum_pos (f := f) (n := n) (fun l g1 g2 => h l g1 (by omega))
    have h2 := h n (by omega) (by omega)
    have ih' := ih (fun l g1 g2 => h l g1 (by omega))
    rw [zsum]
    constructor
    · intro q
      by_cases e : 0 < f n
      · exact ⟨n, by omega, e⟩
      · obtain ⟨l, q1, q2⟩ := ih'.1 (by omega)
        exact ⟨l, by omega, q2⟩
    · rintro ⟨l, q1, q2⟩
      by_cases e : l = n
      · subst e; omega
      · have := ih'.2 ⟨l, by omega, q2⟩; omega
theorem zmul_gt {a b : Int} (ha : 0 ≤ a) (hb : 0 ≤ b) : 0 < a * b ↔ 0 < a ∧ 0 < b := by
  constructor
  · intro h
    refine ⟨?_, ?_⟩
    · by_cases e : a = 0
      · subst e; simp at h
      · omega
    · by_cases e : b = 0
      · subst e; simp at h
      · omega
  · rintro ⟨h1, h2⟩; exact Int.mul_pos h1 h2
/-- a wall more, from a set -/
theorem zct_gt {K : Int → Int} {A : Int → Prop} {p : Int} : 0 < zct K A p ↔ ∃ s : Int, (0 ≤ s ∧ s < 128) ∧ A s ∧ zpr K s = p := zcnt_pos
theorem zpr_x {K : Int → Int} {s x y : Int} (hx : 0 ≤ x ∧ x < 27) (hy : 0 ≤ y ∧ y < 27) : zpr K s = x * 27 + y ↔ zsgn K 0 s = x ∧ zsgn K 1 s = y := by
  have h0 := zsgn_r K 0 s
  have h1 := zsgn_r K 1 s
  unfold zpr
  omega
theorem zW_gt {K : Int → Int} {a : Int} {A : Int → Int → Prop} {r : Nat} {e w : Int} : 0 < zW K a A (r + 1) e w ↔ ∃ s : Int, (0 ≤ s ∧ s < 128) ∧ A (r : Int) s ∧ zon K a e w s ∧ 0 < zW K a A r (zdel K a 0 e (zsgn K 0 s)) (zdel K a 1 w (zsgn K 1 s)) := by
  rw [zW]
  have hy : ∀ x y : Int, 0 ≤ zif (zdel K a 1 w y ≠ -1) (zct K (A (r : Int)) (x * 27 + y) * zW K a A r (zdel K a 0 e x) (zdel K a 1 w y)) 0 := by
    intro x y
    by_cases h2 : zdel K a 1 w y ≠ -1
    · rw [zif_t h2]; exact Int.mul_nonneg (zct_r K _ _).1 (zW_pos _ _ _ _ _ _)
    · rw [zif_f h2]; decide
  have hx : ∀ x : Int, 0 ≤ zif (zdel K a 0 e x ≠ -1) (zsum (fun y => zif (zdel K a 1 w y ≠ -1) (zct K (A (r : Int)) (x * 27 + y) * zW K a A r (zdel K a 0 e x) (zdel K a 1 w y)) 0) 27) 0 := by
    intro x
    by_cases h : zdel K a 0 e x ≠ -1
    · rw [zif_t h]; exact zsum_pos fun y _ _ => hy x y
    · rw [zif_f h]; decide
  rw [zsum_gt (fun x _ _ => hx x)]
  constructor
  · rintro ⟨x, q1, q2⟩
    by_cases h : zdel K a 0 e x ≠ -1
    · rw [zif_t h, zsum_gt (fun y _ _ => hy x y)] at q2
      obtain ⟨y, q3, q4⟩ := q2
      by_cases h2 : zdel K a 1 w y ≠ -1
      · rw [zif_t h2, zmul_gt (zct_r K _ _).1 (zW_pos _ _ _ _ _ _)] at q4
        obtain ⟨s, g1, g2, g3⟩ := zct_gt.1 q4.1
        obtain ⟨e1, e2⟩ := (zpr_x q1 q3).1 g3
        subst e1
        subst e2
        exact ⟨s, g1, g2, ⟨h, h2⟩, q4.2⟩
      · rw [zif_f h2] at q4; omega
    · rw [zif_f h] at q2; omega
  · rintro ⟨s, g1, g2, ⟨h, h2⟩, g3⟩
    have r0 := zsgn_r K 0 s
    have r1 := zsgn_r K 1 s
    refine ⟨zsgn K 0 s, by omega, ?_⟩
    rw [zif_t h, zsum_gt (fun y _ _ => hy _ y)]
    refine ⟨zsgn K 1 s, by omega, ?_⟩
    rw [zif_t h2, zmul_gt (zct_r K _ _).1 (zW_pos _ _ _ _ _ _)]
    exact ⟨zct_gt.2 ⟨s, g1, g2, rfl⟩, g3⟩
theorem zct_congr {K : Int → Int} {A B : Int → Prop} {p : Int} (h : ∀ s, 0 ≤ s → s < 128 → (A s ↔ B s)) : zct K A p = zct K B p := zcnt_congr fun s h1 h2 => by rw [h s h1 h2]
theorem zW_congr {K : Int → Int} {a : Int} {A B : Int → Int → Prop} {r : Nat} (h : ∀ (c s : Int), 0 ≤ c → c < r → 0 ≤ s → s < 128 → (A c s ↔ B c s)) : ∀ e w, zW K a A r e w = zW K a B r e w := by
  induction r with
  | zero => intro e w; rw [zW, zW]
  | succ r ih =>
    intro e w
    rw [zW, zW]
    refine zsum_congr fun x _ _ => zif_congr Iff.rfl (fun _ => zsum_congr fun y _ _ => zif_congr Iff.rfl (fun _ => ?_) (fun _ => rfl)) (fun _ => rfl)
    rw [ih (fun c s h1 h2 => h c s h1 (by omega)), zct_congr (fun s h1 h2 => h r s (by omega) (by omega) h1 h2)]
/-- one cell more, through a table of pairs -/
noncomputable def zStp (K : Int → Int) (a : Int) (op : Int → Int → Int) (z : Int) (wy ct le sh : Int → Int) (n : Int) (O : Int → Int → Int → Int → Int → Int → Int → Int) (c k h l m e w : Int) : Int :=
  zfo op z (fun x => zif (zdel K a 0 e x ≠ -1) (zfo op z (fun y => zif (zdel K a 1 w y ≠ -1) (zif (0 < wy (x * 27 + y)) (O (c * wy (x * 27 + y)) (k + ct (x * 27 + y)) (if n < 8 then h * 128 + le (x * 27 + y) else h) (if n < 8 then l else l * 128 + le (x * 27 + y)) (zor m (sh (x * 27 + y))) (zdel K a 0 e x) (zdel K a 1 w y)) z) z) 27) z) 27
section STP
variable {K : Int → Int} {a : Int} {A : Int → Int → Prop} {wy ct le sh : Int → Int} {n : Int}
theorem zStp_cnt {r : Nat} {c k h l m e w : Int} (hw : ∀ p, 0 ≤ p → p < 729 → wy p = zct K (A (r : Int)) p) (hc : 0 ≤ c) : zStp K a zoc 0 wy ct le sh n (fun c _ _ _ _ e w => min 1000000000000 (c * zW K a A r e w)) c k h l m e w = min 1000000000000 (c * zW K a A (r + 1) e w) := by
  have hy : ∀ x y : Int, 0 ≤ zif (zdel K a 1 w y ≠ -1) (zct K (A (r : Int)) (x * 27 + y) * zW K a A r (zdel K a 0 e x) (zdel K a 1 w y)) 0 := by
    intro x y
    by_cases h2 : zdel K a 1 w y ≠ -1
    · rw [zif_t h2]; exact Int.mul_nonneg (zct_r K _ _).1 (zW_pos _ _ _ _ _ _)
    · rw [zif_f h2]; decide
  have hx : ∀ x : Int, 0 ≤ zif (zdel K a 0 e x ≠ -1) (zsum (fun y => zif (zdel K a 1 w y ≠ -1) (zct K (A (r : Int)) (x * 27 + y) * zW K a A r (zdel K a 0 e x) (zdel K a 1 w y)) 0) 27) 0 := by
    intro x
    by_cases h : zdel K a 0 e x ≠ -1
    · rw [zif_t h]; exact zsum_pos fun y _ _ => hy x y
    · rw [zif_f h]; decide
  rw [zW, zsum_mul, ← zfo_cnt (fun x _ _ => Int.mul_nonneg hc (hx x))]
  unfold zStp
  refine zfo_congr fun x x1 x2 => ?_
  by_cases h : zdel K a 0 e x ≠ -1
  · rw [zif_t h, zif_t h, zsum_mul, ← zfo_cnt (fun y _ _ => Int.mul_nonneg hc (hy x y))]
    refine zfo_congr fun y y1 y2 => ?_
    by_cases h2 : zdel K a 1 w y ≠ -1
    · rw [zif_t h2, zif_t h2]
      have e1 := hw (x * 27 + y) (by omega) (by omega)
      have e2 := zct_r K (A (r : Int)) (x * 27 + y)
      by_cases h3 : 0 < wy (x * 27 + y)
      · rw [zif_t h3, e1]
        show min 1000000000000 (c * zct K (A (r : Int)) (x * 27 + y) * _) = _
        rw [Int.mul_assoc]
      · rw [zif_f h3]
        have e3 : zct K (A (r : Int)) (x * 27 + y) = 0 := by omega
        rw [e3, Int.zero_mul, Int.mul_zero]
        rfl
    · rw [zif_f h2, zif_f h2, Int.mul_zero]; rfl
  · rw [zif_f h, zif_f h, Int.mul_zero]; rfl
/-- two counts together -/
theorem zcnt_take {c d W : Int} (hc : 0 ≤ c) (hd : 0 ≤ d) (hW : 0 ≤ W) : min 1000000000000 (min 1000000000000 (c + d) * W) = zoc (min 1000000000000 (c * W)) (min 1000000000000 (d * W)) := by
  have h1 := Int.mul_nonneg hc hW
  have h2 := Int.mul_nonneg hd hW
  unfold zoc
  by_cases h : c + d ≤ 1000000000000
  · have e : min 1000000000000 (c + d) = c + d := by omega
    rw [e, Int.add_mul]
    omega
  · have e : min 1000000000000 (c + d) = 1000000000000 := by omega
    rw [e]
    by_cases hz : W = 0
    · subst hz; simp only [Int.mul_zero]; omega
    · have h3 : (c + d) * 1 ≤ (c + d) * W := Int.mul_le_mul_of_nonneg_left (by omega) (by omega)
      rw [Int.mul_one, Int.add_mul] at h3
      omega
end STP
/-! the cheapest wall -/
theorem zcs_r {K : Int → Int} (hK : ∀ i, 0 ≤ i → i < 7 → 0 ≤ K (293 + i) ∧ K (293 + i) ≤ 99) (s : Int) (k : Nat) (hk : k ≤ 7) : 0 ≤ zcs K s k ∧ zcs K s k ≤ 99 * k := by
  induction k with
  | zero => simp [zcs]
  | succ k ih =>
    have h1 := ih (by omega)
    have h2 := hK k (by omega) (by omega)
    rw [zcs]
    split <;> omega
def zcok (K : Int → Int) : Prop := ∀ i, 0 ≤ i → i < 7 → 0 ≤ K (293 + i) ∧ K (293 + i) ≤ 99
theorem zcst_r {K : Int → Int} (hK : zcok K) (s : Int) : 0 ≤ zcst K s ∧ zcst K s ≤ 693 := zcs_r hK s 7 (by decide)
theorem zpow_pos (r : Nat) : (0 : Int) < 128 ^ r := Int.pow_pos (by decide)
theorem zpow_s (r : Nat) : (128 : Int) ^ (r + 1) = 128 ^ r * 128 := Int.pow_succ 128 r
theorem zpow_le (r : Nat) (h : r ≤ 16) : (128 : Int) ^ r ≤ 128 ^ 16 := by
  obtain ⟨d, hd⟩ : ∃ d, 16 = r + d := ⟨16 - r, by omega⟩
  rw [hd, Int.pow_add]
  have h1 := zpow_pos r
  have h2 := zpow_pos d
  have := Int.mul_le_mul_of_nonneg_left (show (1 : Int) ≤ 128 ^ d by omega) (show (0 : Int) ≤ 128 ^ r by omega)
  omega
theorem zB_r {K : Int → Int} (hK : zcok K) (r : Nat) : ∀ e w, 0 ≤ zB K r e w ∧ zB K r e w ≤ zinf := by
  induction r with
  | zero =>
    intro e w
    rw [zB]
    by_cases h : zfin K 0 0 e ∧ zfin K 0 1 w
    · rw [zif_t h]; unfold zinf; decide
    · rw [zif_f h]; unfold zinf; decide
  | succ r ih =>
    intro e w
    rw [zB]
    have hz : (0 : Int) ≤ zinf := by unfold zinf; decide
    refine ⟨?_, zmin_le.1⟩
    rcases zmin_at (z := zinf) (f := (fun s => zif (zon K 0 e w s) (min zinf (zcst K s * 128 ^ 16 + s * 128 ^ r + zB K r (zdel K 0 0 e (zsgn K 0 s)) (zdel K 0 1 w (zsgn K 1 s)))) zinf)) (n := 128) with h | ⟨l, h1, h2⟩
    · rw [h]; exact hz
    · rw [h2]
      by_cases h3 : zon K 0 e w l
      · rw [zif_t h3]
        have g1 := Int.mul_nonneg (zcst_r hK l).1 (show (0 : Int) ≤ 128 ^ 16 by decide)
        have g2 := Int.mul_nonneg h1.1 (Int.le_of_lt (zpow_pos r))
        have g3 := (ih (zdel K 0 0 e (zsgn K 0 l)) (zdel K 0 1 w (zsgn K 1 l))).1
        omega
      · rw [zif_f h3]; exact hz
/-- what a set gives -/
theorem zB_le {K : Int → Int} {r : Nat} {e w s : Int} (hs : 0 ≤ s ∧ s < 128) (h : zon K 0 e w s) : zB K (r + 1) e w ≤ zcst K s * 128 ^ 16 + s * 128 ^ r + zB K r (zdel K 0 0 e (zsgn K 0 s)) (zdel K 0 1 w (zsgn K 1 s)) := by
  rw [zB]
  have := (zmin_le (z := zinf) (f := (fun s => zif (zon K 0 e w s) (min zinf (zcst K s * 128 ^ 16 + s * 128 ^ r + zB K r (zdel K 0 0 e (zsgn K 0 s)) (zdel K 0 1 w (zsgn K 1 s)))) zinf)) (n := 128)).2 s hs.1 hs.2
  rw [zif_t h] at this
  omega
theorem zB_at {K : Int → Int} {r : Nat} {e w : Int} (h : zB K (r + 1) e w < zinf) : ∃ s : Int, (0 ≤ s ∧ s < 128) ∧ zon K 0 e w s ∧ zB K (r + 1) e w = zcst K s * 128 ^ 16 + s * 128 ^ r + zB K r (zdel K 0 0 e (zsgn K 0 s)) (zdel K 0 1 w (zsgn K 1 s)) := by
  rw [zB] at h ⊢
  rcases zmin_at (z := zinf) (f := (fun s => zif (zon K 0 e w s) (min zinf (zcst K s * 128 ^ 16 + s * 128 ^ r + zB K r (zdel K 0 0 e (zsgn K 0 s)) (zdel K 0 1 w (zsgn K 1 s)))) zinf)) (n := 128) with g | ⟨s, h1, h2⟩
  · omega
  · rw [h2] at h ⊢
    by_cases h3 : zon K 0 e w s
    · rw [zif_t h3] at h ⊢
      exact ⟨s, h1, h3, by omega⟩
    · rw [zif_f h3] at h; omega
def zPm (K : Int → Int) (wy ct le : Int → Int) : Prop := ∀ p, 0 ≤ p → p < 729 → (0 < wy p ↔ ∃ s : Int, (0 ≤ s ∧ s < 128) ∧ zpr K s = p) ∧ (0 < wy p → (0 ≤ le p ∧ le p < 128) ∧ zpr K (le p) = p ∧ ct p = zcst K (le p) ∧ ∀ s, 0 ≤ s → s < 128 → zpr K s = p → zcst K (le p) < zcst K s ∨ (zcst K (le p) = zcst K s ∧ le p ≤ s))
noncomputable def zO2 (K : Int → Int) (n : Int) (r : Nat) (k h l e w : Int) : Int := zif (k < 1000000) (min zinf (k * 128 ^ 16 + zwall n h l * 128 ^ r + zB K r e w)) zinf
theorem zwall_s {n h l s : Int} (hn : 0 ≤ n) (h8 : n ≤ 8 → l = 0) : zwall (n + 1) (if n < 8 then h * 128 + s else h) (if n < 8 then l else l * 128 + s) = zwall n h l * 128 + s := by
  unfold zwall
  by_cases h1 : n < 8
  · rw [if_pos h1, if_pos h1, if_pos (by omega), if_pos (by omega)]
  · rw [if_neg h1, if_neg h1, if_neg (by omega)]
    have e : (n + 1 - 8).toNat = (n - 8).toNat + 1 := by omega
    rw [e, Int.pow_succ]
    by_cases h2 : n ≤ 8
    · rw [if_pos h2, h8 h2]
      have e2 : (n - 8).toNat = 0 := by omega
      rw [e2]
      omega
    · rw [if_neg h2, Int.add_mul, Int.mul_assoc, Int.add_assoc]
theorem zStp_key {K : Int → Int} {wy ct le sh : Int → Int} {n : Int} {r : Nat} {c k h l m e w : Int} (hK : zcok K) (hP : zPm K wy ct le) (hn : 0 ≤ n) (hr : r ≤ 15) (hk : 0 ≤ k ∧ k < 900000) (hh : 0 ≤ h ∧ 0 ≤ l) (h8 : n ≤ 8 → l = 0) : zStp K 0 min zinf wy ct le sh n (fun _ k h l _ e w => zO2 K (n + 1) r k h l e w) c k h l m e w = zO2 K n (r + 1) k h l e w := by
  have hz : (0 : Int) ≤ zinf := by unfold zinf; decide
  have hB := zB_r hK (r + 1) e w
  have hwn : 0 ≤ zwall n h l := by
    unfold zwall
    split
    · exact hh.1
    · have := Int.mul_nonneg hh.1 (Int.le_of_lt (zpow_pos (n - 8).toNat)); omega
  have hq := Int.mul_nonneg hwn (Int.le_of_lt (zpow_pos (r + 1)))
  have hkk := Int.mul_nonneg hk.1 (show (0 : Int) ≤ 128 ^ 16 by decide)
  have hR : zO2 K n (r + 1) k h l e w = min zinf (k * 128 ^ 16 + zwall n h l * 128 ^ (r + 1) + zB K (r + 1) e w) := by
    unfold zO2; rw [zif_t (by omega)]
  rw [hR]
  -- the term of a pair
  have hT : ∀ x y : Int, 0 ≤ x → x < 27 → 0 ≤ y → y < 27 → 0 < wy (x * 27 + y) → zO2 K (n + 1) r (k + ct (x * 27 + y)) (if n < 8 then h * 128 + le (x * 27 + y) else h) (if n < 8 then l else l * 128 + le (x * 27 + y)) (zdel K 0 0 e x) (zdel K 0 1 w y) = min zinf (k * 128 ^ 16 + zwall n h l * 128 ^ (r + 1) + (zcst K (le (x * 27 + y)) * 128 ^ 16 + le (x * 27 + y) * 128 ^ r + zB K r (zdel K 0 0 e x) (zdel K 0 1 w y))) := by
    intro x y x1 x2 y1 y2 hw
    have hp := (hP (x * 27 + y) (by omega) (by omega)).2 hw
    have hc := zcst_r hK (le (x * 27 + y))
    unfold zO2
    have e1 : zwall n h l * 128 ^ (r + 1) = zwall n h l * 128 * 128 ^ r := by rw [zpow_s, Int.mul_assoc, Int.mul_comm (128 ^ r) 128]
    rw [zif_t (by rw [hp.2.2.1]; omega), zwall_s hn h8, hp.2.2.1, e1, Int.add_mul k, Int.add_mul (zwall n h l * 128)]
    congr 1
    omega
  apply Int.le_antisymm
  · -- at the wall that is cheapest
    unfold zStp
    refine Int.le_min.2 ⟨zfo_min_le.1, ?_⟩
    by_cases hf : zB K (r + 1) e w < zinf
    · obtain ⟨s, hs, ho, he⟩ := zB_at hf
      have r0 := zsgn_r K 0 s
      have r1 := zsgn_r K 1 s
      refine Int.le_trans (zfo_min_le.2 (zsgn K 0 s) r0.1 (by omega)) ?_
      show zif (zdel K 0 0 e (zsgn K 0 s) ≠ -1) _ _ ≤ _
      rw [zif_t ho.1]
      refine Int.le_trans (zfo_min_le.2 (zsgn K 1 s) r1.1 (by omega)) ?_
      show zif (zdel K 0 1 w (zsgn K 1 s) ≠ -1) _ _ ≤ _
      rw [zif_t ho.2]
      have hpp : zpr K s = zsgn K 0 s * 27 + zsgn K 1 s := rfl
      have hP' := hP (zsgn K 0 s * 27 + zsgn K 1 s) (by omega) (by omega)
      have hw : 0 < wy (zsgn K 0 s * 27 + zsgn K 1 s) := hP'.1.2 ⟨s, hs, hpp⟩
      have hle := (hP'.2 hw).2.2.2 s hs.1 hs.2 hpp
      have hlr := (hP'.2 hw).1
      rw [zif_t hw]
      refine Int.le_trans (Int.le_of_eq (hT _ _ r0.1 (by omega) r1.1 (by omega) hw)) ?_
      rw [he]
      have hpw := zpow_pos r
      have hp16 : (128 : Int) ^ r * 128 ≤ 128 ^ 16 := by rw [← zpow_s]; exact zpow_le _ (by omega)
      generalize hL : le (zsgn K 0 s * 27 + zsgn K 1 s) = L at *
      generalize hD : zB K r (zdel K 0 0 e (zsgn K 0 s)) (zdel K 0 1 w (zsgn K 1 s)) = D at *
      generalize hE : (128 : Int) ^ r = E at *
      have hkey : zcst K L * 128 ^ 16 + L * E ≤ zcst K s * 128 ^ 16 + s * E := by
        rcases hle with g | ⟨g1, g2⟩
        · have a1 : (zcst K L + 1) * 128 ^ 16 ≤ zcst K s * 128 ^ 16 := Int.mul_le_mul_of_nonneg_right (by omega) (by decide)
          rw [Int.add_mul] at a1
          have a2 : L * E ≤ 127 * E := Int.mul_le_mul_of_nonneg_right (by omega) (by omega)
          have a3 : 0 ≤ s * E := Int.mul_nonneg hs.1 (by omega)
          omega
        · have a2 : L * E ≤ s * E := Int.mul_le_mul_of_nonneg_right g2 (by omega)
          rw [g1]
          omega
      omega
    · refine Int.le_trans zfo_min_le.1 ?_
      omega
  · -- no pair gives less
    unfold zStp
    rcases zfo_min_at (z := zinf) (f := (fun x => zif (zdel K 0 0 e x ≠ -1) (zfo min zinf (fun y => zif (zdel K 0 1 w y ≠ -1) (zif (0 < wy (x * 27 + y)) (zO2 K (n + 1) r (k + ct (x * 27 + y)) (if n < 8 then h * 128 + le (x * 27 + y) else h) (if n < 8 then l else l * 128 + le (x * 27 + y)) (zdel K 0 0 e x) (zdel K 0 1 w y)) zinf) zinf) 27) zinf)) (n := 27) with g | ⟨x, x1, g⟩
    · rw [g]; omega
    · rw [g]
      by_cases h1 : zdel K 0 0 e x ≠ -1
      · show _ ≤ zif (zdel K 0 0 e x ≠ -1) _ _
        rw [zif_t h1]
        rcases zfo_min_at (z := zinf) (f := (fun y => zif (zdel K 0 1 w y ≠ -1) (zif (0 < wy (x * 27 + y)) (zO2 K (n + 1) r (k + ct (x * 27 + y)) (if n < 8 then h * 128 + le (x * 27 + y) else h) (if n < 8 then l else l * 128 + le (x * 27 + y)) (zdel K 0 0 e x) (zdel K 0 1 w y)) zinf) zinf)) (n := 27) with g2 | ⟨y, y1, g2⟩
        · rw [g2]; omega
        · rw [g2]
          by_cases h2 : zdel K 0 1 w y ≠ -1
          · show _ ≤ zif (zdel K 0 1 w y ≠ -1) _ _
            rw [zif_t h2]
            by_cases h3 : 0 < wy (x * 27 + y)
            · rw [zif_t h3]
              refine Int.le_trans ?_ (Int.le_of_eq (hT x y x1.1 x1.2 y1.1 y1.2 h3).symm)
              obtain ⟨l1, l2, -⟩ := (hP (x * 27 + y) (by omega) (by omega)).2 h3
              obtain ⟨e1, e2⟩ := (zpr_x x1 y1).1 l2
              have := zB_le (K := K) (r := r) (e := e) (w := w) l1 (by unfold zon; rw [e1, e2]; exact ⟨h1, h2⟩)
              rw [e1, e2] at this
              omega
            · rw [zif_f h3]; omega
          · show _ ≤ zif (zdel K 0 1 w y ≠ -1) _ _
            rw [zif_f h2]; omega
      · show _ ≤ zif (zdel K 0 0 e x ≠ -1) _ _
        rw [zif_f h1]; omega
