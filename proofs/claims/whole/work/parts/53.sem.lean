/-! what the numbers mean: K is what the reference keeps -/
noncomputable def zif (p : Prop) (a b : Int) : Int := @ite _ p (Classical.propDecidable p) a b
theorem zif_t {p : Prop} {a b : Int} (h : p) : zif p a b = a := by unfold zif; exact if_pos h
theorem zif_f {p : Prop} {a b : Int} (h : ¬ p) : zif p a b = b := by unfold zif; exact if_neg h
theorem zif_eq {p : Prop} [Decidable p] {a b : Int} : zif p a b = if p then a else b := by
  by_cases h : p
  · rw [zif_t h, if_pos h]
  · rw [zif_f h, if_neg h]
theorem zif_congr {p q : Prop} {a b a' b' : Int} (h : p ↔ q) (ha : p → a = a') (hb : ¬ p → b = b') : zif p a b = zif q a' b' := by
  by_cases hp : p
  · rw [zif_t hp, zif_t (h.1 hp), ha hp]
  · rw [zif_f hp, zif_f (fun hq => hp (h.2 hq)), hb hp]
/-- the least l < n that has p; n if there is none -/
noncomputable def zlst (p : Int → Prop) : Nat → Int
  | 0 => 0
  | n + 1 => zif (zlst p n < (n : Int)) (zlst p n) (zif (p (n : Int)) (n : Int) ((n : Int) + 1))
/-- how many s < n have p -/
noncomputable def zcnt (p : Int → Prop) : Nat → Int
  | 0 => 0
  | n + 1 => zcnt p n + zif (p (n : Int)) 1 0
def zsum (f : Int → Int) : Nat → Int
  | 0 => 0
  | n + 1 => zsum f n + f (n : Int)
/-- the least of x and f 0 .. f (n - 1) -/
def zmin (x : Int) (f : Int → Int) : Nat → Int
  | 0 => x
  | n + 1 => min (zmin x f n) (f (n : Int))
theorem zlst_p (p : Int → Prop) (n : Nat) : (0 ≤ zlst p n ∧ zlst p n ≤ n) ∧ (zlst p n < n → p (zlst p n)) ∧ ∀ l, 0 ≤ l → l < zlst p n → ¬ p l := by
  induction n with
  | zero => refine ⟨⟨by simp [zlst], by simp [zlst]⟩, fun h => by simp [zlst] at h, fun l h1 h2 => by simp [zlst] at h2; omega⟩
  | succ n ih =>
    obtain ⟨⟨h1, h2⟩, h3, h4⟩ := ih
    by_cases hl : zlst p n < (n : Int)
    · have e : zlst p (n + 1) = zlst p n := by rw [zlst, zif_t hl]
      rw [e]
      exact ⟨⟨h1, by omega⟩, fun _ => h3 hl, h4⟩
    · have e0 : zlst p n = n := by omega
      by_cases hp : p (n : Int)
      · have e : zlst p (n + 1) = n := by rw [zlst, zif_f hl, zif_t hp]
        rw [e]
        refine ⟨⟨by omega, by omega⟩, fun _ => hp, fun l g1 g2 => h4 l g1 (by omega)⟩
      · have e : zlst p (n + 1) = (n : Int) + 1 := by rw [zlst, zif_f hl, zif_f hp]
        rw [e]
        refine ⟨⟨by omega, by omega⟩, fun h => by omega, fun l g1 g2 => ?_⟩
        by_cases hn : l = n
        · rw [hn]; exact hp
        · exact h4 l g1 (by omega)
theorem zlst_u {p : Int → Prop} {n : Nat} {v : Int} (h1 : 0 ≤ v ∧ v ≤ n) (h2 : v < n → p v) (h3 : ∀ l, 0 ≤ l → l < v → ¬ p l) : zlst p n = v := by
  obtain ⟨⟨g1, g2⟩, g3, g4⟩ := zlst_p p n
  rcases Int.lt_trichotomy (zlst p n) v with h | h | h
  · exact absurd (g3 (by omega)) (h3 _ g1 h)
  · exact h
  · exact absurd (h2 (by omega)) (g4 _ h1.1 h)
theorem zlst_congr {p q : Int → Prop} {n : Nat} (h : ∀ l : Int, 0 ≤ l → l < n → (p l ↔ q l)) : zlst p n = zlst q n := by
  obtain ⟨g1, g3, g4⟩ := zlst_p q n
  exact zlst_u (p := p) (v := zlst q n) g1 (fun hv => (h (zlst q n) g1.1 hv).2 (g3 hv)) (fun l h1 h2 hp => g4 l h1 h2 ((h l h1 (by omega)).1 hp))
theorem zcnt_congr {p q : Int → Prop} {n : Nat} (h : ∀ l : Int, 0 ≤ l → l < n → (p l ↔ q l)) : zcnt p n = zcnt q n := by
  induction n with
  | zero => rfl
  | succ n ih =>
    rw [zcnt, zcnt, ih (fun l h1 h2 => h l h1 (by omega))]
    congr 1
    exact zif_congr (h _ (by omega) (by omega)) (fun _ => rfl) (fun _ => rfl)
theorem zcnt_r (p : Int → Prop) (n : Nat) : 0 ≤ zcnt p n ∧ zcnt p n ≤ n := by
  induction n with
  | zero => simp [zcnt]
  | succ n ih =>
    rw [zcnt]
    by_cases h : p n
    · rw [zif_t h]; omega
    · rw [zif_f h]; omega
theorem zcnt_pos {p : Int → Prop} {n : Nat} : 0 < zcnt p n ↔ ∃ s : Int, (0 ≤ s ∧ s < n) ∧ p s := by
  induction n with
  | zero =>
    refine ⟨fun h => by simp [zcnt] at h, ?_⟩
    rintro ⟨s, h1, h2⟩
    omega
  | succ n ih =>
    rw [zcnt]
    have := zcnt_r p n
    constructor
    · intro h
      by_cases hp : p n
      · exact ⟨n, by omega, hp⟩
      · rw [zif_f hp] at h
        obtain ⟨s, h1, h2⟩ := ih.1 (by omega)
        exact ⟨s, by omega, h2⟩
    · rintro ⟨s, h1, h2⟩
      by_cases hs : s = n
      · rw [zif_t (hs ▸ h2)]; omega
      · have := ih.2 ⟨s, by omega, h2⟩
        by_cases hp : p n
        · rw [zif_t hp]; omega
        · rw [zif_f hp]; omega
theorem zsum_congr {f g : Int → Int} {n : Nat} (h : ∀ l : Int, 0 ≤ l → l < n → f l = g l) : zsum f n = zsum g n := by
  induction n with
  | zero => rfl
  | succ n ih => rw [zsum, zsum, ih (fun l h1 h2 => h l h1 (by omega)), h n (by omega) (by omega)]
theorem zsum_pos {f : Int → Int} {n : Nat} (h : ∀ l : Int, 0 ≤ l → l < n → 0 ≤ f l) : 0 ≤ zsum f n := by
  induction n with
  | zero => simp [zsum]
  | succ n ih => rw [zsum]; have := ih (fun l h1 h2 => h l h1 (by omega)); have := h n (by omega) (by omega); omega
theorem zmin_congr {x : Int} {f g : Int → Int} {n : Nat} (h : ∀ l : Int, 0 ≤ l → l < n → f l = g l) : zmin x f n = zmin x g n := by
  induction n with
  | zero => rfl
  | succ n ih => rw [zmin, zmin, ih (fun l h1 h2 => h l h1 (by omega)), h n (by omega) (by omega)]
/-- the cut: what the tables, the stories told -/
def zkc (K : Int → Int) : Int → Int := fun i => if (0 ≤ i ∧ i < 300) ∨ (366 ≤ i ∧ i < 376) then K i else 0
theorem zkc_congr {K K' : Int → Int} (h : ∀ i, ((0 ≤ i ∧ i < 300) ∨ (366 ≤ i ∧ i < 376)) → K' i = K i) : zkc K' = zkc K := by
  funext i
  unfold zkc
  by_cases hi : (0 ≤ i ∧ i < 300) ∨ (366 ≤ i ∧ i < 376)
  · rw [if_pos hi, if_pos hi, h i hi]
  · rw [if_neg hi, if_neg hi]
theorem zkc_in {K : Int → Int} {i : Int} (h : (0 ≤ i ∧ i < 300) ∨ (366 ≤ i ∧ i < 376)) : zkc K i = K i := if_pos h
/-- the strokes as who walks west sees them; what they cost; as which sign they are read -/
def zseen (K : Int → Int) (s : Int) : Nat → Int
  | 0 => 0
  | k + 1 => if s / 2 ^ k % 2 = 1 then zor (zseen K s k) (2 ^ (K (286 + (k : Int))).toNat) else zseen K s k
def zcs (K : Int → Int) (s : Int) : Nat → Int
  | 0 => 0
  | k + 1 => zcs K s k + if s / 2 ^ k % 2 = 1 then K (293 + (k : Int)) else 0
def zsee (K : Int → Int) (t s : Int) : Int := if t = 0 then s else zseen K s 7
def zcst (K : Int → Int) (s : Int) : Int := zcs K s 7
def zfit (K : Int → Int) (t s l : Int) : Prop := K (3 * (26 * t + l)) = 1 ∧ zand (zsee K t s) (K (3 * (26 * t + l) + 1)) = K (3 * (26 * t + l) + 1) ∧ zand (zsee K t s) (K (3 * (26 * t + l) + 2)) = 0
noncomputable def zsgn (K : Int → Int) (t s : Int) : Int := zlst (zfit K t s) 26
theorem zsgn_r (K : Int → Int) (t s : Int) : 0 ≤ zsgn K t s ∧ zsgn K t s ≤ 26 := (zlst_p (zfit K t s) 26).1
/-- the rows of signs that a tongue may show: places, steps, ends (a = 1: any words) -/
def zmn (K : Int → Int) (t w : Int) : Int := K (156 + 8 * (8 * t + w))
def zwl (K : Int → Int) (t w : Int) : Int := K (156 + 8 * (8 * t + w) + 1)
def zla (K : Int → Int) (t w k : Int) : Int := K (156 + 8 * (8 * t + w) + (2 + (if t = 0 then k else zwl K t w - 1 - k)))
def zfits (K : Int → Int) (a t w m : Int) : Prop := a = 1 ∨ zmn K t w = K (366 + 4 * t + (if t = 0 then m else K (374 + t) - 1 - m))
def zalk (K : Int → Int) (t w o n : Int) : Prop := n ≤ zwl K t w ∧ n ≤ zwl K t o ∧ ∀ k, 0 ≤ k → k < n → zla K t w k = zla K t o k
def zwho (K : Int → Int) (a t m n o : Int) : Prop := ∃ w, (0 ≤ w ∧ w < K (284 + t)) ∧ 0 < n ∧ zfits K a t w m ∧ zwl K t w = n ∧ zalk K t w o n
def zpl (m n w : Int) : Int := (m * 7 + n) * 8 + w
def zms (K : Int → Int) (a t : Int) : Int := if a = 1 then 1 else K (374 + t)
def zfol (K : Int → Int) (a t m n o s w : Int) : Prop := zfits K a t w m ∧ n < zwl K t w ∧ (n = 0 ∨ zalk K t w o n) ∧ zla K t w n = s
def zval (K : Int → Int) (a t q : Int) : Prop := 0 ≤ q ∧ q / 56 < zms K a t ∧ q % 8 < (if q / 8 % 7 = 0 then 1 else K (284 + t))
noncomputable def zdel (K : Int → Int) (a t q s : Int) : Int :=
  zif (zms K a t = 0) (zif (q = 0 ∧ s = 26) 0 (-1)) (zif (zval K a t q)
    (zif (s = 26) (zif (zwho K a t (q / 56) (q / 8 % 7) (q % 8)) (if a = 1 then 0 else if q / 56 < zms K a t - 1 then zpl (q / 56 + 1) 0 0 else -1) (-1))
      (zif (zlst (zfol K a t (q / 56) (q / 8 % 7) (q % 8) s) (K (284 + t)).toNat < K (284 + t)) (zpl (q / 56) (q / 8 % 7 + 1) (zlst (zfol K a t (q / 56) (q / 8 % 7) (q % 8) s) (K (284 + t)).toNat)) (-1))) (-1))
def zfin (K : Int → Int) (a t q : Int) : Prop := (zms K a t = 0 ∧ q = 0) ∨ (zms K a t ≠ 0 ∧ zval K a t q ∧ zwho K a t (q / 56) (q / 8 % 7) (q % 8) ∧ q / 56 = zms K a t - 1)
/-- set s leads on from places e, w -/
def zon (K : Int → Int) (a e w s : Int) : Prop := zdel K a 0 e (zsgn K 0 s) ≠ -1 ∧ zdel K a 1 w (zsgn K 1 s) ≠ -1
/-- how many sets of A show pair p -/
noncomputable def zpr (K : Int → Int) (s : Int) : Int := zsgn K 0 s * 27 + zsgn K 1 s
noncomputable def zct (K : Int → Int) (A : Int → Prop) (p : Int) : Int := zcnt (fun s => A s ∧ zpr K s = p) 128
/-- how many walls of r cells more; A: which sets may stand in the cell that has r behind it -/
noncomputable def zW (K : Int → Int) (a : Int) (A : Int → Int → Prop) : Nat → Int → Int → Int
  | 0, e, w => zif (zfin K a 0 e ∧ zfin K a 1 w) 1 0
  | r + 1, e, w => zsum (fun x => zif (zdel K a 0 e x ≠ -1) (zsum (fun y => zif (zdel K a 1 w y ≠ -1) (zct K (A (r : Int)) (x * 27 + y) * zW K a A r (zdel K a 0 e x) (zdel K a 1 w y)) 0) 27) 0) 27
/-- the cheapest of them, and of alike ones the lowest: cost * 128 ^ 16 + cells, seven bits each -/
def zinf : Int := 10 ^ 60
noncomputable def zB (K : Int → Int) : Nat → Int → Int → Int
  | 0, e, w => zif (zfin K 0 0 e ∧ zfin K 0 1 w) 0 zinf
  | r + 1, e, w => zmin zinf (fun s => zif (zon K 0 e w s) (min zinf (zcst K s * 128 ^ 16 + s * 128 ^ r + zB K r (zdel K 0 0 e (zsgn K 0 s)) (zdel K 0 1 w (zsgn K 1 s)))) zinf) 128
/-- its cost alone -/
noncomputable def zL (K : Int → Int) : Nat → Int → Int → Int
  | 0, e, w => zif (zfin K 0 0 e ∧ zfin K 0 1 w) 0 1000000000
  | r + 1, e, w => zmin 1000000000 (fun s => zif (zon K 0 e w s ∧ zL K r (zdel K 0 0 e (zsgn K 0 s)) (zdel K 0 1 w (zsgn K 1 s)) ≠ 1000000000) (zcst K s + zL K r (zdel K 0 0 e (zsgn K 0 s)) (zdel K 0 1 w (zsgn K 1 s))) 1000000000) 128
