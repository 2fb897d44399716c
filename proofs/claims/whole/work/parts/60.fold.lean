/-! folds -/
def zMo (op : Int → Int → Int) (z : Int) : Prop := (∀ a b c, op (op a b) c = op a (op b c)) ∧ (∀ a b, op a b = op b a) ∧ op z z = z
def zfo (op : Int → Int → Int) (z : Int) (f : Int → Int) : Nat → Int
  | 0 => z
  | n + 1 => op (zfo op z f n) (f (n : Int))
section FOLD
variable {op : Int → Int → Int} {z : Int}
theorem zMo.swap (hm : zMo op z) (a b c : Int) : op (op a b) c = op (op a c) b := by
  rw [hm.1, hm.2.1 b c, ← hm.1]
theorem zfo_0 {f : Int → Int} : zfo op z f (0 : Int).toNat = z := rfl
theorem zfo_s {f : Int → Int} {i : Int} (h : 0 ≤ i) : zfo op z f (i + 1).toNat = op (zfo op z f i.toNat) (f i) := by
  have e : (i + 1).toNat = i.toNat + 1 := by omega
  rw [e, zfo, Int.toNat_of_nonneg h]
theorem zfo_z (hm : zMo op z) (f : Int → Int) (n : Nat) : op (zfo op z f n) z = zfo op z f n := by
  induction n with
  | zero => exact hm.2.2
  | succ n ih => rw [zfo, hm.swap, ih]
theorem zfo_zl (hm : zMo op z) (f : Int → Int) (n : Nat) : op z (zfo op z f n) = zfo op z f n := by rw [hm.2.1, zfo_z hm]
theorem zab_op (hm : zMo op z) {X : Int} (h : op X z = X) (d : Int) : op (op X d) z = op X d := by rw [hm.swap, h]
theorem zfo_congr {f g : Int → Int} {n : Nat} (h : ∀ l : Int, 0 ≤ l → l < n → f l = g l) : zfo op z f n = zfo op z g n := by
  induction n with
  | zero => rfl
  | succ n ih => rw [zfo, zfo, ih (fun l h1 h2 => h l h1 (by omega)), h n (by omega) (by omega)]
theorem zfo_zz (hm : zMo op z) {f : Int → Int} {n : Nat} (h : ∀ l : Int, 0 ≤ l → l < n → f l = z) : zfo op z f n = z := by
  induction n with
  | zero => rfl
  | succ n ih => rw [zfo, ih (fun l h1 h2 => h l h1 (by omega)), h n (by omega) (by omega), hm.2.2]
/-- one of them has more -/
theorem zfo_upd (hm : zMo op z) {f g : Int → Int} {n : Nat} {j d : Int} (hj : 0 ≤ j) (hn : j < n) (h : ∀ l : Int, 0 ≤ l → l < n → l ≠ j → g l = f l) (hd : g j = op (f j) d) : zfo op z g n = op (zfo op z f n) d := by
  induction n with
  | zero => omega
  | succ n ih =>
    rw [zfo, zfo]
    by_cases e : j = n
    · subst e
      rw [hd, zfo_congr (g := f) (fun l h1 h2 => h l h1 (by omega) (by omega)), hm.1]
    · rw [ih (by omega) (fun l h1 h2 h3 => h l h1 (by omega) h3), h n (by omega) (by omega) (fun e' => e e'.symm), hm.swap]
/-- one that was nothing -/
theorem zfo_new (hm : zMo op z) {f g : Int → Int} {n : Nat} {j : Int} (hj : 0 ≤ j) (hn : j < n) (h : ∀ l : Int, 0 ≤ l → l < n → l ≠ j → g l = f l) (hd : f j = z) : zfo op z g n = op (zfo op z f n) (g j) := by
  induction n with
  | zero => omega
  | succ n ih =>
    rw [zfo, zfo]
    by_cases e : j = n
    · subst e
      rw [hd, zfo_congr (g := f) (fun l h1 h2 => h l h1 (by omega) (by omega)), zfo_z hm]
    · rw [ih (by omega) (fun l h1 h2 h3 => h l h1 (by omega) h3), h n (by omega) (by omega) (fun e' => e e'.symm), hm.swap]
/-- through kinds that are all apart -/
theorem zfo_inj (hm : zMo op z) {g k : Int → Int} {N : Nat} (m : Nat) (hk : ∀ a : Int, 0 ≤ a → a < m → 0 ≤ k a ∧ k a < N) (hd : ∀ a b : Int, 0 ≤ a → a < b → b < m → k a ≠ k b) : zfo op z (fun a => g (k a)) m = zfo op z (fun x => zif (∃ a : Int, (0 ≤ a ∧ a < m) ∧ k a = x) (g x) z) N := by
  induction m with
  | zero =>
    rw [zfo_zz hm (f := fun x => zif (∃ a : Int, (0 ≤ a ∧ a < (0 : Nat)) ∧ k a = x) (g x) z) (fun l _ _ => zif_f (by rintro ⟨a, h1, h2⟩; omega))]
    rfl
  | succ m ih =>
    have hb := hk m (by omega) (by omega)
    rw [zfo, ih (fun a h1 h2 => hk a h1 (by omega)) (fun a b h1 h2 h3 => hd a b h1 h2 (by omega))]
    have key := zfo_new hm (f := fun x => zif (∃ a : Int, (0 ≤ a ∧ a < m) ∧ k a = x) (g x) z) (g := fun x => zif (∃ a : Int, (0 ≤ a ∧ a < (m + 1 : Nat)) ∧ k a = x) (g x) z) (n := N) (j := k m) hb.1 hb.2 (fun l h1 h2 h3 => zif_congr ⟨fun ⟨a, q1, q2⟩ => ⟨a, ⟨by omega, by
      have : a ≠ m := fun e => h3 (by rw [← q2, e])
      omega⟩, q2⟩, fun ⟨a, q1, q2⟩ => ⟨a, by omega, q2⟩⟩ (fun _ => rfl) (fun _ => rfl)) (zif_f (by
        rintro ⟨a, q1, q2⟩
        exact hd a m q1.1 q1.2 (by omega) q2))
    rw [key]
    congr 1
    exact (zif_t ⟨(m : Int), ⟨by omega, by omega⟩, rfl⟩).symm
end FOLD
/-- counts up to 10 ^ 12 -/
def zoc (a b : Int) : Int := min 1000000000000 (max 0 a + max 0 b)
theorem zoc_mo : zMo zoc 0 := by
  refine ⟨fun a b c => ?_, fun a b => ?_, ?_⟩
  · unfold zoc; omega
  · unfold zoc; omega
  · decide
theorem zomin_mo (z : Int) : zMo min z := ⟨fun a b c => by omega, fun a b => by omega, by omega⟩
theorem zomax_mo (z : Int) : zMo max z := ⟨fun a b c => by omega, fun a b => by omega, by omega⟩
theorem zfo_cnt {f : Int → Int} {n : Nat} (h : ∀ l : Int, 0 ≤ l → l < n → 0 ≤ f l) : zfo zoc 0 (fun l => min 1000000000000 (f l)) n = min 1000000000000 (zsum f n) := by
  induction n with
  | zero => rfl
  | succ n ih =>
    have h1 := h n (by omega) (by omega)
    have h2 := zsum_pos (f := f) (n := n) (fun l g1 g2 => h l g1 (by omega))
    rw [zfo, ih (fun l g1 g2 => h l g1 (by omega)), zsum]
    unfold zoc
    omega
theorem zsum_mul {f : Int → Int} (c : Int) (n : Nat) : c * zsum f n = zsum (fun l => c * f l) n := by
  induction n with
  | zero => simp [zsum]
  | succ n ih => rw [zsum, zsum, Int.mul_add, ih]
/-- the least of a row -/
theorem zfo_min_le {z : Int} {f : Int → Int} {n : Nat} : (zfo min z f n ≤ z) ∧ ∀ l : Int, 0 ≤ l → l < n → zfo min z f n ≤ f l := by
  induction n with
  | zero => exact ⟨by rw [zfo]; omega, fun l h1 h2 => by omega⟩
  | succ n ih =>
    rw [zfo]
    refine ⟨by omega, fun l h1 h2 => ?_⟩
    by_cases e : l = n
    · subst e; omega
    · have := ih.2 l h1 (by omega); omega
theorem zfo_min_at {z : Int} {f : Int → Int} {n : Nat} : zfo min z f n = z ∨ ∃ l : Int, (0 ≤ l ∧ l < n) ∧ zfo min z f n = f l := by
  induction n with
  | zero => exact Or.inl rfl
  | succ n ih =>
    rw [zfo]
    by_cases e : zfo min z f n ≤ f n
    · have e' : min (zfo min z f n) (f n) = zfo min z f n := by omega
      rw [e']
      rcases ih with ih | ⟨l, h1, h2⟩
      · exact Or.inl ih
      · exact Or.inr ⟨l, by omega, h2⟩
    · exact Or.inr ⟨n, by omega, by omega⟩
theorem zmin_le {z : Int} {f : Int → Int} {n : Nat} : (zmin z f n ≤ z) ∧ ∀ l : Int, 0 ≤ l → l < n → zmin z f n ≤ f l := by
  induction n with
  | zero => exact ⟨by rw [zmin]; omega, fun l h1 h2 => by omega⟩
  | succ n ih =>
    rw [zmin]
    refine ⟨by omega, fun l h1 h2 => ?_⟩
    by_cases e : l = n
    · subst e; omega
    · have := ih.2 l h1 (by omega); omega
theorem zmin_at {z : Int} {f : Int → Int} {n : Nat} : zmin z f n = z ∨ ∃ l : Int, (0 ≤ l ∧ l < n) ∧ zmin z f n = f l := by
  induction n with
  | zero => exact Or.inl rfl
  | succ n ih =>
    rw [zmin]
    by_cases e : zmin z f n ≤ f n
    · have e' : min (zmin z f n) (f n) = zmin z f n := by omega
      rw [e']
      rcases ih with ih | ⟨l, h1, h2⟩
      · exact Or.inl ih
      · exact Or.inr ⟨l, by omega, h2⟩
    · exact Or.inr ⟨n, by omega, by omega⟩
