/-! reading what was written; loops -/
theorem zwr_eq (V : zM) (x i v b j : Int) : zwr V x i v b j = if b = x ∧ j = i then v else V b j := by
  unfold zwr zs zu
  by_cases h : b = x
  · subst h
    by_cases h2 : j = i <;> simp [h2]
  · simp [h]
theorem zs_eq (V : zM) (a : Int) (f : Int → Int) (b j : Int) : zs V a f b j = if b = a then f j else V b j := by
  unfold zs
  by_cases h : b = a <;> simp [h]
theorem zcp_eq (V : zM) (d s sp dp n b j : Int) : zcp V d s sp dp n b j = if b = d ∧ dp ≤ j ∧ j < dp + n then V s (sp + (j - dp)) else V b j := by
  unfold zcp zs zcpy
  by_cases h : b = d
  · subst h
    by_cases h2 : dp ≤ j ∧ j < dp + n <;> simp [h2]
  · simp [h]
/-- a loop that counts up -/
theorem zfor {α : Type} (F : Int → α) {lo hi : Int} (h : lo ≤ hi) (step : ∀ i, lo ≤ i → i < hi → F i = F (i + 1)) : F lo = F hi := by
  obtain ⟨n, hn⟩ : ∃ n : Nat, hi = lo + n := ⟨(hi - lo).toNat, by omega⟩
  subst hn
  clear h
  induction n with
  | zero => simp
  | succ n ih =>
    rw [ih (fun i h1 h2 => step i h1 (by omega)), step (lo + n) (by omega) (by omega)]
    congr 1
    omega
/-- a loop that counts down -/
theorem zdown {α : Type} (F : Int → α) {lo hi : Int} (h : lo ≤ hi) (step : ∀ i, lo < i → i ≤ hi → F i = F (i - 1)) : F hi = F lo := by
  have := zfor (fun i => F (lo + hi - i)) h (fun i h1 h2 => by
    show F (lo + hi - i) = F (lo + hi - (i + 1))
    rw [step (lo + hi - i) (by omega) (by omega)]
    congr 1
    omega)
  have e1 : lo + hi - lo = hi := by omega
  have e2 : lo + hi - hi = lo := by omega
  simp only [e1, e2] at this
  exact this
theorem zpush0 (y : Int) (st : List zV) : z_push (0, y) st = (0, y) :: st := rfl
theorem zpush1 (y : Int) (st : List zV) : z_push (1, y) st = (1, y) :: st := rfl
theorem zpush2 (y : Int) (st : List zV) : z_push (2, y) st = (2, y) :: st := rfl
theorem zpush9 (st : List zV) : z_push (9, 0) st = st := rfl
theorem zb0 (P : Prop) (d : Decidable P) : ((@ite Int P d 1 0) = 0) = ¬ P := by
  by_cases h : P <;> simp [h]
theorem zbr (P : Prop) (d : Decidable P) : (0 : Int) ≤ @ite Int P d 1 0 ∧ @ite Int P d 1 0 ≤ 1 := by
  by_cases h : P <;> simp [h]
