/-! bits -/
def zbt (x : Int) (j : Nat) : Prop := x / 2 ^ j % 2 = 1
theorem zp2 (j : Nat) : (0 : Int) < 2 ^ j := Int.pow_pos (by decide)
theorem zbt_mod {x : Int} {j k : Nat} (h : j < k) : zbt (x % 2 ^ k) j ↔ zbt x j := by
  unfold zbt
  obtain ⟨d, hd⟩ : ∃ d, k = j + (d + 1) := ⟨k - j - 1, by omega⟩
  subst hd
  have hx : x = x % 2 ^ (j + (d + 1)) + 2 ^ j * (2 * (2 ^ d * (x / 2 ^ (j + (d + 1))))) := by
    have e := (Int.emod_add_mul_ediv x (2 ^ (j + (d + 1)))).symm
    have e2 : (2 : Int) ^ (j + (d + 1)) = 2 ^ j * (2 * 2 ^ d) := by rw [Int.pow_add, Int.pow_succ, Int.mul_comm (2 ^ d) 2]
    have e3 : (2 : Int) ^ (j + (d + 1)) * (x / 2 ^ (j + (d + 1))) = 2 ^ j * (2 * (2 ^ d * (x / 2 ^ (j + (d + 1))))) := by
      rw [show ∀ q : Int, (2 : Int) ^ (j + (d + 1)) * q = 2 ^ j * (2 * (2 ^ d * q)) from fun q => by rw [e2, Int.mul_assoc, Int.mul_assoc]]
    rw [e3] at e
    exact e
  generalize x % 2 ^ (j + (d + 1)) = r at hx ⊢
  generalize 2 ^ d * (x / 2 ^ (j + (d + 1))) = q at hx
  subst hx
  rw [Int.add_mul_ediv_left _ _ (Int.ne_of_gt (zp2 j))]
  omega
theorem zbt_of {x : Int} {j : Nat} (h : j < 32) : (BitVec.ofInt 32 x).getLsbD j = true ↔ zbt x j := by
  rw [← zbt_mod h, BitVec.getLsbD, Nat.testBit_eq_decide_div_mod_eq, BitVec.toNat_ofInt, decide_eq_true_eq]
  unfold zbt
  have h0 : 0 ≤ x % 2 ^ 32 := Int.emod_nonneg _ (by decide)
  show ((x % ((2 ^ 32 : Nat) : Int)).toNat / 2 ^ j % 2 = 1) ↔ _
  have e : ((2 ^ 32 : Nat) : Int) = 2 ^ 32 := by decide
  rw [e]
  obtain ⟨m, hm⟩ : ∃ m : Nat, x % 2 ^ 32 = m := ⟨(x % 2 ^ 32).toNat, by omega⟩
  rw [hm, Int.toNat_natCast]
  have e2 : ((m / 2 ^ j % 2 : Nat) : Int) = (m : Int) / 2 ^ j % 2 := by
    rw [Int.natCast_emod, Int.natCast_ediv, Int.natCast_pow]; rfl
  omega
theorem zbt_to {v : BitVec 32} {j : Nat} (h : j < 32) : zbt v.toInt j ↔ v.getLsbD j = true := by
  rw [← zbt_of h, BitVec.ofInt_toInt]
theorem zand_bt {x y : Int} {j : Nat} (h : j < 32) : zbt (zand x y) j ↔ zbt x j ∧ zbt y j := by
  show zbt (BitVec.ofInt 32 x &&& BitVec.ofInt 32 y).toInt j ↔ _
  rw [zbt_to h, BitVec.getLsbD_and, Bool.and_eq_true, zbt_of h, zbt_of h]
theorem zor_bt {x y : Int} {j : Nat} (h : j < 32) : zbt (zor x y) j ↔ zbt x j ∨ zbt y j := by
  show zbt (BitVec.ofInt 32 x ||| BitVec.ofInt 32 y).toInt j ↔ _
  rw [zbt_to h, BitVec.getLsbD_or, Bool.or_eq_true, zbt_of h, zbt_of h]
theorem zxor_bt {x : Int} {j : Nat} (h : j < 32) : zbt (zxor x (-1)) j ↔ ¬ zbt x j := by
  show zbt (BitVec.ofInt 32 x ^^^ BitVec.ofInt 32 (-1)).toInt j ↔ _
  rw [zbt_to h, BitVec.getLsbD_xor]
  have h1 : (BitVec.ofInt 32 (-1)).getLsbD j = true := by
    rw [zbt_of h]
    unfold zbt
    have := zp2 j
    have e : (-1 : Int) / 2 ^ j = -1 := by
      rw [Int.ediv_eq_iff_of_pos this]; omega
    rw [e]; decide
  rw [h1, ← zbt_of h]
  cases (BitVec.ofInt 32 x).getLsbD j <;> simp
theorem zbt_ext (k : Nat) : ∀ {x y : Int}, 0 ≤ x → x < 2 ^ k → 0 ≤ y → y < 2 ^ k → (∀ j, j < k → (zbt x j ↔ zbt y j)) → x = y := by
  induction k with
  | zero => intro x y h1 h2 h3 h4 _; rw [Int.pow_zero] at h2 h4; omega
  | succ k ih =>
    intro x y h1 h2 h3 h4 h
    rw [Int.pow_succ] at h2 h4
    have h0 := h 0 (by omega)
    unfold zbt at h0
    rw [Int.pow_zero, Int.ediv_one, Int.ediv_one] at h0
    have := ih (x := x / 2) (y := y / 2) (by omega) (by omega) (by omega) (by omega) (fun j hj => by
      have := h (j + 1) (by omega)
      unfold zbt at this ⊢
      rw [Int.pow_succ, Int.mul_comm, ← Int.ediv_ediv_of_nonneg (by decide), ← Int.ediv_ediv_of_nonneg (by decide)] at this
      exact this)
    omega
theorem zand_n {x y : Int} (h1 : 0 ≤ x) (h2 : x < 2147483648) : 0 ≤ zand x y ∧ zand x y ≤ x := by
  show 0 ≤ (BitVec.ofInt 32 x &&& BitVec.ofInt 32 y).toInt ∧ (BitVec.ofInt 32 x &&& BitVec.ofInt 32 y).toInt ≤ x
  have e : (BitVec.ofInt 32 x).toNat = x.toNat := by
    rw [BitVec.toNat_ofInt]; congr 1; omega
  have e1 : (BitVec.ofInt 32 x &&& BitVec.ofInt 32 y).toNat ≤ x.toNat := by
    rw [BitVec.toNat_and, e]; exact Nat.and_le_left
  rw [BitVec.toInt_eq_toNat_of_lt (by omega)]
  omega
theorem zand_c (x y : Int) : zand x y = zand y x := by
  show (BitVec.ofInt 32 x &&& BitVec.ofInt 32 y).toInt = (BitVec.ofInt 32 y &&& BitVec.ofInt 32 x).toInt
  rw [BitVec.and_comm]
theorem zor_c (x y : Int) : zor x y = zor y x := by
  show (BitVec.ofInt 32 x ||| BitVec.ofInt 32 y).toInt = (BitVec.ofInt 32 y ||| BitVec.ofInt 32 x).toInt
  rw [BitVec.or_comm]
theorem zor_n {x y : Int} {k : Nat} (hk : k ≤ 31) (h1 : 0 ≤ x) (h2 : x < 2 ^ k) (h3 : 0 ≤ y) (h4 : y < 2 ^ k) : 0 ≤ zor x y ∧ zor x y < 2 ^ k := by
  show 0 ≤ (BitVec.ofInt 32 x ||| BitVec.ofInt 32 y).toInt ∧ (BitVec.ofInt 32 x ||| BitVec.ofInt 32 y).toInt < 2 ^ k
  have hp : (2 : Int) ^ k ≤ 2147483648 := by
    have : (2 : Nat) ^ k ≤ 2 ^ 31 := Nat.pow_le_pow_right (by decide) hk
    have e : ((2 ^ k : Nat) : Int) = 2 ^ k := by rw [Int.natCast_pow]; rfl
    omega
  have e : (BitVec.ofInt 32 x).toNat = x.toNat := by
    rw [BitVec.toNat_ofInt]; congr 1; omega
  have e' : (BitVec.ofInt 32 y).toNat = y.toNat := by
    rw [BitVec.toNat_ofInt]; congr 1; omega
  have e2 : ((2 ^ k : Nat) : Int) = 2 ^ k := by rw [Int.natCast_pow]; rfl
  have e1 : (BitVec.ofInt 32 x ||| BitVec.ofInt 32 y).toNat < 2 ^ k := by
    rw [BitVec.toNat_or, e, e']; exact Nat.or_lt_two_pow (by omega) (by omega)
  rw [BitVec.toInt_eq_toNat_of_lt (by omega)]
  omega
theorem zbt_0 {x : Int} : zbt x 0 ↔ x % 2 = 1 := by unfold zbt; rw [Int.pow_zero, Int.ediv_one]
theorem zbt_z {j : Nat} : ¬ zbt 0 j := by unfold zbt; simp
theorem zbt_big {x : Int} {j k : Nat} (h1 : 0 ≤ x) (h2 : x < 2 ^ k) (h : k ≤ j) : ¬ zbt x j := by
  unfold zbt
  have : (2 : Int) ^ k ≤ 2 ^ j := by
    have : (2 : Nat) ^ k ≤ 2 ^ j := Nat.pow_le_pow_right (by decide) h
    have e : ((2 ^ k : Nat) : Int) = 2 ^ k := by rw [Int.natCast_pow]; rfl
    have e' : ((2 ^ j : Nat) : Int) = 2 ^ j := by rw [Int.natCast_pow]; rfl
    omega
  rw [Int.ediv_eq_zero_of_lt h1 (by omega)]
  decide
theorem zbt_shr {x : Int} {i j : Nat} : zbt (x / 2 ^ i) j ↔ zbt x (i + j) := by
  unfold zbt
  rw [Int.ediv_ediv_of_nonneg (Int.le_of_lt (zp2 i)), Int.pow_add]
theorem zbt_p2 {i j : Nat} : zbt (2 ^ i) j ↔ i = j := by
  unfold zbt
  rcases Nat.lt_trichotomy i j with h | h | h
  · have := zbt_big (x := 2 ^ i) (j := j) (k := i + 1) (Int.le_of_lt (zp2 i)) (by rw [Int.pow_succ]; have := zp2 i; omega) h
    unfold zbt at this
    exact ⟨fun q => absurd q this, fun q => by omega⟩
  · subst h
    rw [Int.ediv_self (Int.ne_of_gt (zp2 i))]
    simp
  · obtain ⟨d, hd⟩ : ∃ d, i = j + (d + 1) := ⟨i - j - 1, by omega⟩
    subst hd
    rw [Int.pow_add, Int.mul_ediv_cancel_left _ (Int.ne_of_gt (zp2 j)), Int.pow_succ]
    have := zp2 d
    exact ⟨fun q => by omega, fun q => by omega⟩
theorem zand_1 {x : Int} : zand x 1 = x % 2 := by
  rw [zand_c]
  have h := zand_n (x := 1) (y := x) (by decide) (by decide)
  have h2 := zand_bt (x := 1) (y := x) (j := 0) (by decide)
  rw [zbt_0, zbt_0, zbt_0] at h2
  omega
/-- no bit in common -/
theorem zand_e0 {x y : Int} {k : Nat} (hk : k ≤ 31) (h1 : 0 ≤ x) (h2 : x < 2 ^ k) : zand x y = 0 ↔ ∀ j, j < k → ¬ (zbt x j ∧ zbt y j) := by
  have hp : (2 : Int) ^ k ≤ 2147483648 := by
    have : (2 : Nat) ^ k ≤ 2 ^ 31 := Nat.pow_le_pow_right (by decide) hk
    have e : ((2 ^ k : Nat) : Int) = 2 ^ k := by rw [Int.natCast_pow]; rfl
    omega
  have h := zand_n (x := x) (y := y) h1 (by omega)
  constructor
  · intro e j hj q
    exact zbt_z ((e ▸ (zand_bt (by omega)).2 q : zbt 0 j))
  · intro g
    exact zbt_ext k h.1 (by omega) (by decide) (by have := zp2 k; omega) (fun j hj => ⟨fun q => absurd ((zand_bt (by omega)).1 q) (g j hj), fun q => absurd q zbt_z⟩)
/-- all of y's bits -/
theorem zand_ey {x y : Int} {k : Nat} (hk : k ≤ 31) (h1 : 0 ≤ y) (h2 : y < 2 ^ k) : zand x y = y ↔ ∀ j, j < k → zbt y j → zbt x j := by
  have hp : (2 : Int) ^ k ≤ 2147483648 := by
    have : (2 : Nat) ^ k ≤ 2 ^ 31 := Nat.pow_le_pow_right (by decide) hk
    have e : ((2 ^ k : Nat) : Int) = 2 ^ k := by rw [Int.natCast_pow]; rfl
    omega
  rw [zand_c]
  have h := zand_n (x := y) (y := x) h1 (by omega)
  constructor
  · intro e j hj q
    exact ((zand_bt (by omega)).1 (show zbt (zand y x) j by rw [e]; exact q)).2
  · intro g
    exact zbt_ext k h.1 (by omega) h1 h2 (fun j hj => ⟨fun q => ((zand_bt (by omega)).1 q).1, fun q => (zand_bt (by omega)).2 ⟨q, g j hj q⟩⟩)
/-- must and must not, asked at once -/
theorem zask {s m q : Int} (hm : 0 ≤ m ∧ m < 128) (hq : 0 ≤ q ∧ q < 128) (hd : zand q m = 0) : zand s (zor m q) = m ↔ zand s m = m ∧ zand s q = 0 := by
  have hd' := (zand_e0 (k := 7) (by decide) hq.1 hq.2).1 hd
  have ho := zor_n (k := 7) (by decide) hm.1 hm.2 hq.1 hq.2
  have ha := zand_n (x := zor m q) (y := s) ho.1 (by omega)
  rw [zand_ey (k := 7) (by decide) hm.1 hm.2, zand_c s q, zand_e0 (k := 7) (by decide) hq.1 hq.2]
  constructor
  · intro e
    have eb : ∀ j, j < 7 → (zbt m j ↔ zbt s j ∧ (zbt m j ∨ zbt q j)) := fun j hj => by
      rw [← zor_bt (by omega), ← zand_bt (by omega), e]
    refine ⟨fun j hj g => ((eb j hj).1 g).1, fun j hj g => ?_⟩
    exact hd' j hj ⟨g.1, (eb j hj).2 ⟨g.2, Or.inr g.1⟩⟩
  · rintro ⟨g1, g2⟩
    rw [zand_c]
    refine zbt_ext 7 ha.1 (by omega) hm.1 hm.2 fun j hj => ?_
    rw [zand_bt (by omega), zor_bt (by omega)]
    constructor
    · rintro ⟨q1 | q1, q2⟩
      · exact q1
      · exact absurd ⟨q1, q2⟩ (g2 j hj)
    · intro q1
      exact ⟨Or.inl q1, g1 j hj q1⟩
