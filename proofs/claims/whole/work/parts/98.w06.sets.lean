/-! the parts of a set of strokes, in order -/
theorem zand_nat {a b : Nat} (ha : a < 2147483648) (hb : b < 2147483648) : zand (a : Int) (b : Int) = ((a &&& b : Nat) : Int) := by
  show (BitVec.ofInt 32 (a : Int) &&& BitVec.ofInt 32 (b : Int)).toInt = _
  have e : (BitVec.ofInt 32 (a : Int) &&& BitVec.ofInt 32 (b : Int)).toNat = a &&& b := by
    rw [BitVec.ofInt_natCast, BitVec.ofInt_natCast, BitVec.toNat_and, BitVec.toNat_ofNat, BitVec.toNat_ofNat, Nat.mod_eq_of_lt (by omega), Nat.mod_eq_of_lt (by omega)]
  have l : a &&& b ≤ a := Nat.and_le_left
  rw [BitVec.toInt_eq_toNat_of_lt (by rw [e]; omega), e]
theorem zbt_nat {a j : Nat} : zbt (a : Int) j ↔ a.testBit j = true := by
  rw [Nat.testBit_eq_decide_div_mod_eq, decide_eq_true_eq]
  unfold zbt
  have e2 : ((a / 2 ^ j % 2 : Nat) : Int) = (a : Int) / 2 ^ j % 2 := by
    rw [Int.natCast_emod, Int.natCast_ediv, Int.natCast_pow]; rfl
  omega
theorem zand_not {p g : Nat} (hp : p < 128) (hg : g < 128) : zand (p : Int) (zxor (g : Int) (-1)) = ((p &&& (127 ^^^ g) : Nat) : Int) := by
  have l : p &&& (127 ^^^ g) ≤ p := Nat.and_le_left
  have a := zand_n (x := (p : Int)) (y := zxor (g : Int) (-1)) (by omega) (by omega)
  refine zbt_ext 7 a.1 (by omega) (by omega) (by omega) (fun j hj => ?_)
  rw [zand_bt (by omega), zxor_bt (by omega), zbt_nat, zbt_nat, zbt_nat, Nat.testBit_and, Nat.testBit_xor]
  have h7 : (127 : Nat).testBit j = true := by
    have : j = 0 ∨ j = 1 ∨ j = 2 ∨ j = 3 ∨ j = 4 ∨ j = 5 ∨ j = 6 := by omega
    rcases this with rfl | rfl | rfl | rfl | rfl | rfl | rfl <;> decide
  rw [h7]
  cases p.testBit j <;> cases g.testBit j <;> simp
theorem zor_nat {a b : Nat} (ha : a < 128) (hb : b < 128) : zor (a : Int) (b : Int) = ((a ||| b : Nat) : Int) := by
  have l : a ||| b < 2 ^ 7 := Nat.or_lt_two_pow (by omega) (by omega)
  have a' := zor_n (x := (a : Int)) (y := (b : Int)) (k := 7) (by decide) (by omega) (by omega) (by omega) (by omega)
  refine zbt_ext 7 a'.1 a'.2 (by omega) (by omega) (fun j hj => ?_)
  rw [zor_bt (by omega), zbt_nat, zbt_nat, zbt_nat, Nat.testBit_or]
  cases a.testBit j <;> cases b.testBit j <;> simp
/-- the next part -/
theorem zand_sub {x g : Nat} (hx : x < 128) (hg : g < 128) : zand ((x : Int) - (g : Int)) (g : Int) = (((x + 128 - g) &&& g : Nat) : Int) := by
  have e : zand ((x : Int) - (g : Int)) (g : Int) = zand (((x + 128 - g : Nat) : Int)) (g : Int) := by
    have n1 := zand_n (x := (g : Int)) (y := (x : Int) - (g : Int)) (by omega) (by omega)
    have n2 := zand_n (x := (g : Int)) (y := ((x + 128 - g : Nat) : Int)) (by omega) (by omega)
    rw [zand_c _ (g : Int), zand_c _ (g : Int)]
    refine zbt_ext 7 n1.1 (by omega) n2.1 (by omega) (fun j hj => ?_)
    rw [zand_bt (by omega), zand_bt (by omega), ← zbt_mod (x := (x : Int) - g) hj, ← zbt_mod (x := ((x + 128 - g : Nat) : Int)) hj]
    have : ((x : Int) - g) % 2 ^ 7 = ((x + 128 - g : Nat) : Int) % 2 ^ 7 := by omega
    rw [this]
  rw [e, zand_nat (by omega) (by omega)]
def zcs2 (g : Nat) : Nat → Nat
  | 0 => 0
  | k + 1 => zcs2 g k + (if k &&& g = k then 1 else 0)
theorem zcs2_m {g a : Nat} : ∀ d, zcs2 g a ≤ zcs2 g (a + d)
  | 0 => Nat.le_refl _
  | d + 1 => by
    have := zcs2_m (g := g) (a := a) d
    rw [← Nat.add_assoc, zcs2]
    omega
theorem zcs2_gap {g a b z : Nat} (h : zcs2 g a = zcs2 g b) (h1 : a ≤ z) (h2 : z < b) : ¬ (z &&& g = z) := by
  intro hz
  have m1 := zcs2_m (g := g) (a := a) (z - a)
  have m2 := zcs2_m (g := g) (a := z + 1) (b - (z + 1))
  rw [show a + (z - a) = z by omega] at m1
  rw [show z + 1 + (b - (z + 1)) = b by omega, zcs2, if_pos hz] at m2
  omega
def zpop (g : Nat) : Nat := (g / 1 % 2) + (g / 2 % 2) + (g / 4 % 2) + (g / 8 % 2) + (g / 16 % 2) + (g / 32 % 2) + (g / 64 % 2)
theorem zcs2_d : ∀ g, g < 128 → ∀ x, x < 128 → x &&& g = x → (x = g ∧ zcs2 g (x + 1) = 2 ^ zpop g) ∨ (x < ((x + 128 - g) &&& g) ∧ zcs2 g (x + 1) = zcs2 g ((x + 128 - g) &&& g) ∧ zcs2 g (x + 1) < 2 ^ zpop g) := by decide +kernel
theorem zsplit : ∀ g, g < 128 → ∀ s, s < 128 → s = (s &&& g) + (s &&& (127 ^^^ g)) := by decide +kernel
theorem zpop_r {g : Nat} : 2 ^ zpop g ≤ 128 ∧ zpop g ≤ 7 := by
  have : zpop g ≤ 7 := by unfold zpop; omega
  exact ⟨Nat.pow_le_pow_right (n := 2) (by decide) this, this⟩
/-- a part of g beside k, which is apart from it -/
theorem zdis {g p x : Nat} (hg : g < 128) (hp : p < 128) (hx : x &&& g = x) : ((p &&& (127 ^^^ g)) ||| x) &&& g = x ∧ ((p &&& (127 ^^^ g)) ||| x) &&& (127 ^^^ g) = p &&& (127 ^^^ g) ∧ (p &&& (127 ^^^ g)) ||| x = (p &&& (127 ^^^ g)) + x ∧ (p &&& (127 ^^^ g)) + x < 128 := by
  have lx : x ≤ g := by rw [← hx]; exact Nat.and_le_right
  have lp : p &&& (127 ^^^ g) ≤ p := Nat.and_le_left
  have l : (p &&& (127 ^^^ g)) ||| x < 2 ^ 7 := Nat.or_lt_two_pow (by omega) (by omega)
  have hb : ∀ j, (x.testBit j && g.testBit j) = x.testBit j := fun j => by rw [← Nat.testBit_and, hx]
  have e1 : ((p &&& (127 ^^^ g)) ||| x) &&& g = x := by
    refine Nat.eq_of_testBit_eq fun j => ?_
    have := hb j
    rw [Nat.testBit_and, Nat.testBit_or, Nat.testBit_and, Nat.testBit_xor]
    by_cases hj : j < 7
    · have h7 : (127 : Nat).testBit j = true := by
        have : j = 0 ∨ j = 1 ∨ j = 2 ∨ j = 3 ∨ j = 4 ∨ j = 5 ∨ j = 6 := by omega
        rcases this with rfl | rfl | rfl | rfl | rfl | rfl | rfl <;> decide
      rw [h7]
      revert this
      cases p.testBit j <;> cases g.testBit j <;> cases x.testBit j <;> simp
    · have hgj : g.testBit j = false := Nat.testBit_lt_two_pow (Nat.lt_of_lt_of_le hg (Nat.pow_le_pow_right (n := 2) (i := 7) (by decide) (by omega)))
      rw [hgj] at this ⊢
      revert this
      cases x.testBit j <;> simp
  have e2 : ((p &&& (127 ^^^ g)) ||| x) &&& (127 ^^^ g) = p &&& (127 ^^^ g) := by
    refine Nat.eq_of_testBit_eq fun j => ?_
    have := hb j
    rw [Nat.testBit_and, Nat.testBit_or, Nat.testBit_and, Nat.testBit_xor]
    by_cases hj : j < 7
    · have h7 : (127 : Nat).testBit j = true := by
        have : j = 0 ∨ j = 1 ∨ j = 2 ∨ j = 3 ∨ j = 4 ∨ j = 5 ∨ j = 6 := by omega
        rcases this with rfl | rfl | rfl | rfl | rfl | rfl | rfl <;> decide
      rw [h7]
      revert this
      cases p.testBit j <;> cases g.testBit j <;> cases x.testBit j <;> simp
    · have hxl : x.testBit j = false := Nat.testBit_lt_two_pow (Nat.lt_of_lt_of_le (show x < 2 ^ 7 by omega) (Nat.pow_le_pow_right (n := 2) (by decide) (by omega)))
      rw [hxl]
      cases (127 : Nat).testBit j <;> cases p.testBit j <;> cases g.testBit j <;> simp
  have s := zsplit g hg _ l
  rw [e1, e2] at s
  exact ⟨e1, e2, by omega, by omega⟩
def zgn (K : Int → Int) (c s : Int) : Prop := zand s (zxor (K (316 + c)) (-1)) = zand (K (300 + c)) (zxor (K (316 + c)) (-1))
/-- the JDK's count of bits -/
def zpa (x : Int) : Int := x - (zand (x % 4294967296 / 2) 1431655765)
def zpb (x : Int) : Int := (zand (zpa x) 858993459) + (zand ((zpa x) % 4294967296 / 4) 858993459)
def zpc (x : Int) : Int := (zpb x) + ((zpb x) % 4294967296 / 16)
def zpd (x : Int) : Int := (zand (zpc x) 252645135) + ((zand (zpc x) 252645135) % 4294967296 / 256)
def zpe (x : Int) : Int := (zpd x) + ((zpd x) % 4294967296 / 65536)
theorem zpop_d : ∀ g : Nat, g < 128 → (-2147483648 ≤ zpa (g : Int) ∧ zpa (g : Int) ≤ 2147483647) ∧ (-2147483648 ≤ zpb (g : Int) ∧ zpb (g : Int) ≤ 2147483647) ∧ (-2147483648 ≤ zpc (g : Int) ∧ zpc (g : Int) ≤ 2147483647) ∧ (-2147483648 ≤ zpd (g : Int) ∧ zpd (g : Int) ≤ 2147483647) ∧ (-2147483648 ≤ zpe (g : Int) ∧ zpe (g : Int) ≤ 2147483647) ∧ zand (zpe (g : Int)) 63 = (zpop g : Int) := by decide +kernel
theorem c128 {T : zT} {V : zM} {g : Nat} (hg : g < 128) : zcall 128 [(0, (g : Int))] T V = some ((0, (zpop g : Int)), T, V) := by
  obtain ⟨h1, h2, h3, h4, h5, h6⟩ := zpop_d g hg
  rw [e128, ← h6]
  exact b128_0 h1 h2 h3 h4 h5
