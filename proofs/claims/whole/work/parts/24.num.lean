/-! numbers of the machine and mathematical ones -/
theorem zt32 {x : Int} (h : z32 x) : (Int32.ofInt x).toInt = x := Int32.toInt_ofInt_of_le (by have := h.1; omega) (by have := h.2; omega)
theorem zt64 {x : Int} (h : z64 x) : (Int64.ofInt x).toInt = x := Int64.toInt_ofInt_of_le (by have := h.1; omega) (by have := h.2; omega)
theorem zi32 (x : Int32) : z32 x.toInt := ⟨Int32.le_toInt x, by have := Int32.toInt_lt x; omega⟩
theorem zi64 (x : Int64) : z64 x.toInt := ⟨Int64.le_toInt x, by have := Int64.toInt_lt x; omega⟩
theorem zlt32 {x y : Int} (hx : z32 x) (hy : z32 y) : Int32.ofInt x < Int32.ofInt y ↔ x < y := by rw [Int32.lt_iff_toInt_lt, zt32 hx, zt32 hy]
theorem zle32 {x y : Int} (hx : z32 x) (hy : z32 y) : Int32.ofInt x ≤ Int32.ofInt y ↔ x ≤ y := by rw [Int32.le_iff_toInt_le, zt32 hx, zt32 hy]
theorem zeq32 {x y : Int} (hx : z32 x) (hy : z32 y) : Int32.ofInt x = Int32.ofInt y ↔ x = y := by rw [← Int32.toInt_inj, zt32 hx, zt32 hy]
theorem zlt64 {x y : Int} (hx : z64 x) (hy : z64 y) : Int64.ofInt x < Int64.ofInt y ↔ x < y := by rw [Int64.lt_iff_toInt_lt, zt64 hx, zt64 hy]
theorem zeq64 {x y : Int} (hx : z64 x) (hy : z64 y) : Int64.ofInt x = Int64.ofInt y ↔ x = y := by rw [← Int64.toInt_inj, zt64 hx, zt64 hy]
theorem z0_32 : (0 : Int32) = Int32.ofInt 0 := rfl
theorem zz32 : z32 0 := by decide
theorem znat {x : Int} (h : z32 x) (h0 : 0 ≤ x) : (Int32.ofInt x).toNatClampNeg = x.toNat := by
  show (Int32.ofInt x).toInt.toNat = x.toNat
  rw [zt32 h]
theorem znn {x : Int} (h : z32 x) (h0 : 0 ≤ x) : ¬ Int32.ofInt x < 0 := by
  rw [z0_32, zlt32 h zz32]; omega
theorem zin {i : Int} {n : Nat} (h : z32 i) (h0 : 0 ≤ i) (h1 : i < (n : Int)) : vp_in (Int32.ofInt i) n := by
  rintro (q | q)
  · exact znn h h0 q
  · rw [znat h h0] at q; omega
theorem zadd32 (x y : Int) : Int32.ofInt x + Int32.ofInt y = Int32.ofInt (x + y) := (Int32.ofInt_add x y).symm
theorem zsub32 (x y : Int) : Int32.ofInt x - Int32.ofInt y = Int32.ofInt (x - y) := (Int32.ofInt_sub x y).symm
theorem zmul32 (x y : Int) : Int32.ofInt x * Int32.ofInt y = Int32.ofInt (x * y) := (Int32.ofInt_mul x y).symm
theorem zneg32 (x : Int) : - Int32.ofInt x = Int32.ofInt (-x) := (Int32.ofInt_neg x).symm
theorem zadd64 (x y : Int) : Int64.ofInt x + Int64.ofInt y = Int64.ofInt (x + y) := (Int64.ofInt_add x y).symm
theorem zsub64 (x y : Int) : Int64.ofInt x - Int64.ofInt y = Int64.ofInt (x - y) := (Int64.ofInt_sub x y).symm
theorem zmul64 (x y : Int) : Int64.ofInt x * Int64.ofInt y = Int64.ofInt (x * y) := (Int64.ofInt_mul x y).symm
theorem zand32 (x y : Int) : Int32.ofInt x &&& Int32.ofInt y = Int32.ofInt (zand x y) := by rw [zand, Int32.ofInt_toInt]
theorem zor32 (x y : Int) : Int32.ofInt x ||| Int32.ofInt y = Int32.ofInt (zor x y) := by rw [zor, Int32.ofInt_toInt]
theorem zxor32 (x y : Int) : Int32.ofInt x ^^^ Int32.ofInt y = Int32.ofInt (zxor x y) := by rw [zxor, Int32.ofInt_toInt]
theorem zand64 (x y : Int) : Int64.ofInt x &&& Int64.ofInt y = Int64.ofInt (zlnd x y) := by rw [zlnd, Int64.ofInt_toInt]
theorem zor64 (x y : Int) : Int64.ofInt x ||| Int64.ofInt y = Int64.ofInt (zlor x y) := by rw [zlor, Int64.ofInt_toInt]
theorem zdiv32 {x y : Int} (hx : z32 x) (hy : z32 y) (h0 : 0 ≤ x) (h1 : 0 < y) : Int32.ofInt x / Int32.ofInt y = Int32.ofInt (x / y) := by
  apply Int32.toInt_inj.mp
  have hq : z32 (x / y) := ⟨by have := Int.ediv_nonneg h0 (Int.le_of_lt h1); omega, by have := Int.ediv_le_self y h0; have := hx.2; omega⟩
  rw [Int32.toInt_div, zt32 hx, zt32 hy, zt32 hq, Int.tdiv_eq_ediv_of_nonneg h0]
  rw [Int.bmod_eq_of_le] <;> have := hq.1 <;> have := hq.2 <;> omega
theorem zmod32 {x y : Int} (hx : z32 x) (hy : z32 y) (h0 : 0 ≤ x) (h1 : 0 < y) : Int32.ofInt x - Int32.ofInt x / Int32.ofInt y * Int32.ofInt y = Int32.ofInt (x % y) := by
  rw [zdiv32 hx hy h0 h1, zmul32, zsub32]
  congr 1
  have := Int.emod_add_mul_ediv x y
  rw [Int.mul_comm] at this
  omega
theorem zdiv64 {x y : Int} (hx : z64 x) (hy : z64 y) (h0 : 0 ≤ x) (h1 : 0 < y) : Int64.ofInt x / Int64.ofInt y = Int64.ofInt (x / y) := by
  apply Int64.toInt_inj.mp
  have hq : z64 (x / y) := ⟨by have := Int.ediv_nonneg h0 (Int.le_of_lt h1); omega, by have := Int.ediv_le_self y h0; have := hx.2; omega⟩
  rw [Int64.toInt_div, zt64 hx, zt64 hy, zt64 hq, Int.tdiv_eq_ediv_of_nonneg h0]
  rw [Int.bmod_eq_of_le] <;> have := hq.1 <;> have := hq.2 <;> omega
theorem zmod64 {x y : Int} (hx : z64 x) (hy : z64 y) (h0 : 0 ≤ x) (h1 : 0 < y) : Int64.ofInt x - Int64.ofInt x / Int64.ofInt y * Int64.ofInt y = Int64.ofInt (x % y) := by
  rw [zdiv64 hx hy h0 h1, zmul64, zsub64]
  congr 1
  have := Int.emod_add_mul_ediv x y
  rw [Int.mul_comm] at this
  omega
theorem zi2l {x : Int} (h : z32 x) : (Int32.ofInt x).toInt64 = Int64.ofInt x := by
  apply Int64.toInt_inj.mp
  rw [Int32.toInt_toInt64, zt32 h, zt64]
  have := h.1; have := h.2
  constructor <;> omega
theorem zl2i {x : Int} (h : z64 x) (h2 : z32 x) : (Int64.ofInt x).toInt32 = Int32.ofInt x := by
  apply Int32.toInt_inj.mp
  rw [Int64.toInt_toInt32, zt64 h, zt32 h2]
  rw [Int.bmod_eq_of_le] <;> have := h2.1 <;> have := h2.2 <;> omega
theorem zi2b {x : Int} (h : z32 x) : (Int32.ofInt x).toInt8.toInt32 = Int32.ofInt ((x + 128) % 256 - 128) := by
  apply Int32.toInt_inj.mp
  rw [Int8.toInt_toInt32, Int32.toInt_toInt8, zt32 h, zt32 (by constructor <;> omega)]
  rw [Int.bmod_def]
  split <;> omega
theorem zi2c {x : Int} (h : z32 x) (h0 : 0 ≤ x) (h1 : x ≤ 65535) : ((Int32.ofInt x).toUInt32 % 65536).toInt32 = Int32.ofInt x := by
  apply Int32.toInt_inj.mp
  have e : (Int32.ofInt x).toUInt32.toNat = x.toNat := by
    have h2 : (Int32.ofInt x).toInt = x := zt32 h
    have h3 : (Int32.ofInt x).toBitVec.toInt = x := h2
    rw [BitVec.toInt_eq_toNat_bmod] at h3
    show (Int32.ofInt x).toBitVec.toNat = x.toNat
    have h4 := (Int32.ofInt x).toBitVec.isLt
    rw [Int.bmod_def] at h3
    split at h3 <;> omega
  have e2 : ((Int32.ofInt x).toUInt32 % 65536) = (Int32.ofInt x).toUInt32 := by
    apply UInt32.toNat_inj.mp
    rw [UInt32.toNat_mod, e]
    show x.toNat % 65536 = x.toNat
    omega
  rw [e2]
  simp
