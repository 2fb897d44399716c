/-! numbers of the machine and mathematical ones -/
theorem zt32 {x : Int} (h : z32 x) : (Int32.ofInt x).toInt = x := Int32.toInt_ofInt_of_le (by have := h.1; omega) (by have := h.2; omega)
theorem zt64 {x : Int} (h : z64 x) : (Int64.ofInt x).toInt = x := Int64.toInt_ofInt_of_le (by have := h.1; omega) (by have := h.2; omega)
theorem zi32 (x : Int32) : z32 x.toInt := ⟨Int32.le_toInt x, by have := Int32.toInt_lt x; omega⟩
theorem zi64 (x : Int64) : z64 x.toInt := ⟨Int64.le_toInt x, by have := Int64.toInt_lt x; omega⟩
theorem zlt32 {x y : Int} (hx : z32 x) (hy : z32 y) : Int32.ofInt x < Int32.ofInt y ↔ x < y := by rw [Int32.lt_iff_toInt_lt, zt32 hx, zt32 hy]
theorem zle32 {x y : Int} (hx : z32 x) (hy : z32 y) : Int32.ofInt x ≤ Int32.ofInt y ↔ x ≤ y := by rw [Int32.le_iff_toInt_le, zt32 hx, zt32 hy]
theorem zeq32 {x y : Int} (hx : z32 x) (hy : z32 y) : Int32.ofInt x = Int32.ofInt y ↔ x = y := by rw [← Int32.toInt_inj, zt32 hx, zt32 hy]
theorem zlt64 {x y : Int} (hx : z64 x) (hy : z64 y) : Int64.ofInt x < Int64.ofInt y ↔ x < y := by rw [Int64.lt_iff_toInt_lt, zt64 hx, zt64 hy]
theorem zeq64 {x y : Int} (hx : z64 x) (hy : z64 y) : Int64.ofInt x = Int64.ofInt y ↔ x = y := by rw [← Int64.toInt_inj, zt64 hx, zt64 hy]
theorem z0_32 : (0 : Int32) = Int32.ofInt 0 := rfl
theorem zz32 : z32 0 := by decide
theorem znat {x : Int} (h : z32 x) (h0 : 0 ≤ x) : (Int32.ofInt x).toNatClampNeg = x.toNat := by
  show (Int32.ofInt x).toInt.toNat = x.toNat
  rw [zt32 h]
theorem znn {x : Int} (h : z32 x) (h0 : 0 ≤ x) : ¬ Int32.ofInt x < 0 := by
  rw [z0_32, zlt32 h zz32]; omega
theorem zin {i : Int} {n : Nat} (h : z32 i) (h0 : 0 ≤ i) (h1 : i < (n : Int)) : vp_in (Int32.ofInt i) n := by
  rintro (q | q)
  · exact znn h h0 q
  · rw [znat h h0] at q; omega
theorem zadd32 (x y : Int) : Int32.ofInt x + Int32.ofInt y = Int32.ofInt (x + y) := (Int32.ofInt_add x y).symm
theorem zsub32 (x y : Int) : Int32.ofInt x - Int32.ofInt y = Int32.ofInt (x - y) := (Int32.ofInt_sub x y).symm
theorem zmul32 (x y : Int) : Int32.ofInt x * Int32.ofInt y = Int32.ofInt (x * y) := (Int32.ofInt_mul x y).symm
theorem zneg32 (x : Int) : - Int32.ofInt x = Int32.ofInt (-x) := (Int32.ofInt_neg x).symm
theorem zadd64 (x y : Int) : Int64.ofInt x + Int64.ofInt y = Int64.ofInt (x + y) := (Int64.ofInt_add x y).symm
theorem zsub64 (x y : Int) : Int64.ofInt x - Int64.ofInt y = Int64.ofInt (x - y) := (Int64.ofInt_sub x y).symm
theorem zmul64 (x y : Int) : Int64.ofInt x * Int64.ofInt y = Int64.ofInt (x * y) := (Int64.ofInt_mul x y).symm
theorem zand32 (x y : Int) : Int32.ofInt x &&& Int32.ofInt y = Int32.ofInt (zand x y) := by rw [zand, Int32.ofInt_toInt]
theorem zor32 (x y : Int) : Int32.ofInt x ||| Int32.ofInt y = Int32.ofInt (zor x y) := by rw [zor, Int32.ofInt_toInt]
theorem zxor32 (x y : Int) : Int32.ofInt x ^^^ Int32.ofInt y = Int32.ofInt (zxor x y) := by rw [zxor, Int32.ofInt_toInt]
theorem zand64 (x y : Int) : Int64.ofInt x &&& Int64.ofInt y = Int64.ofInt (zlnd x y) := by rw [zlnd, Int64.ofInt_toInt]
theorem zor64 (x y : Int) : Int64.ofInt x ||| Int64.ofInt y = Int64.ofInt (zlor x y) := by rw [zlor, Int64.ofInt_toInt]
theorem zdiv32 {x y : Int} (hx : z32 x) (hy : z32 y) (h0 : 0 ≤ x) (h1 : 0 < y) : Int32.ofInt x / Int32.ofInt y = Int32.ofInt (x / y) := by
  apply Int32.toInt_inj.mp
  have hq : z32 (x / y) := ⟨by have := Int.ediv_nonneg h0 (Int.le_of_lt h1); omega, by have := Int.ediv_le_self y h0; have := hx.2; omega⟩
  rw [Int32.toInt_div, zt32 hx, zt32 hy, zt32 hq, Int.tdiv_eq_ediv_of_nonneg h0]
  rw [Int.bmod_eq_of_le] <;> have := hq.1 <;> have := hq.2 <;> omega
theorem zmod32 {x y : Int} (hx : z32 x) (hy : z32 y) (h0 : 0 ≤ x) (h1 : 0 < y) : Int32.ofInt x - Int32.ofInt x / Int32.ofInt y * Int32.ofInt y = Int32.ofInt (x % y) := by
  rw [zdiv32 hx hy h0 h1, zmul32, zsub32]
  congr 1
  have := Int.emod_add_mul_ediv x y
  rw [Int.mul_comm] at this
  omega
theorem zdiv64 {x y : Int} (hx : z64 x) (hy : z64 y) (h0 : 0 ≤ x) (h1 : 0 < y) : Int64.ofInt x / Int64.ofInt y = Int64.ofInt (x / y) := by
  apply Int64.toInt_inj.mp
  have hq : z64 (x / y) := ⟨by have := Int.ediv_nonneg h0 (Int.le_of_lt h1); omega, by have := Int.ediv_le_self y h0; have := hx.2; omega⟩
  rw [Int64.toInt_div, zt64 hx, zt64 hy, zt64 hq, Int.tdiv_eq_ediv_of_nonneg h0]
  rw [Int.bmod_eq_of_le] <;> have := hq.1 <;> have := hq.2 <;> omega
theorem zmod64 {x y : Int} (hx : z64 x) (hy : z64 y) (h0 : 0 ≤ x) (h1 : 0 < y) : Int64.ofInt x - Int64.ofInt x / Int64.ofInt y * Int64.ofInt y = Int64.ofInt (x % y) := by
  rw [zdiv64 hx hy h0 h1, zmul64, zsub64]
  congr 1
  have := Int.emod_add_mul_ediv x y
  rw [Int.mul_comm] at this
  omega
theorem zi2l {x : Int} (h : z32 x) : (Int32.ofInt x).toInt64 = Int64.ofInt x := by
  apply Int64.toInt_inj.mp
  rw [Int32.toInt_toInt64, zt32 h, zt64]
  have := h.1; have := h.2
  constructor <;> omega
theorem zl2i {x : Int} (h : z64 x) (h2 : z32 x) : (Int64.ofInt x).toInt32 = Int32.ofInt x := by
  apply Int32.toInt_inj.mp
  rw [Int64.toInt_toInt32, zt64 h, zt32 h2]
  rw [Int.bmod_eq_of_le] <;> have := h2.1 <;> have := h2.2 <;> omega
theorem zi2b {x : Int} (h : z32 x) : (Int32.ofInt x).toInt8.toInt32 = Int32.ofInt ((x + 128) % 256 - 128) := by
  apply Int32.toInt_inj.mp
  rw [Int8.toInt_toInt32, Int32.toInt_toInt8, zt32 h, zt32 (by constructor <;> omega)]
  rw [Int.bmod_def]
  split <;> omega
theorem zi2c {x : Int} (h : z32 x) (h0 : 0 ≤ x) (h1 : x ≤ 65535) : ((Int32.ofInt x).toUInt32 % 65536).toInt32 = Int32.ofInt x := by
  apply Int32.toInt_inj.mp
  have e : (Int32.ofInt x).toUInt32.toNat = x.toNat := by
    have h2 : (Int32.ofInt x).toInt = x := zt32 h
    have h3 : (Int32.ofInt x).toBitVec.toInt = x := h2
    rw [BitVec.toInt_eq_toNat_bmod] at h3
    show (Int32.ofInt x).toBitVec.toNat = x.toNat
    have h4 := (Int32.ofInt x).toBitVec.isLt
    rw [Int.bmod_def] at h3
    split at h3 <;> omega
  have e2 : ((Int32.ofInt x).toUInt32 % 65536) = (Int32.ofInt x).toUInt32 := by
    apply UInt32.toNat_inj.mp
    rw [UInt32.toNat_mod, e]
    show x.toNat % 65536 = x.toNat
    omega
  rw [e2]
  simp
theorem zsm32 : ∀ n : Fin 32, ((Int32.ofInt (n.val : Int) &&& 31).toBitVec.smod 32).toNat = n.val := by decide +kernel
theorem zsm64 : ∀ n : Fin 64, (((Int32.ofInt (n.val : Int)).toInt64 &&& 63).toBitVec.smod 64).toNat = n.val := by decide +kernel
theorem zshl32 {x y : Int} (h0 : 0 ≤ y) (h1 : y < 32) : Int32.ofInt x <<< (Int32.ofInt y &&& 31) = Int32.ofInt (x * 2 ^ y.toNat) := by
  have e := zsm32 ⟨y.toNat, by omega⟩
  rw [show (((⟨y.toNat, by omega⟩ : Fin 32).val : Nat) : Int) = y from by show ((y.toNat : Nat) : Int) = y; omega] at e
  apply Int32.toBitVec_inj.mp
  rw [Int32.toBitVec_shiftLeft, BitVec.shiftLeft_eq', e]
  show BitVec.ofInt 32 x <<< y.toNat = BitVec.ofInt 32 (x * 2 ^ y.toNat)
  rw [BitVec.shiftLeft_eq_mul_twoPow, BitVec.ofInt_mul]
  congr 1
  apply BitVec.eq_of_toNat_eq
  rw [BitVec.toNat_twoPow, BitVec.toNat_ofInt]
  have : (2 : Int) ^ y.toNat = ((2 ^ y.toNat : Nat) : Int) := by simp
  rw [this]
  omega
theorem zshl64 {x y : Int} (h0 : 0 ≤ y) (h1 : y < 64) : Int64.ofInt x <<< ((Int32.ofInt y).toInt64 &&& 63) = Int64.ofInt (x * 2 ^ y.toNat) := by
  have e := zsm64 ⟨y.toNat, by omega⟩
  rw [show (((⟨y.toNat, by omega⟩ : Fin 64).val : Nat) : Int) = y from by show ((y.toNat : Nat) : Int) = y; omega] at e
  apply Int64.toBitVec_inj.mp
  rw [Int64.toBitVec_shiftLeft, BitVec.shiftLeft_eq', e]
  show BitVec.ofInt 64 x <<< y.toNat = BitVec.ofInt 64 (x * 2 ^ y.toNat)
  rw [BitVec.shiftLeft_eq_mul_twoPow, BitVec.ofInt_mul]
  congr 1
  apply BitVec.eq_of_toNat_eq
  rw [BitVec.toNat_twoPow, BitVec.toNat_ofInt]
  have : (2 : Int) ^ y.toNat = ((2 ^ y.toNat : Nat) : Int) := by simp
  rw [this]
  omega
theorem zdivp {x : Int} {n : Nat} {lo hi : Int} (h : lo ≤ x ∧ x ≤ hi) (hlo : lo < 0) (hhi : 0 ≤ hi) : lo ≤ x / 2 ^ n ∧ x / 2 ^ n ≤ hi := by
  have hp : (0 : Int) < 2 ^ n := Int.pow_pos (by decide)
  constructor
  · by_cases h0 : 0 ≤ x
    · have := Int.ediv_nonneg h0 (Int.le_of_lt hp); omega
    · have : x ≤ x / 2 ^ n := by
        rw [Int.le_ediv_iff_mul_le hp]
        have h1 : (1 : Int) ≤ 2 ^ n := hp
        have : x * 2 ^ n ≤ x * 1 := Int.mul_le_mul_of_nonpos_left (by omega) h1
        omega
      omega
  · by_cases h0 : 0 ≤ x
    · have := Int.ediv_le_self (2 ^ n) h0; omega
    · have : x / 2 ^ n < 0 := Int.ediv_neg_of_neg_of_pos (by omega) hp
      omega
theorem zshr32 {x y : Int} (hx : z32 x) (h0 : 0 ≤ y) (h1 : y < 32) : Int32.ofInt x >>> (Int32.ofInt y &&& 31) = Int32.ofInt (x / 2 ^ y.toNat) := by
  have e := zsm32 ⟨y.toNat, by omega⟩
  rw [show (((⟨y.toNat, by omega⟩ : Fin 32).val : Nat) : Int) = y from by show ((y.toNat : Nat) : Int) = y; omega] at e
  have hq : z32 (x / 2 ^ y.toNat) := zdivp hx (by decide) (by decide)
  apply Int32.toInt_inj.mp
  rw [zt32 hq]
  show (Int32.ofInt x >>> (Int32.ofInt y &&& 31)).toBitVec.toInt = _
  rw [Int32.toBitVec_shiftRight, BitVec.sshiftRight_eq', e, BitVec.toInt_sshiftRight]
  show (Int32.ofInt x).toInt >>> y.toNat = _
  rw [zt32 hx, Int.shiftRight_eq_div_pow]
  simp
theorem zshr64 {x y : Int} (hx : z64 x) (h0 : 0 ≤ y) (h1 : y < 64) : Int64.ofInt x >>> ((Int32.ofInt y).toInt64 &&& 63) = Int64.ofInt (x / 2 ^ y.toNat) := by
  have e := zsm64 ⟨y.toNat, by omega⟩
  rw [show (((⟨y.toNat, by omega⟩ : Fin 64).val : Nat) : Int) = y from by show ((y.toNat : Nat) : Int) = y; omega] at e
  have hq : z64 (x / 2 ^ y.toNat) := zdivp hx (by decide) (by decide)
  apply Int64.toInt_inj.mp
  rw [zt64 hq]
  show (Int64.ofInt x >>> ((Int32.ofInt y).toInt64 &&& 63)).toBitVec.toInt = _
  rw [Int64.toBitVec_shiftRight, BitVec.sshiftRight_eq', e, BitVec.toInt_sshiftRight]
  show (Int64.ofInt x).toInt >>> y.toNat = _
  rw [zt64 hx, Int.shiftRight_eq_div_pow]
  simp
theorem zun32 {x : Int} (hx : z32 x) : ((Int32.ofInt x).toUInt32.toNat : Int) = x % 4294967296 := by
  have h3 : (Int32.ofInt x).toBitVec.toInt = x := zt32 hx
  rw [BitVec.toInt_eq_toNat_bmod] at h3
  show ((Int32.ofInt x).toBitVec.toNat : Int) = x % 4294967296
  have h4 := (Int32.ofInt x).toBitVec.isLt
  rw [Int.bmod_def] at h3
  split at h3 <;> omega
theorem zsu32 : ∀ n : Fin 32, ((Int32.ofInt (n.val : Int)).toUInt32 &&& Int32.toUInt32 31).toNat % 32 = n.val := by decide +kernel
theorem zushr32 {x y : Int} (hx : z32 x) (h0 : 0 ≤ y) (h1 : y < 32) : ((Int32.ofInt x).toUInt32 >>> ((Int32.ofInt y).toUInt32 &&& Int32.toUInt32 31)).toInt32 = Int32.ofInt (if y = 0 then x else (x % 4294967296) / 2 ^ y.toNat) := by
  have e := zsu32 ⟨y.toNat, by omega⟩
  rw [show (((⟨y.toNat, by omega⟩ : Fin 32).val : Nat) : Int) = y from by show ((y.toNat : Nat) : Int) = y; omega] at e
  have hn : ((Int32.ofInt x).toUInt32 >>> ((Int32.ofInt y).toUInt32 &&& Int32.toUInt32 31)).toNat = (Int32.ofInt x).toUInt32.toNat >>> y.toNat := by
    rw [UInt32.toNat_shiftRight, e]
  have hd : ((((Int32.ofInt x).toUInt32 >>> ((Int32.ofInt y).toUInt32 &&& Int32.toUInt32 31)).toNat : Nat) : Int) = (x % 4294967296) / 2 ^ y.toNat := by
    rw [hn, Nat.shiftRight_eq_div_pow, Int.natCast_ediv, zun32 hx]
    simp
  by_cases hy : y = 0
  · rw [if_pos hy]
    subst hy
    have : ((Int32.ofInt x).toUInt32 >>> ((Int32.ofInt 0).toUInt32 &&& Int32.toUInt32 31)) = (Int32.ofInt x).toUInt32 := by
      apply UInt32.toNat_inj.mp
      rw [hn]; rfl
    rw [this]
    simp
  · rw [if_neg hy]
    have hb : 0 ≤ (x % 4294967296) / 2 ^ y.toNat ∧ (x % 4294967296) / 2 ^ y.toNat ≤ 2147483647 := by
      have hp : (2 : Int) ≤ 2 ^ y.toNat := by
        obtain ⟨k, hk⟩ : ∃ k, y.toNat = k + 1 := ⟨y.toNat - 1, by omega⟩
        rw [hk, Int.pow_succ]
        have : (0 : Int) < 2 ^ k := Int.pow_pos (by decide)
        omega
      have h2 : 0 ≤ x % 4294967296 := Int.emod_nonneg _ (by decide)
      have h3 : x % 4294967296 < 4294967296 := Int.emod_lt_of_pos _ (by decide)
      constructor
      · exact Int.ediv_nonneg h2 (by omega)
      · have : (x % 4294967296) / 2 ^ y.toNat < 2147483648 := by
          rw [Int.ediv_lt_iff_lt_mul (by omega)]
          have : (2147483648 : Int) * 2 ≤ 2147483648 * 2 ^ y.toNat := Int.mul_le_mul_of_nonneg_left hp (by decide)
          omega
        omega
    apply Int32.toInt_inj.mp
    rw [zt32 ⟨by omega, hb.2⟩, ← hd]
    rw [← hd] at hb
    show BitVec.toInt _ = _
    rw [BitVec.toInt_eq_toNat_bmod]
    show Int.bmod (((Int32.ofInt x).toUInt32 >>> ((Int32.ofInt y).toUInt32 &&& Int32.toUInt32 31)).toNat : Int) _ = _
    rw [Int.bmod_eq_of_le] <;> omega
