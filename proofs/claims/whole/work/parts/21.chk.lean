/-! the tables' words, checked by program -/
/-- the words that stay -/
def zWS : List Jvm.Cond := lw_tbl.filter goodWord
def zw (i : Nat) (w : Jvm.Cond) : Bool := decide (lw_tbl[i]? = some w) && goodWord w
theorem zw_mem {i : Nat} {w : Jvm.Cond} (h : zw i w = true) : w ∈ zWS := by
  simp only [zw, Bool.and_eq_true, decide_eq_true_eq] at h
  exact List.mem_filter.mpr ⟨List.mem_of_getElem? h.1, h.2⟩
theorem zWS_good : GoodIn zWS zWS := fun w h => ⟨h, good_of_word (List.mem_filter.mp h).2⟩
set_option maxRecDepth 100000 in
theorem z_codes : lw_tbl.filter k2_isCode = z_ms.map (fun q => Jvm.Cond.code q.1 q.2.1 q.2.2.1 q.2.2.2) := rfl
theorem zfl_ok : z_fl.all (fun q => zw q.2.2.2.2 (.fieldLink (zCn q.1) q.2.1 (zCn q.2.2.1) (zTX q.2.2.1 q.2.2.2.1).2.1 (zTX q.2.2.1 q.2.2.2.1).2.2.1)) = true := by decide +kernel
theorem zml_ok : z_ml.all (fun q => zw q.2.2.2 (.methodLink (zCn q.1) q.2.1 (zy q.2.2.1))) = true := by decide +kernel
theorem zmn_ok : z_mn.all (fun q => decide (lw_tbl[q.2.2.2]? = some (.methodLinkNest (zCn q.1) q.2.1 (zy q.2.2.1) "TwoWayWall"))) = true := by decide +kernel
theorem zoi_ok : z_oi.all (fun q => zw q.2.2 (.methodLink (zCn q.1) q.2.1 Lib.objectInit)) = true := by decide +kernel
theorem zcp_ok : z_cp.all (fun q => zw q.2.2 (.methodLink (zCn q.1) q.2.1 ⟨"java/lang/System", "arraycopy", "(Ljava/lang/Object;ILjava/lang/Object;II)V"⟩)) = true := by decide +kernel
theorem zmm_ok : z_mm.all (fun q => zw q.2.2.2 (.methodLink (zCn q.1) q.2.1 (if q.2.2.1 = 84 then Lib.Math.max.name else if q.2.2.1 = 85 then Lib.Math.min.name else Lib.MathLoose.min_long.x)) && decide (84 ≤ q.2.2.1 ∧ q.2.2.1 ≤ 86)) = true := by decide +kernel
theorem zmath_ok : (zw 425 (.static Lib.Math.max.name) && (zw 617 (.static Lib.Math.min.name) && (zw 875 (.static Lib.MathLoose.min_long.x) && zw 92 (.initialized "java/lang/Math")))) = true := by decide +kernel
theorem zcopy_ok : (zw 632 (.static ⟨"java/lang/System", "arraycopy", "(Ljava/lang/Object;ILjava/lang/Object;II)V"⟩) && (zw 633 (.native ⟨"java/lang/System", "arraycopy", "(Ljava/lang/Object;ILjava/lang/Object;II)V"⟩) && zw 95 (.initialized "java/lang/System"))) = true := by decide +kernel
theorem zarr_ok : (zw 174 (.arrayClass .int) && (zw 463 (.arrayClass .long) && (zw 770 (.arrayClass .byte) && zw 417 (.arrayClass .boolean)))) = true := by decide +kernel
theorem zsf_ok : z_sf.all (fun q => zw q.2.2.2 (if q.2.2.1 = 0 then .fieldLink (zCn q.1) q.2.1 "java/lang/String" "value" "[B" else if q.2.2.1 = 1 then .fieldLink (zCn q.1) q.2.1 "java/lang/String" "coder" "B" else if q.2.2.1 = 2 then .fieldLink (zCn q.1) q.2.1 "java/lang/String" "COMPACT_STRINGS" "Z" else .fieldLink (zCn q.1) q.2.1 "jdk/internal/util/Preconditions" "SIOOBE_FORMATTER" "Ljava/util/function/BiFunction;")) = true := by decide +kernel
theorem zcs_ok : z_cs.all (fun q => decide (lw_tbl[q.2.2.2]? = some (.stringRef (zCn q.1) q.2.1 (["east", "west", "word", "mirror", "cost", "drop", "not"].getD q.2.2.1 "")))) = true := by decide +kernel
theorem zcl_ok : z_cl.all (fun q => zw q.2.2.2 (.classLink (zCn q.1) q.2.1 (zCn q.2.2.1))) = true := by decide +kernel
theorem zci_ok : z_ci.all (fun q => zw q.2.2.2 (.constant (zCn q.1) q.2.1 (Int32.ofInt q.2.2.1)) && decide (z32 q.2.2.1)) = true := by decide +kernel
theorem zcL_ok : z_cL.all (fun q => zw q.2.2.2 (.constantLong (zCn q.1) q.2.1 (Int64.ofInt q.2.2.1)) && decide (z64 q.2.2.1)) = true := by decide +kernel
theorem zins_ok : z_ins.all (fun q => zw q.2.1 (.instantiable (zCn q.1) (zfN q.1)) && zw q.2.2 (.initialized (zCn q.1))) = true := by decide +kernel
theorem zly_ok : z_ly.all (fun q => zw q.2.2 (u_lay (zCn q.1) (zTX q.1) q.2.1)) = true := by decide +kernel
def z_calq (q : Nat × Nat × Nat × Nat × Nat × Nat) : Bool :=
  let y := zy q.1
  zw q.2.2.2.1 (.initialized y.cls) && (decide (y.cls ≠ "java/lang/invoke/MethodHandle" ∧ y.cls ≠ "java/lang/invoke/VarHandle" ∧ (parseMethodDescriptor y.desc).map (fun d => d.parameters.length) = some q.2.2.1) && (decide (zCn (zown q.1) = y.cls) && (Jvm.plainName y.cls &&
  (if q.2.1 = 0 then zw q.2.2.2.2.1 (.static y) else if q.2.1 = 1 then zw q.2.2.2.2.1 (.instanceMethod y) && (decide (y.name = "<init>") && decide (zret q.1 = none)) else zw q.2.2.2.2.1 (.instanceMethod y) && zw q.2.2.2.2.2 (.selects y.cls y y)))))
theorem zcal_ok : z_cal.all z_calq = true := by decide +kernel
def z_isR : FieldType → Bool
  | .object _ => true
  | .array _ => true
  | _ => false
/-- is entry I of method k (of class o) what stands at pc -/
def z_cc : Jvm.ClassFile.Cond → Nat
  | .eq => 0 | .ne => 1 | .lt => 2 | .ge => 3 | .gt => 4 | .le => 5
def z_ai : ArrayType → Nat
  | .int => 0 | .long => 1 | .byte => 2 | .boolean => 3 | _ => 9
def z_vi (o k pc : Nat) (i : Instr) (n : Nat) (I : zI) : Bool :=
  let op := I.1
  let a := I.2.2.1
  let b := I.2.2.2.1
  let N := fun (m : Nat) => n == m && I.2.1 == pc + m
  match i with
  | .iconst v => op == 0 && (b == v && N 1)
  | .bipush v => op == 0 && (b == v && (decide (-128 ≤ v ∧ v ≤ 127) && N 2))
  | .sipush v => op == 0 && (b == v && (decide (-32768 ≤ v ∧ v ≤ 32767) && N 3))
  | .lconst v => op == 1 && (b == ((v : Nat) : Int) && N 1)
  | .ldc ix => ((op == 0 && z_ci.any (fun q => q.1 == o && (q.2.1 == ix && q.2.2.1 == b))) || (op == 3 && z_cs.any (fun q => q.1 == o && (q.2.1 == ix && q.2.2.1 == a)))) && N 2
  | .ldc_w ix => op == 0 && (z_ci.any (fun q => q.1 == o && (q.2.1 == ix && q.2.2.1 == b)) && N 3)
  | .ldc2_w ix => op == 1 && (z_cL.any (fun q => q.1 == o && (q.2.1 == ix && q.2.2.1 == b)) && N 3)
  | .aconst_null => op == 2 && N 1
  | .iload_n v => op == 4 && (a == (v : Nat) && N 1)
  | .iload v => op == 4 && (a == v && N 2)
  | .lload_n v => op == 5 && (a == (v : Nat) && N 1)
  | .lload v => op == 5 && (a == v && N 2)
  | .aload_n v => op == 6 && (a == (v : Nat) && N 1)
  | .aload v => op == 6 && (a == v && N 2)
  | .istore_n v => op == 7 && (a == (v : Nat) && N 1)
  | .istore v => op == 7 && (a == v && N 2)
  | .lstore_n v => op == 8 && (a == (v : Nat) && N 1)
  | .lstore v => op == 8 && (a == v && N 2)
  | .astore_n v => op == 9 && (a == (v : Nat) && N 1)
  | .astore v => op == 9 && (a == v && N 2)
  | .iinc v c => op == 10 && (a == v && (b == c && (decide (z32 c) && N 3)))
  | .iadd => op == 11 && N 1
  | .isub => op == 12 && N 1
  | .imul => op == 13 && N 1
  | .iand => op == 14 && N 1
  | .ior => op == 15 && N 1
  | .ixor => op == 16 && N 1
  | .idiv => op == 17 && N 1
  | .irem => op == 18 && N 1
  | .ineg => op == 19 && N 1
  | .ishl => op == 20 && N 1
  | .ishr => op == 21 && N 1
  | .iushr => op == 22 && N 1
  | .ladd => op == 23 && N 1
  | .lsub => op == 24 && N 1
  | .lmul => op == 25 && N 1
  | .land => op == 26 && N 1
  | .lor => op == 27 && N 1
  | .lrem => op == 28 && N 1
  | .lshl => op == 29 && N 1
  | .lshr => op == 30 && N 1
  | .lcmp => op == 31 && N 1
  | .i2l => op == 32 && N 1
  | .l2i => op == 33 && N 1
  | .i2b => op == 34 && N 1
  | .i2c => op == 35 && N 1
  | .dup => op == 36 && N 1
  | .pop => op == 37 && N 1
  | .dup2 => op == 38 && N 1
  | .ifCond c off => op == 40 + z_cc c && ((pc : Int) + off == (a : Int) && N 3)
  | .if_icmp c off => op == 46 + z_cc c && ((pc : Int) + off == (a : Int) && N 3)
  | .ifnonnull off => op == 52 && ((pc : Int) + off == (a : Int) && N 3)
  | .goto off => op == 53 && ((pc : Int) + off == (a : Int) && n == 3)
  | .tableswitch d lo hi offs => op == 54 && (b == lo && (decide (hi = lo + (offs.size : Int) - 1) && (decide (I.2.2.2.2.map (fun t => ((t : Nat) : Int)) = (d :: offs.toList).map (fun t => (pc : Int) + t)) && decide (z32 lo))))
  | .getfield ix => N 3 && (((op == 55 && (decide (zTy a b.toNat = .int ∨ zTy a b.toNat = .boolean)) || op == 56 && z_isR (zTy a b.toNat)) && (decide (0 ≤ b ∧ b < (zfN a : Int) ∧ a < 13) && z_fl.any (fun q => q.1 == o && (q.2.1 == ix && (q.2.2.1 == a && ((q.2.2.2.1 : Nat) : Int) == b))))) || ((op == 82 && z_sf.any (fun q => q.1 == o && (q.2.1 == ix && q.2.2.1 == 0))) || (op == 83 && z_sf.any (fun q => q.1 == o && (q.2.1 == ix && q.2.2.1 == 1)))))
  | .putfield ix => N 3 && ((op == 57 && decide (zTy a b.toNat = .int) || (op == 58 && decide (zTy a b.toNat = .boolean) || op == 59 && z_isR (zTy a b.toNat))) && (decide (0 ≤ b ∧ b < (zfN a : Int) ∧ a < 13) && (z_fl.any (fun q => q.1 == o && (q.2.1 == ix && (q.2.2.1 == a && ((q.2.2.2.1 : Nat) : Int) == b))) && (!(zTX a b.toNat).2.2.2 || (decide ((zy k).name = "<init>") && decide ((zTX a b.toNat).1 = zCn o))))))
  | .getstatic ix => N 3 && ((op == 80 && (z_sf.any (fun q => q.1 == o && (q.2.1 == ix && q.2.2.1 == 2)))) || (op == 81 && z_sf.any (fun q => q.1 == o && (q.2.1 == ix && q.2.2.1 == 3))))
  | .iaload => op == 60 && N 1
  | .laload => op == 61 && N 1
  | .baload => op == 62 && N 1
  | .aaload => op == 63 && N 1
  | .iastore => op == 64 && N 1
  | .lastore => op == 65 && N 1
  | .bastore => op == 66 && N 1
  | .aastore => op == 67 && N 1
  | .arraylength => op == 68 && N 1
  | .new ix => op == 69 && (N 3 && z_cl.any (fun q => q.1 == o && (q.2.1 == ix && q.2.2.1 == a)))
  | .newarray t => op == 70 && (N 2 && (a == z_ai t && decide (a < 4)))
  | .anewarray ix => op == 71 && (N 3 && z_cl.any (fun q => q.1 == o && (q.2.1 == ix && q.2.2.1 == 6)))
  | .ireturn => op == 72 && (n == 1 && ((a == 0 && decide (zret k = some .int)) || ((a == 3 && decide (zret k = some .boolean)) || ((a == 4 && decide (zret k = some .byte)) || (a == 5 && decide (zret k = some .char))))))
  | .lreturn => op == 72 && (n == 1 && (a == 1 && decide (zret k = some .long)))
  | .areturn => op == 72 && (n == 1 && (a == 2 && (zret k).any z_isR))
  | .return_ => op == 73 && (n == 1 && decide (zret k = none))
  | .invokestatic ix => N 3 && ((op == 74 && (z_cal.any (fun q => q.1 == a && (q.2.1 == 0 && ((q.2.2.1 : Nat) : Int) == b)) && (z_ml.any (fun q => q.1 == o && (q.2.1 == ix && q.2.2.1 == a)) || z_mn.any (fun q => q.1 == o && (q.2.1 == ix && q.2.2.1 == a))))) || ((op == 79 && z_cp.any (fun q => q.1 == o && q.2.1 == ix)) || (decide (84 ≤ op ∧ op ≤ 86) && z_mm.any (fun q => q.1 == o && (q.2.1 == ix && q.2.2.1 == op)))))
  | .invokespecial ix => N 3 && ((op == 75 && (z_cal.any (fun q => q.1 == a && (q.2.1 == 1 && ((q.2.2.1 : Nat) : Int) + 1 == b)) && (z_ml.any (fun q => q.1 == o && (q.2.1 == ix && q.2.2.1 == a)) || z_mn.any (fun q => q.1 == o && (q.2.1 == ix && q.2.2.1 == a))))) || (op == 78 && z_oi.any (fun q => q.1 == o && q.2.1 == ix)))
  | .invokevirtual ix => N 3 && (z_cal.any (fun q => q.1 == a && (q.2.1 == 2 && ((q.2.2.1 : Nat) : Int) + 1 == b)) && (z_ml.any (fun q => q.1 == o && (q.2.1 == ix && q.2.2.1 == a)) && ((op == 76 && (decide (I.2.2.2.2 = [zown a]) && decide (zown a < 13))) || (op == 77 && zown a == 16))))
  | _ => false
def z_vl (k : Nat) (q : Nat × zI) : Bool := match decode (zby k) q.1 with
  | .ok (i, n) => z_vi (zown k) k q.1 i n q.2
  | _ => false
