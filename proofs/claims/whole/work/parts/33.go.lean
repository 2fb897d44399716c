/-! every step that goes on is what the machine does -/
theorem zlk_f {o ix a : Nat} {b : Int} (h : z_fl.any (fun q => q.1 == o && (q.2.1 == ix && (q.2.2.1 == a && ((q.2.2.2.1 : Nat) : Int) == b))) = true) : Jvm.Cond.fieldLink (zCn o) ix (zCn a) (zTX a b.toNat).2.1 (zTX a b.toNat).2.2.1 ∈ zWS := by
  obtain ⟨q, hq, h1⟩ := List.any_eq_true.mp h
  simp only [Bool.and_eq_true, beq_iff_eq] at h1
  obtain ⟨h2, h3, h4, h5⟩ := h1
  have h6 := zw_mem (List.all_eq_true.mp zfl_ok q hq)
  rw [h2, h3, h4, show q.2.2.2.1 = b.toNat by omega] at h6
  exact h6
theorem zlk_sf {o ix w : Nat} (h : z_sf.any (fun q => q.1 == o && (q.2.1 == ix && q.2.2.1 == w)) = true) : (if w = 0 then Jvm.Cond.fieldLink (zCn o) ix "java/lang/String" "value" "[B" else if w = 1 then .fieldLink (zCn o) ix "java/lang/String" "coder" "B" else if w = 2 then .fieldLink (zCn o) ix "java/lang/String" "COMPACT_STRINGS" "Z" else .fieldLink (zCn o) ix "jdk/internal/util/Preconditions" "SIOOBE_FORMATTER" "Ljava/util/function/BiFunction;") ∈ zWS := by
  obtain ⟨q, hq, h1⟩ := List.any_eq_true.mp h
  simp only [Bool.and_eq_true, beq_iff_eq] at h1
  obtain ⟨h2, h3, h4⟩ := h1
  have h6 := zw_mem (List.all_eq_true.mp zsf_ok q hq)
  rw [h2, h3, h4] at h6
  exact h6
theorem zlk_ci {o ix : Nat} {b : Int} (h : z_ci.any (fun q => q.1 == o && (q.2.1 == ix && q.2.2.1 == b)) = true) : Jvm.Cond.constant (zCn o) ix (Int32.ofInt b) ∈ zWS := by
  obtain ⟨q, hq, h1⟩ := List.any_eq_true.mp h
  simp only [Bool.and_eq_true, beq_iff_eq] at h1
  obtain ⟨h2, h3, h4⟩ := h1
  have h5 := List.all_eq_true.mp zci_ok q hq
  rw [Bool.and_eq_true] at h5
  have h6 := zw_mem h5.1
  rw [h2, h3, h4] at h6
  exact h6
theorem zlk_cL {o ix : Nat} {b : Int} (h : z_cL.any (fun q => q.1 == o && (q.2.1 == ix && q.2.2.1 == b)) = true) : Jvm.Cond.constantLong (zCn o) ix (Int64.ofInt b) ∈ zWS := by
  obtain ⟨q, hq, h1⟩ := List.any_eq_true.mp h
  simp only [Bool.and_eq_true, beq_iff_eq] at h1
  obtain ⟨h2, h3, h4⟩ := h1
  have h5 := List.all_eq_true.mp zcL_ok q hq
  rw [Bool.and_eq_true] at h5
  have h6 := zw_mem h5.1
  rw [h2, h3, h4] at h6
  exact h6
theorem zlk_cl {o ix a : Nat} (h : z_cl.any (fun q => q.1 == o && (q.2.1 == ix && q.2.2.1 == a)) = true) : Jvm.Cond.classLink (zCn o) ix (zCn a) ∈ zWS := by
  obtain ⟨q, hq, h1⟩ := List.any_eq_true.mp h
  simp only [Bool.and_eq_true, beq_iff_eq] at h1
  obtain ⟨h2, h3, h4⟩ := h1
  have h6 := zw_mem (List.all_eq_true.mp zcl_ok q hq)
  rw [h2, h3, h4] at h6
  exact h6
theorem zlk_oi {o ix : Nat} (h : z_oi.any (fun q => q.1 == o && q.2.1 == ix) = true) : Jvm.Cond.methodLink (zCn o) ix Lib.objectInit ∈ zWS := by
  obtain ⟨q, hq, h1⟩ := List.any_eq_true.mp h
  simp only [Bool.and_eq_true, beq_iff_eq] at h1
  have h6 := zw_mem (List.all_eq_true.mp zoi_ok q hq)
  rw [h1.1, h1.2] at h6
  exact h6
theorem zlk_cp {o ix : Nat} (h : z_cp.any (fun q => q.1 == o && q.2.1 == ix) = true) : Jvm.Cond.methodLink (zCn o) ix arraycopyName ∈ zWS := by
  obtain ⟨q, hq, h1⟩ := List.any_eq_true.mp h
  simp only [Bool.and_eq_true, beq_iff_eq] at h1
  have h6 := zw_mem (List.all_eq_true.mp zcp_ok q hq)
  rw [h1.1, h1.2] at h6
  exact h6
theorem zlk_mm {o ix w : Nat} (h : z_mm.any (fun q => q.1 == o && (q.2.1 == ix && q.2.2.1 == w)) = true) : Jvm.Cond.methodLink (zCn o) ix (if w = 84 then Lib.Math.max.name else if w = 85 then Lib.Math.min.name else Lib.MathLoose.min_long.x) ∈ zWS := by
  obtain ⟨q, hq, h1⟩ := List.any_eq_true.mp h
  simp only [Bool.and_eq_true, beq_iff_eq] at h1
  obtain ⟨h2, h3, h4⟩ := h1
  have h5 := List.all_eq_true.mp zmm_ok q hq
  rw [Bool.and_eq_true] at h5
  have h6 := zw_mem h5.1
  rw [h2, h3, h4] at h6
  exact h6
theorem zobj_in : zw 107 (.instanceMethod Lib.objectInit) = true := by decide +kernel
section ZGO
variable {p : Program} {l : Launch} {e : Env} {R : Room} {s : State} {m : MethodId} {args : Array Value} {below : List Frame} {meth : Method} {c : Code} {H : Heap} {locs : List Loc} {cells slots : Nat} {Q : State → Prop} {E : zEn} {k pc pc' : Nat} {ls : Array Slot} {lo st lo' st' : List zV} {T T' : zT} {V V' : zM}
set_option maxHeartbeats 4000000 in
theorem z_go {I : zI} {i : Instr} {n : Nat} (C : zCX p s m args meth c E k) (hlen : lo.length = zmL k) (hd : decode (zby k) pc = .ok (i, n)) (hv : z_vi (zown k) k pc i n I = true) (hs : z_step I lo st T V = some (.inl (pc', lo', st', T', V'))) (hRm : 1 ≤ R.frames ∧ 36 ≤ R.locals) (hcs : cells ≤ R.cells ∧ slots ≤ R.slots) (hcc : cells + T'.1 ≤ R.cells + T.1) (hss : slots + T'.2.1 ≤ R.slots + T.2.1) (S : zSt E s T V H locs ls lo st) (kk : zK p l e R s m args below meth c Q E pc' lo' st' T T' V' cells slots) : W p l e R s m args below meth c H locs cells slots Q (F0 m pc ls (st.map (rv E))) := by
  obtain ⟨op, nx, a, b, ts⟩ := I
  cases i with
  | iconst v =>
    simp only [z_vi, Bool.and_eq_true, Bool.or_eq_true, Bool.not_eq_true', beq_iff_eq, decide_eq_true_eq] at hv
    obtain ⟨rfl, rfl, rfl, rfl⟩ := hv
    exact zi_iconst C hd hs S kk
  | bipush v =>
    simp only [z_vi, Bool.and_eq_true, Bool.or_eq_true, Bool.not_eq_true', beq_iff_eq, decide_eq_true_eq] at hv
    obtain ⟨rfl, rfl, h1, rfl, rfl⟩ := hv
    exact zi_bipush C h1 hd hs S kk
  | sipush v =>
    simp only [z_vi, Bool.and_eq_true, Bool.or_eq_true, Bool.not_eq_true', beq_iff_eq, decide_eq_true_eq] at hv
    obtain ⟨rfl, rfl, h1, rfl, rfl⟩ := hv
    exact zi_sipush C h1 hd hs S kk
  | lconst v =>
    simp only [z_vi, Bool.and_eq_true, Bool.or_eq_true, Bool.not_eq_true', beq_iff_eq, decide_eq_true_eq] at hv
    obtain ⟨rfl, h1, rfl, rfl⟩ := hv
    exact zi_lconst C h1 hd hs S kk
  | ldc ix =>
    have hv : (((op == 0 && z_ci.any (fun q => q.1 == zown k && (q.2.1 == ix && q.2.2.1 == b))) || (op == 3 && z_cs.any (fun q => q.1 == zown k && (q.2.1 == ix && q.2.2.1 == a)))) && (n == 2 && nx == pc + 2)) = true := hv
    rw [Bool.and_eq_true, Bool.or_eq_true] at hv
    obtain ⟨h1, h2⟩ := hv
    simp only [Bool.and_eq_true, beq_iff_eq] at h2
    obtain ⟨rfl, rfl⟩ := h2
    rcases h1 with h1 | h1
    · rw [Bool.and_eq_true, beq_iff_eq] at h1
      obtain ⟨rfl, h1⟩ := h1
      exact zi_ldc C (zlk_ci h1) hd hs S kk
    · rw [Bool.and_eq_true, beq_iff_eq] at h1
      obtain ⟨rfl, h1⟩ := h1
      obtain ⟨q, hq, h3⟩ := List.any_eq_true.mp h1
      simp only [Bool.and_eq_true, beq_iff_eq] at h3
      exact zi_ldcs C ⟨q, hq, h3.1, h3.2.1, h3.2.2⟩ hd hs S kk
  | ldc_w ix =>
    have hv : (op == 0 && (z_ci.any (fun q => q.1 == zown k && (q.2.1 == ix && q.2.2.1 == b)) && (n == 3 && nx == pc + 3))) = true := hv
    rw [Bool.and_eq_true, Bool.and_eq_true, Bool.and_eq_true, beq_iff_eq, beq_iff_eq, beq_iff_eq] at hv
    obtain ⟨rfl, h1, rfl, rfl⟩ := hv
    exact zi_ldcw C (zlk_ci h1) hd hs S kk
  | ldc2_w ix =>
    have hv : (op == 1 && (z_cL.any (fun q => q.1 == zown k && (q.2.1 == ix && q.2.2.1 == b)) && (n == 3 && nx == pc + 3))) = true := hv
    rw [Bool.and_eq_true, Bool.and_eq_true, Bool.and_eq_true, beq_iff_eq, beq_iff_eq, beq_iff_eq] at hv
    obtain ⟨rfl, h1, rfl, rfl⟩ := hv
    exact zi_ldc2 C (zlk_cL h1) hd hs S kk
  | aconst_null =>
    simp only [z_vi, Bool.and_eq_true, Bool.or_eq_true, Bool.not_eq_true', beq_iff_eq, decide_eq_true_eq] at hv
    obtain ⟨rfl, rfl, rfl⟩ := hv
    exact zi_null C hd hs S kk
  | iload_n v =>
    simp only [z_vi, Bool.and_eq_true, Bool.or_eq_true, Bool.not_eq_true', beq_iff_eq, decide_eq_true_eq] at hv
    obtain ⟨rfl, rfl, rfl, rfl⟩ := hv
    exact zi_iload_n C rfl hd hs S kk
  | iload v =>
    simp only [z_vi, Bool.and_eq_true, Bool.or_eq_true, Bool.not_eq_true', beq_iff_eq, decide_eq_true_eq] at hv
    obtain ⟨rfl, rfl, rfl, rfl⟩ := hv
    exact zi_iload C hd hs S kk
  | lload_n v =>
    simp only [z_vi, Bool.and_eq_true, Bool.or_eq_true, Bool.not_eq_true', beq_iff_eq, decide_eq_true_eq] at hv
    obtain ⟨rfl, rfl, rfl, rfl⟩ := hv
    exact zi_lload_n C rfl hd hs S kk
  | lload v =>
    simp only [z_vi, Bool.and_eq_true, Bool.or_eq_true, Bool.not_eq_true', beq_iff_eq, decide_eq_true_eq] at hv
    obtain ⟨rfl, rfl, rfl, rfl⟩ := hv
    exact zi_lload C hd hs S kk
  | aload_n v =>
    simp only [z_vi, Bool.and_eq_true, Bool.or_eq_true, Bool.not_eq_true', beq_iff_eq, decide_eq_true_eq] at hv
    obtain ⟨rfl, rfl, rfl, rfl⟩ := hv
    exact zi_aload_n C rfl hd hs S kk
  | aload v =>
    simp only [z_vi, Bool.and_eq_true, Bool.or_eq_true, Bool.not_eq_true', beq_iff_eq, decide_eq_true_eq] at hv
    obtain ⟨rfl, rfl, rfl, rfl⟩ := hv
    exact zi_aload C hd hs S kk
  | istore_n v =>
    simp only [z_vi, Bool.and_eq_true, Bool.or_eq_true, Bool.not_eq_true', beq_iff_eq, decide_eq_true_eq] at hv
    obtain ⟨rfl, rfl, rfl, rfl⟩ := hv
    exact zi_istore_n C rfl hd hs S kk
  | istore v =>
    simp only [z_vi, Bool.and_eq_true, Bool.or_eq_true, Bool.not_eq_true', beq_iff_eq, decide_eq_true_eq] at hv
    obtain ⟨rfl, rfl, rfl, rfl⟩ := hv
    exact zi_istore C hd hs S kk
  | lstore_n v =>
    simp only [z_vi, Bool.and_eq_true, Bool.or_eq_true, Bool.not_eq_true', beq_iff_eq, decide_eq_true_eq] at hv
    obtain ⟨rfl, rfl, rfl, rfl⟩ := hv
    exact zi_lstore_n C rfl hd hs S kk
  | lstore v =>
    simp only [z_vi, Bool.and_eq_true, Bool.or_eq_true, Bool.not_eq_true', beq_iff_eq, decide_eq_true_eq] at hv
    obtain ⟨rfl, rfl, rfl, rfl⟩ := hv
    exact zi_lstore C hd hs S kk
  | astore_n v =>
    simp only [z_vi, Bool.and_eq_true, Bool.or_eq_true, Bool.not_eq_true', beq_iff_eq, decide_eq_true_eq] at hv
    obtain ⟨rfl, rfl, rfl, rfl⟩ := hv
    exact zi_astore_n C rfl hd hs S kk
  | astore v =>
    simp only [z_vi, Bool.and_eq_true, Bool.or_eq_true, Bool.not_eq_true', beq_iff_eq, decide_eq_true_eq] at hv
    obtain ⟨rfl, rfl, rfl, rfl⟩ := hv
    exact zi_astore C hd hs S kk
  | iinc v c =>
    simp only [z_vi, Bool.and_eq_true, Bool.or_eq_true, Bool.not_eq_true', beq_iff_eq, decide_eq_true_eq] at hv
    obtain ⟨rfl, rfl, rfl, h1, rfl, rfl⟩ := hv
    exact zi_iinc C hd hs S kk
  | iadd =>
    simp only [z_vi, Bool.and_eq_true, Bool.or_eq_true, Bool.not_eq_true', beq_iff_eq, decide_eq_true_eq] at hv
    obtain ⟨rfl, rfl, rfl⟩ := hv
    exact zi_iadd C hd hs S kk
  | isub =>
    simp only [z_vi, Bool.and_eq_true, Bool.or_eq_true, Bool.not_eq_true', beq_iff_eq, decide_eq_true_eq] at hv
    obtain ⟨rfl, rfl, rfl⟩ := hv
    exact zi_isub C hd hs S kk
  | imul =>
    simp only [z_vi, Bool.and_eq_true, Bool.or_eq_true, Bool.not_eq_true', beq_iff_eq, decide_eq_true_eq] at hv
    obtain ⟨rfl, rfl, rfl⟩ := hv
    exact zi_imul C hd hs S kk
  | iand =>
    simp only [z_vi, Bool.and_eq_true, Bool.or_eq_true, Bool.not_eq_true', beq_iff_eq, decide_eq_true_eq] at hv
    obtain ⟨rfl, rfl, rfl⟩ := hv
    exact zi_iand C hd hs S kk
  | ior =>
    simp only [z_vi, Bool.and_eq_true, Bool.or_eq_true, Bool.not_eq_true', beq_iff_eq, decide_eq_true_eq] at hv
    obtain ⟨rfl, rfl, rfl⟩ := hv
    exact zi_ior C hd hs S kk
  | ixor =>
    simp only [z_vi, Bool.and_eq_true, Bool.or_eq_true, Bool.not_eq_true', beq_iff_eq, decide_eq_true_eq] at hv
    obtain ⟨rfl, rfl, rfl⟩ := hv
    exact zi_ixor C hd hs S kk
  | idiv =>
    simp only [z_vi, Bool.and_eq_true, Bool.or_eq_true, Bool.not_eq_true', beq_iff_eq, decide_eq_true_eq] at hv
    obtain ⟨rfl, rfl, rfl⟩ := hv
    exact zi_idiv C hd hs S kk
  | irem =>
    simp only [z_vi, Bool.and_eq_true, Bool.or_eq_true, Bool.not_eq_true', beq_iff_eq, decide_eq_true_eq] at hv
    obtain ⟨rfl, rfl, rfl⟩ := hv
    exact zi_irem C hd hs S kk
  | ineg =>
    simp only [z_vi, Bool.and_eq_true, Bool.or_eq_true, Bool.not_eq_true', beq_iff_eq, decide_eq_true_eq] at hv
    obtain ⟨rfl, rfl, rfl⟩ := hv
    exact zi_ineg C hd hs S kk
  | ishl =>
    simp only [z_vi, Bool.and_eq_true, Bool.or_eq_true, Bool.not_eq_true', beq_iff_eq, decide_eq_true_eq] at hv
    obtain ⟨rfl, rfl, rfl⟩ := hv
    exact zi_ishl C hd hs S kk
  | ishr =>
    simp only [z_vi, Bool.and_eq_true, Bool.or_eq_true, Bool.not_eq_true', beq_iff_eq, decide_eq_true_eq] at hv
    obtain ⟨rfl, rfl, rfl⟩ := hv
    exact zi_ishr C hd hs S kk
  | iushr =>
    simp only [z_vi, Bool.and_eq_true, Bool.or_eq_true, Bool.not_eq_true', beq_iff_eq, decide_eq_true_eq] at hv
    obtain ⟨rfl, rfl, rfl⟩ := hv
    exact zi_iushr C hd hs S kk
  | ladd =>
    simp only [z_vi, Bool.and_eq_true, Bool.or_eq_true, Bool.not_eq_true', beq_iff_eq, decide_eq_true_eq] at hv
    obtain ⟨rfl, rfl, rfl⟩ := hv
    exact zi_ladd C hd hs S kk
  | lsub =>
    simp only [z_vi, Bool.and_eq_true, Bool.or_eq_true, Bool.not_eq_true', beq_iff_eq, decide_eq_true_eq] at hv
    obtain ⟨rfl, rfl, rfl⟩ := hv
    exact zi_lsub C hd hs S kk
  | lmul =>
    simp only [z_vi, Bool.and_eq_true, Bool.or_eq_true, Bool.not_eq_true', beq_iff_eq, decide_eq_true_eq] at hv
    obtain ⟨rfl, rfl, rfl⟩ := hv
    exact zi_lmul C hd hs S kk
  | land =>
    simp only [z_vi, Bool.and_eq_true, Bool.or_eq_true, Bool.not_eq_true', beq_iff_eq, decide_eq_true_eq] at hv
    obtain ⟨rfl, rfl, rfl⟩ := hv
    exact zi_land C hd hs S kk
  | lor =>
    simp only [z_vi, Bool.and_eq_true, Bool.or_eq_true, Bool.not_eq_true', beq_iff_eq, decide_eq_true_eq] at hv
    obtain ⟨rfl, rfl, rfl⟩ := hv
    exact zi_lor C hd hs S kk
  | lrem =>
    simp only [z_vi, Bool.and_eq_true, Bool.or_eq_true, Bool.not_eq_true', beq_iff_eq, decide_eq_true_eq] at hv
    obtain ⟨rfl, rfl, rfl⟩ := hv
    exact zi_lrem C hd hs S kk
  | lshl =>
    simp only [z_vi, Bool.and_eq_true, Bool.or_eq_true, Bool.not_eq_true', beq_iff_eq, decide_eq_true_eq] at hv
    obtain ⟨rfl, rfl, rfl⟩ := hv
    exact zi_lshl C hd hs S kk
  | lshr =>
    simp only [z_vi, Bool.and_eq_true, Bool.or_eq_true, Bool.not_eq_true', beq_iff_eq, decide_eq_true_eq] at hv
    obtain ⟨rfl, rfl, rfl⟩ := hv
    exact zi_lshr C hd hs S kk
  | lcmp =>
    simp only [z_vi, Bool.and_eq_true, Bool.or_eq_true, Bool.not_eq_true', beq_iff_eq, decide_eq_true_eq] at hv
    obtain ⟨rfl, rfl, rfl⟩ := hv
    exact zi_lcmp C hd hs S kk
  | i2l =>
    simp only [z_vi, Bool.and_eq_true, Bool.or_eq_true, Bool.not_eq_true', beq_iff_eq, decide_eq_true_eq] at hv
    obtain ⟨rfl, rfl, rfl⟩ := hv
    exact zi_i2l C hd hs S kk
  | l2i =>
    simp only [z_vi, Bool.and_eq_true, Bool.or_eq_true, Bool.not_eq_true', beq_iff_eq, decide_eq_true_eq] at hv
    obtain ⟨rfl, rfl, rfl⟩ := hv
    exact zi_l2i C hd hs S kk
  | i2b =>
    simp only [z_vi, Bool.and_eq_true, Bool.or_eq_true, Bool.not_eq_true', beq_iff_eq, decide_eq_true_eq] at hv
    obtain ⟨rfl, rfl, rfl⟩ := hv
    exact zi_i2b C hd hs S kk
  | i2c =>
    simp only [z_vi, Bool.and_eq_true, Bool.or_eq_true, Bool.not_eq_true', beq_iff_eq, decide_eq_true_eq] at hv
    obtain ⟨rfl, rfl, rfl⟩ := hv
    exact zi_i2c C hd hs S kk
  | dup =>
    simp only [z_vi, Bool.and_eq_true, Bool.or_eq_true, Bool.not_eq_true', beq_iff_eq, decide_eq_true_eq] at hv
    obtain ⟨rfl, rfl, rfl⟩ := hv
    exact zi_dup C hd hs S kk
  | pop =>
    simp only [z_vi, Bool.and_eq_true, Bool.or_eq_true, Bool.not_eq_true', beq_iff_eq, decide_eq_true_eq] at hv
    obtain ⟨rfl, rfl, rfl⟩ := hv
    exact zi_pop C hd hs S kk
  | dup2 =>
    simp only [z_vi, Bool.and_eq_true, Bool.or_eq_true, Bool.not_eq_true', beq_iff_eq, decide_eq_true_eq] at hv
    obtain ⟨rfl, rfl, rfl⟩ := hv
    exact zi_dup2 C hd hs S kk
  | ifCond cd off =>
    simp only [z_vi, Bool.and_eq_true, beq_iff_eq] at hv
    obtain ⟨rfl, h1, rfl, rfl⟩ := hv
    cases cd with
    | eq => exact zi_ifeq C h1 hd hs S kk
    | ne => exact zi_ifne C h1 hd hs S kk
    | lt => exact zi_iflt C h1 hd hs S kk
    | ge => exact zi_ifge C h1 hd hs S kk
    | gt => exact zi_ifgt C h1 hd hs S kk
    | le => exact zi_ifle C h1 hd hs S kk
  | if_icmp cd off =>
    simp only [z_vi, Bool.and_eq_true, beq_iff_eq] at hv
    obtain ⟨rfl, h1, rfl, rfl⟩ := hv
    cases cd with
    | eq => exact zi_icmpeq C h1 hd hs S kk
    | ne => exact zi_icmpne C h1 hd hs S kk
    | lt => exact zi_icmplt C h1 hd hs S kk
    | ge => exact zi_icmpge C h1 hd hs S kk
    | gt => exact zi_icmpgt C h1 hd hs S kk
    | le => exact zi_icmple C h1 hd hs S kk
  | ifnonnull off =>
    simp only [z_vi, Bool.and_eq_true, Bool.or_eq_true, Bool.not_eq_true', beq_iff_eq, decide_eq_true_eq] at hv
    obtain ⟨rfl, h1, rfl, rfl⟩ := hv
    exact zi_ifnonnull C h1 hd hs S kk
  | goto off =>
    simp only [z_vi, Bool.and_eq_true, Bool.or_eq_true, Bool.not_eq_true', beq_iff_eq, decide_eq_true_eq] at hv
    obtain ⟨rfl, h1, rfl⟩ := hv
    exact zi_goto C h1 hd hs S kk
  | tableswitch d l0 hi offs =>
    simp only [z_vi, Bool.and_eq_true, beq_iff_eq, decide_eq_true_eq] at hv
    obtain ⟨rfl, rfl, h1, h2, h3⟩ := hv
    exact zi_tsw C h1 h2 hd hs S kk
  | getfield ix =>
    have hv : ((n == 3 && nx == pc + 3) && (((op == 55 && (decide (zTy a b.toNat = .int ∨ zTy a b.toNat = .boolean)) || op == 56 && z_isR (zTy a b.toNat)) && (decide (0 ≤ b ∧ b < (zfN a : Int) ∧ a < 13) && z_fl.any (fun q => q.1 == zown k && (q.2.1 == ix && (q.2.2.1 == a && ((q.2.2.2.1 : Nat) : Int) == b))))) || ((op == 82 && z_sf.any (fun q => q.1 == zown k && (q.2.1 == ix && q.2.2.1 == 0))) || (op == 83 && z_sf.any (fun q => q.1 == zown k && (q.2.1 == ix && q.2.2.1 == 1)))))) = true := hv
    rw [Bool.and_eq_true, Bool.and_eq_true, beq_iff_eq, beq_iff_eq, Bool.or_eq_true, Bool.or_eq_true] at hv
    obtain ⟨⟨rfl, rfl⟩, h1 | h1 | h1⟩ := hv
    · rw [Bool.and_eq_true, Bool.and_eq_true, Bool.or_eq_true, decide_eq_true_eq] at h1
      obtain ⟨h1 | h1, h2, h3⟩ := h1
      · rw [Bool.and_eq_true, beq_iff_eq, decide_eq_true_eq] at h1
        obtain ⟨rfl, h1⟩ := h1
        exact zi_geti C (zlk_f h3) h2 h1 hd hs S kk
      · rw [Bool.and_eq_true, beq_iff_eq] at h1
        obtain ⟨rfl, h1⟩ := h1
        exact zi_getr C (zlk_f h3) h2 h1 hd hs S kk
    · rw [Bool.and_eq_true, beq_iff_eq] at h1
      obtain ⟨rfl, h1⟩ := h1
      exact zi_strv C (zlk_sf h1) hd hs S kk
    · rw [Bool.and_eq_true, beq_iff_eq] at h1
      obtain ⟨rfl, h1⟩ := h1
      exact zi_strc C (zlk_sf h1) hd hs S kk
  | putfield ix =>
    have hv : ((n == 3 && nx == pc + 3) && ((op == 57 && decide (zTy a b.toNat = .int) || (op == 58 && decide (zTy a b.toNat = .boolean) || op == 59 && z_isR (zTy a b.toNat))) && (decide (0 ≤ b ∧ b < (zfN a : Int) ∧ a < 13) && (z_fl.any (fun q => q.1 == zown k && (q.2.1 == ix && (q.2.2.1 == a && ((q.2.2.2.1 : Nat) : Int) == b))) && (!(zTX a b.toNat).2.2.2 || (decide ((zy k).name = "<init>") && decide ((zTX a b.toNat).1 = zCn (zown k)))))))) = true := hv
    rw [Bool.and_eq_true, Bool.and_eq_true, beq_iff_eq, beq_iff_eq, Bool.and_eq_true, Bool.and_eq_true, Bool.and_eq_true, Bool.or_eq_true, Bool.or_eq_true, Bool.or_eq_true, decide_eq_true_eq] at hv
    obtain ⟨⟨rfl, rfl⟩, h1, h2, h3, h4⟩ := hv
    have h4 : (zTX a b.toNat).2.2.2 = false ∨ ((zy k).name = "<init>" ∧ (zTX a b.toNat).1 = zCn (zown k)) := by
      rcases h4 with h4 | h4
      · exact Or.inl (by simpa using h4)
      · exact Or.inr (by simpa using h4)
    rcases h1 with h1 | h1 | h1
    · rw [Bool.and_eq_true, beq_iff_eq, decide_eq_true_eq] at h1
      obtain ⟨rfl, h1⟩ := h1
      exact zi_puti C (zlk_f h3) h2 h4 h1 hd hs S kk
    · rw [Bool.and_eq_true, beq_iff_eq, decide_eq_true_eq] at h1
      obtain ⟨rfl, h1⟩ := h1
      exact zi_putz C (zlk_f h3) h2 h4 h1 hd hs S kk
    · rw [Bool.and_eq_true, beq_iff_eq] at h1
      obtain ⟨rfl, h1⟩ := h1
      exact zi_putr C (zlk_f h3) h2 h4 h1 hd hs S kk
  | getstatic ix =>
    have hv : ((n == 3 && nx == pc + 3) && ((op == 80 && (z_sf.any (fun q => q.1 == zown k && (q.2.1 == ix && q.2.2.1 == 2)))) || (op == 81 && z_sf.any (fun q => q.1 == zown k && (q.2.1 == ix && q.2.2.1 == 3))))) = true := hv
    rw [Bool.and_eq_true, Bool.and_eq_true, beq_iff_eq, beq_iff_eq, Bool.or_eq_true] at hv
    obtain ⟨⟨rfl, rfl⟩, h1 | h1⟩ := hv
    · rw [Bool.and_eq_true, beq_iff_eq] at h1
      obtain ⟨rfl, h1⟩ := h1
      exact zi_stc C (zlk_sf h1) hd hs S kk
    · rw [Bool.and_eq_true, beq_iff_eq] at h1
      obtain ⟨rfl, h1⟩ := h1
      exact zi_stf C (zlk_sf h1) hd hs S kk
  | iaload =>
    simp only [z_vi, Bool.and_eq_true, beq_iff_eq] at hv
    obtain ⟨rfl, rfl, rfl⟩ := hv
    simp only [z_step] at hs
    rcases zv_ild hs with ⟨i, j, s0, rfl, hi, rfl, rfl, rfl, rfl, rfl⟩ | h1
    · exact zi_sld C hd hi S kk
    · exact zi_iald C hd h1 S kk
  | laload =>
    simp only [z_vi, Bool.and_eq_true, beq_iff_eq] at hv
    obtain ⟨rfl, rfl, rfl⟩ := hv
    exact zi_lald C hd hs S kk
  | baload =>
    simp only [z_vi, Bool.and_eq_true, beq_iff_eq] at hv
    obtain ⟨rfl, rfl, rfl⟩ := hv
    simp only [z_step] at hs
    rcases zv_bld hs with ⟨i, j, s0, rfl, hj, hi, rfl, rfl, rfl, rfl, rfl⟩ | h1 | h1
    · exact zi_cld C hd hj hi S kk
    · exact zi_zald C hd h1 S kk
    · exact zi_bald C hd h1 S kk
  | aaload =>
    simp only [z_vi, Bool.and_eq_true, beq_iff_eq] at hv
    obtain ⟨rfl, rfl, rfl⟩ := hv
    exact zi_aald C hd hs S kk
  | iastore =>
    simp only [z_vi, Bool.and_eq_true, beq_iff_eq] at hv
    obtain ⟨rfl, rfl, rfl⟩ := hv
    exact zi_iast C hd hs S kk
  | lastore =>
    simp only [z_vi, Bool.and_eq_true, beq_iff_eq] at hv
    obtain ⟨rfl, rfl, rfl⟩ := hv
    exact zi_last C hd hs S kk
  | bastore =>
    simp only [z_vi, Bool.and_eq_true, beq_iff_eq] at hv
    obtain ⟨rfl, rfl, rfl⟩ := hv
    simp only [z_step] at hs
    rcases zv_bst hs with h1 | h1
    · exact zi_zast C hd h1 S kk
    · exact zi_bast C hd h1 S kk
  | aastore =>
    simp only [z_vi, Bool.and_eq_true, beq_iff_eq] at hv
    obtain ⟨rfl, rfl, rfl⟩ := hv
    exact zi_aast C hd hs S kk
  | arraylength =>
    simp only [z_vi, Bool.and_eq_true, beq_iff_eq] at hv
    obtain ⟨rfl, rfl, rfl⟩ := hv
    exact zi_alen C hd hs S kk
  | new ix =>
    have hv : (op == 69 && ((n == 3 && nx == pc + 3) && z_cl.any (fun q => q.1 == zown k && (q.2.1 == ix && q.2.2.1 == a)))) = true := hv
    rw [Bool.and_eq_true, Bool.and_eq_true, Bool.and_eq_true, beq_iff_eq, beq_iff_eq, beq_iff_eq] at hv
    obtain ⟨rfl, ⟨rfl, rfl⟩, h1⟩ := hv
    exact zi_new C (zlk_cl h1) hd hs hcc hss S kk
  | newarray t =>
    simp only [z_vi, Bool.and_eq_true, beq_iff_eq, decide_eq_true_eq] at hv
    obtain ⟨rfl, ⟨rfl, rfl⟩, h1, h2⟩ := hv
    exact zi_narr C h1 h2 hd hs hcc hss S kk
  | anewarray ix =>
    have hv : (op == 71 && ((n == 3 && nx == pc + 3) && z_cl.any (fun q => q.1 == zown k && (q.2.1 == ix && q.2.2.1 == 6)))) = true := hv
    rw [Bool.and_eq_true, Bool.and_eq_true, Bool.and_eq_true, beq_iff_eq, beq_iff_eq, beq_iff_eq] at hv
    obtain ⟨rfl, ⟨rfl, rfl⟩, h1⟩ := hv
    exact zi_anew C (zlk_cl h1) hd hs hcc hss S kk
  | ireturn =>
    simp only [z_vi, Bool.and_eq_true, beq_iff_eq] at hv
    obtain ⟨rfl, -⟩ := hv
    obtain ⟨_, _, _, h2⟩ := zv_ret (show zo_ret a st T V = _ from hs)
    cases h2
  | lreturn =>
    simp only [z_vi, Bool.and_eq_true, beq_iff_eq] at hv
    obtain ⟨rfl, -⟩ := hv
    obtain ⟨_, _, _, h2⟩ := zv_ret (show zo_ret a st T V = _ from hs)
    cases h2
  | areturn =>
    simp only [z_vi, Bool.and_eq_true, beq_iff_eq] at hv
    obtain ⟨rfl, -⟩ := hv
    obtain ⟨_, _, _, h2⟩ := zv_ret (show zo_ret a st T V = _ from hs)
    cases h2
  | return_ =>
    simp only [z_vi, Bool.and_eq_true, beq_iff_eq] at hv
    obtain ⟨rfl, -⟩ := hv
    simp only [z_step] at hs
    split at hs <;> cases hs
  | invokestatic ix =>
    have hv : ((n == 3 && nx == pc + 3) && ((op == 74 && (z_cal.any (fun q => q.1 == a && (q.2.1 == 0 && ((q.2.2.1 : Nat) : Int) == b)) && (z_ml.any (fun q => q.1 == zown k && (q.2.1 == ix && q.2.2.1 == a)) || z_mn.any (fun q => q.1 == zown k && (q.2.1 == ix && q.2.2.1 == a))))) || ((op == 79 && z_cp.any (fun q => q.1 == zown k && q.2.1 == ix)) || (decide (84 ≤ op ∧ op ≤ 86) && z_mm.any (fun q => q.1 == zown k && (q.2.1 == ix && q.2.2.1 == op)))))) = true := hv
    rw [Bool.and_eq_true, Bool.and_eq_true, beq_iff_eq, beq_iff_eq, Bool.or_eq_true, Bool.or_eq_true] at hv
    obtain ⟨⟨rfl, rfl⟩, h1 | h1 | h1⟩ := hv
    · rw [Bool.and_eq_true, beq_iff_eq] at h1
      obtain ⟨rfl, -⟩ := h1
      cases (zv_call (show zo_call (pc + 3) a b lo st T V = _ from hs)).2
    · rw [Bool.and_eq_true, beq_iff_eq] at h1
      obtain ⟨rfl, h1⟩ := h1
      exact zi_cpy C hlen (zlk_cp h1) hd hs hRm S kk
    · rw [Bool.and_eq_true, decide_eq_true_eq] at h1
      obtain ⟨h2, h1⟩ := h1
      have h3 : op = 84 ∨ op = 85 ∨ op = 86 := by omega
      rcases h3 with rfl | rfl | rfl
      · exact zi_mmax C hlen (zlk_mm h1) hd hs hRm hcs S kk
      · exact zi_mmin C hlen (zlk_mm h1) hd hs hRm hcs S kk
      · exact zi_mminl C hlen (zlk_mm h1) hd hs hRm hcs S kk
  | invokespecial ix =>
    have hv : ((n == 3 && nx == pc + 3) && ((op == 75 && (z_cal.any (fun q => q.1 == a && (q.2.1 == 1 && ((q.2.2.1 : Nat) : Int) + 1 == b)) && (z_ml.any (fun q => q.1 == zown k && (q.2.1 == ix && q.2.2.1 == a)) || z_mn.any (fun q => q.1 == zown k && (q.2.1 == ix && q.2.2.1 == a))))) || (op == 78 && z_oi.any (fun q => q.1 == zown k && q.2.1 == ix)))) = true := hv
    rw [Bool.and_eq_true, Bool.and_eq_true, beq_iff_eq, beq_iff_eq, Bool.or_eq_true] at hv
    obtain ⟨⟨rfl, rfl⟩, h1 | h1⟩ := hv
    · rw [Bool.and_eq_true, beq_iff_eq] at h1
      obtain ⟨rfl, -⟩ := h1
      cases (zv_call (zv_callI (show zo_callI (pc + 3) a b lo st T V = _ from hs)).2).2
    · rw [Bool.and_eq_true, beq_iff_eq] at h1
      obtain ⟨rfl, h1⟩ := h1
      exact zi_obj C hlen (zlk_oi h1) (zw_mem zobj_in) hd hs hRm S kk
  | invokevirtual ix =>
    have hv : ((n == 3 && nx == pc + 3) && (z_cal.any (fun q => q.1 == a && (q.2.1 == 2 && ((q.2.2.1 : Nat) : Int) + 1 == b)) && (z_ml.any (fun q => q.1 == zown k && (q.2.1 == ix && q.2.2.1 == a)) && ((op == 76 && (decide (ts = [zown a]) && decide (zown a < 13))) || (op == 77 && zown a == 16))))) = true := hv
    rw [Bool.and_eq_true, Bool.and_eq_true, Bool.and_eq_true, Bool.and_eq_true, Bool.or_eq_true, beq_iff_eq, beq_iff_eq] at hv
    obtain ⟨⟨rfl, rfl⟩, -, -, h1 | h1⟩ := hv
    · rw [Bool.and_eq_true, beq_iff_eq] at h1
      obtain ⟨rfl, -⟩ := h1
      cases (zv_call (zv_callV (show zo_callV (pc + 3) a b ts lo st T V = _ from hs)).2).2
    · rw [Bool.and_eq_true, beq_iff_eq] at h1
      obtain ⟨rfl, -⟩ := h1
      cases (zv_call (zv_callS (show zo_callS (pc + 3) a b lo st T V = _ from hs)).2).2
  | _ => exact absurd (show false = true from hv) (by decide)
end ZGO
