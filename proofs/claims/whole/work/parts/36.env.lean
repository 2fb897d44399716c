/-! the start: what the Statement gives is what AM needs -/
def ztm (i : Nat) : Term := Term.string "TwoWayWall$TableReader" ([47, 62, 66, 71, 76, 81, 93].getD i 0)
def zFl : List Jvm.Cond := flatC (Jvm.Cond.and given_1 narrow_1)
theorem zf_ex : ∀ i, i < 7 → Jvm.Cond.exactly (ztm i) "java/lang/String" ∈ zFl := by decide +kernel
theorem zf_co : ∀ i, i < 7 → Jvm.Cond.eq (.field (ztm i) "java/lang/String" "coder" "B") (.int 0) ∈ zFl := by decide +kernel
theorem zf_ar : ∀ i, i < 7 → Jvm.Cond.arrayOf (.field (ztm i) "java/lang/String" "value" "[B") .byte ∈ zFl := by decide +kernel
theorem zf_le : ∀ i, i < 7 → Jvm.Cond.eq (.length (.field (ztm i) "java/lang/String" "value" "[B")) (.int (Int32.ofNat (zlens.getD i 0))) ∈ zFl := by decide +kernel
theorem zf_el : ∀ i, i < 7 → ∀ j, j < zlens.getD i 0 → Jvm.Cond.eq (.elem (.field (ztm i) "java/lang/String" "value" "[B") (.int (Int32.ofNat j))) (.int ((zbyts.getD i []).getD j 0)) ∈ zFl := by decide +kernel
theorem zf_ne : ∀ i, i < 7 → ∀ j, j < 7 → i ≠ j → (Jvm.Cond.not (Jvm.Cond.eq (ztm i) (ztm j)) ∈ zFl ∨ Jvm.Cond.not (Jvm.Cond.eq (ztm j) (ztm i)) ∈ zFl) := by decide +kernel
theorem zf_cs : Jvm.Cond.eq (.static "java/lang/String" "COMPACT_STRINGS" "Z") (.int 1) ∈ zFl := by decide +kernel
theorem zf_fm : Jvm.Cond.isRef (.static "jdk/internal/util/Preconditions" "SIOOBE_FORMATTER" "Ljava/util/function/BiFunction;") ∈ zFl := by decide +kernel
theorem zcs_ix : ∀ q ∈ z_cs, q.1 = 7 ∧ q.2.2.1 < 7 ∧ q.2.1 = [47, 62, 66, 71, 76, 81, 93].getD q.2.2.1 0 ∧ lw_tbl[q.2.2.2]? = some (.stringRef (zCn q.1) q.2.1 (ztx q.2.2.1)) := by decide +kernel
theorem zst_in : Jvm.Cond.laysStatic "java/lang/String" "COMPACT_STRINGS" "Z" ∈ lw_tbl ∧ Jvm.Cond.laysStatic "jdk/internal/util/Preconditions" "SIOOBE_FORMATTER" "Ljava/util/function/BiFunction;" ∈ lw_tbl ∧ Jvm.Cond.initialized "java/lang/String" ∈ lw_tbl ∧ Jvm.Cond.initialized "jdk/internal/util/Preconditions" ∈ lw_tbl := ⟨List.mem_of_getElem? (i := 676) (by decide +kernel), List.mem_of_getElem? (i := 692) (by decide +kernel), by decide +kernel, by decide +kernel⟩
theorem zar_in : Jvm.Cond.arrayClass .int ∈ lw_tbl ∧ Jvm.Cond.arrayClass .long ∈ lw_tbl ∧ Jvm.Cond.arrayClass .byte ∈ lw_tbl ∧ Jvm.Cond.arrayClass .boolean ∈ lw_tbl ∧ Jvm.Cond.arrayOver (.object "TwoWayWall$State") ∈ lw_tbl := ⟨List.mem_of_getElem? (i := 174) (by decide +kernel), List.mem_of_getElem? (i := 463) (by decide +kernel), List.mem_of_getElem? (i := 770) (by decide +kernel), List.mem_of_getElem? (i := 417) (by decide +kernel), List.mem_of_getElem? (i := 242) (by decide +kernel)⟩
theorem zin_in : ∀ ci, ci < 13 → z_ins.any (fun q => q.1 == ci) = true := by decide +kernel
theorem z_env {s : State} {b L : Nat} {xs : Nat → Int32} (hts : ∀ w ∈ lw_tbl, w.before #[Value.ref b] s = true) (hX : va_X b L xs s s.heap) (hbl : b < s.heap.size) (hgv : (Jvm.Cond.and given_1 narrow_1).before #[Value.ref b] s = true) : ∃ E : zEn, eZ E = s.heap.size ∧ eB E = b ∧ eL E = L ∧ eX E = xs ∧ zKK E s := by
  have hfl := flat_of_before _ hgv
  have hA : ∀ a : Nat, a < s.heap.size → ¬ (fun q : Nat => s.heap.size ≤ q) a := fun a h => by show ¬ _ ≤ _; omega
  -- classes
  have hcl : ∀ ci : Nat, ∃ q : ClassId × (Nat → Nat), ci < 13 → u_Kn s (zCn ci) (zTX ci) (zfN ci) q.1 q.2 := by
    intro ci
    by_cases h : ci < 13
    · obtain ⟨q, hq, h2⟩ := List.any_eq_true.mp (zin_in ci h)
      have h3 := List.all_eq_true.mp zins_ok q hq
      rw [Bool.and_eq_true] at h3
      have h4 := zw_mem h3.1
      rw [beq_iff_eq.mp h2] at h4
      have hts2 : ∀ w ∈ zWS, w.before #[Value.ref b] s = true := fun w hw => hts w (List.mem_filter.mp hw).1
      obtain ⟨cC, iS, hK⟩ := u_known (ws := zWS) hts2 (zuws h) (hts2 _ h4)
      exact ⟨(cC, iS), fun _ => hK⟩
    · exact ⟨(0, fun _ => 0), fun h1 => absurd h1 h⟩
  obtain ⟨dd, hdd⟩ := Classical.axiomOfChoice hcl
  -- arrays
  have har : ∀ t : Nat, ∃ cA : ClassId, t < 5 → ArrOfT s cA (zaty t) ∧ va_RA s cA (zaty t) := by
    have one : ∀ ty : FieldType, Jvm.Cond.arrayClass ty ∈ lw_tbl → (∀ C, ty ≠ .object C) → ∃ cA : ClassId, ArrOfT s cA ty ∧ va_RA s cA ty := by
      intro ty h hne
      obtain ⟨c, k, comp, h1, h2, h3⟩ := Cond.arrayClass_spec (hts _ h)
      refine ⟨c, fun n z => ⟨fun k h => (by cases h), k, h2, comp, h3⟩, ?_⟩
      cases ty <;> first | exact h1 | exact absurd rfl (hne _)
    intro t
    match t with
    | 0 => obtain ⟨c, h⟩ := one .int zar_in.1 (fun _ => by simp); exact ⟨c, fun _ => h⟩
    | 1 => obtain ⟨c, h⟩ := one .long zar_in.2.1 (fun _ => by simp); exact ⟨c, fun _ => h⟩
    | 2 => obtain ⟨c, h⟩ := one .byte zar_in.2.2.1 (fun _ => by simp); exact ⟨c, fun _ => h⟩
    | 3 => obtain ⟨c, h⟩ := one .boolean zar_in.2.2.2.1 (fun _ => by simp); exact ⟨c, fun _ => h⟩
    | 4 =>
      obtain ⟨comp, c, k, h1, -, h2, h3, h4⟩ := Cond.arrayOver_spec (hts _ zar_in.2.2.2.2)
      exact ⟨c, fun _ => ⟨fun n z => ⟨fun k h => (by cases h), k, h2, comp, h3⟩, k, comp, h2, h3, h1, h4⟩⟩
    | t + 5 => exact ⟨0, fun h => by omega⟩
  obtain ⟨kA, hkA⟩ := Classical.axiomOfChoice har
  -- strings
  obtain ⟨adK, adV, hS, hev⟩ := vk_Sof (N := 7) (tm := ztm) (len := zlens) (byt := zbyts) (A := fun q : Nat => s.heap.size ≤ q) (fun i hi => by
      have h : ∀ i, i < 7 → zlens.getD i 0 < 2 ^ 31 := by decide
      exact h i hi) (fun i hi => hfl _ (zf_ex i hi)) (fun i hi => hfl _ (zf_co i hi)) (fun i hi => hfl _ (zf_ar i hi)) (fun i hi => hfl _ (zf_le i hi)) (fun i hi j hj => hfl _ (zf_el i hi j hj)) (fun i j hi hj hne => by
      rcases zf_ne i hi j hj hne with h | h
      · exact Or.inl (hfl _ h)
      · exact Or.inr (hfl _ h)) hA
  -- statics
  have hZ1 : va_Z "java/lang/String" "COMPACT_STRINGS" "Z" (.int 1) (fun q : Nat => s.heap.size ≤ q) s s.heap := va_Zof (hts _ zst_in.1) (hts _ zst_in.2.2.1) (va_eqt (hfl _ zf_cs)) hA
  have hZ2 : va_Zq "jdk/internal/util/Preconditions" "SIOOBE_FORMATTER" "Ljava/util/function/BiFunction;" (fun q : Nat => s.heap.size ≤ q) s s.heap := va_Zqof (hts _ zst_in.2.1) (hts _ zst_in.2.2.2) (hfl _ zf_fm) hA
  obtain ⟨fm, hfm, hfv⟩ : ∃ fm : Value, va_Z "jdk/internal/util/Preconditions" "SIOOBE_FORMATTER" "Ljava/util/function/BiFunction;" fm (fun q : Nat => s.heap.size ≤ q) s s.heap ∧ (fm = .null ∨ ∃ a, fm = .ref a) := by
    rcases hZ2 with h | ⟨t, h⟩
    · exact ⟨_, h, Or.inl rfl⟩
    · exact ⟨_, h, Or.inr ⟨t, rfl⟩⟩
  refine ⟨(fun ci => (dd ci).1, fun ci => (dd ci).2, kA, s.heap.size, (b, L, xs), adK, adV, fm), rfl, rfl, rfl, rfl, fun ci hci => hdd ci hci, fun t ht => hkA t ht, fun q hq => ?_, fun q hq => ?_, hS, ⟨hX, hbl⟩, ⟨hZ1, hfm, hfv⟩, va_AO.of (hts _ zar_in.2.2.2.2), Nat.le_refl _⟩
  · have h1 := of_decide_eq_true (List.all_eq_true.mp zmn_ok q hq)
    exact va_Nw.of rfl (hts _ (List.mem_of_getElem? h1))
  · obtain ⟨h1, h2, h3, h4⟩ := zcs_ix q hq
    refine vk_R.of (A := #[Value.ref b]) (hts _ (List.mem_of_getElem? h4)) ?_
    have h5 := hev q.2.2.1 h2
    rw [h1, h3]
    exact h5
def zT0 (L : Nat) : zT := (0, 0, fun _ => -1, fun a => if a = -2 then (L : Int) else 0, fun _ _ => -1)
def zV0 (xs : Nat → Int32) : zM := fun a j => if a = -2 then (xs j.toNat).toInt else 0
/-- the pure half: the law, as AM runs it, answers 1 and keeps to the room -/
def zLaw : Prop := ∀ (L : Nat) (xs : Nat → Int32), L ≤ 3072 → ∃ (n : Nat) (T' : zT) (V' : zM), am n 0 0 [(4, 0), (9, 0), (9, 0), (9, 0)] [] (zT0 L) (zV0 xs) = some ((0, 1), T', V') ∧ T'.1 ≤ 600000 ∧ T'.2.1 ≤ 7302250
