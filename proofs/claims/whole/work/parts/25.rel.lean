/-! the abstract heap and the machine's -/
/-- classes, slots, array classes, where new cells begin, the script (cell, length, ints), string constants and their bytes, the formatter -/
abbrev zEn : Type := (Nat → ClassId) × (Nat → Nat → Nat) × (Nat → ClassId) × Nat × (Nat × Nat × (Nat → Int32)) × (Nat → Nat) × (Nat → Nat) × Value
def eC (E : zEn) : Nat → ClassId := E.1
def eI (E : zEn) : Nat → Nat → Nat := E.2.1
def eA (E : zEn) : Nat → ClassId := E.2.2.1
def eZ (E : zEn) : Nat := E.2.2.2.1
def eB (E : zEn) : Nat := E.2.2.2.2.1.1
def eL (E : zEn) : Nat := E.2.2.2.2.1.2.1
def eX (E : zEn) : Nat → Int32 := E.2.2.2.2.1.2.2
def eK (E : zEn) : Nat → Nat := E.2.2.2.2.2.1
def eV (E : zEn) : Nat → Nat := E.2.2.2.2.2.2.1
def eF (E : zEn) : Value := E.2.2.2.2.2.2.2
def zA (E : zEn) : Nat → Prop := fun q => eZ E ≤ q
def zrr (E : zEn) (x : Int) : Value := if x < 0 then .null else .ref (eZ E + x.toNat)
def rv (E : zEn) (v : zV) : Value := match v.1 with
  | 0 => .int (Int32.ofInt v.2)
  | 1 => .long (Int64.ofInt v.2)
  | 2 => zrr E v.2
  | 3 => .ref (eK E v.2.toNat)
  | 4 => .ref (eB E)
  | 5 => .ref (eV E v.2.toNat)
  | 6 => eF E
  | _ => .null
def zVok (v : zV) : Prop := (v.1 = 0 → z32 v.2) ∧ (v.1 = 1 → z64 v.2)
def zaty (t : Nat) : FieldType := match t with
  | 0 => .int
  | 1 => .long
  | 2 => .byte
  | 3 => .boolean
  | _ => .object "TwoWayWall$State"
/-- what stands in an array of kind t -/
def zav (E : zEn) (t : Nat) (p v : Int) : Value := match t with
  | 1 => .long (Int64.ofInt v)
  | 4 => zrr E p
  | _ => .int (Int32.ofInt v)
def zrg (t : Nat) (v : Int) : Prop := match t with
  | 0 => z32 v
  | 1 => z64 v
  | 2 => -128 ≤ v ∧ v ≤ 127
  | 3 => 0 ≤ v ∧ v ≤ 1
  | _ => True
/-- what stands in field k of a class -/
def zfv (E : zEn) (ci k : Nat) (p v : Int → Int) : Value := if z_isR (zTy ci k) = true then zrr E (p (k : Int)) else .int (Int32.ofInt (v (k : Int)))
def zArr (E : zEn) (t : Nat) (n : Int) (p v : Int → Int) (o : Option Cell) : Prop := o = some (arrV (eA E t) n.toNat (fun j => zav E t (p (j : Int)) (v (j : Int)))) ∧ 0 ≤ n ∧ n ≤ 1000000 ∧ ∀ j : Nat, j < n.toNat → zrg t (v (j : Int))
def zObj (E : zEn) (ci : Nat) (p v : Int → Int) (o : Option Cell) : Prop := (∃ cell : Cell, o = some cell ∧ cell.cls = eC E ci ∧ cell.vm = .none ∧ ∀ k, k < zfN ci → cell.slots[eI E ci k]? = some (zfv E ci k p v)) ∧ ∀ k, k < zfN ci → z32 (v (k : Int))
def zCell (E : zEn) (c n : Int) (p v : Int → Int) (o : Option Cell) : Prop := (∀ t : Nat, t < 5 → c = (t : Int) → zArr E t n p v o) ∧ ∀ ci : Nat, ci < 13 → c = (ci : Int) + 10 → zObj E ci p v o
def zRel (E : zEn) (T : zT) (V : zM) (H : Heap) : Prop :=
  H.size = eZ E + T.1 ∧ (∀ k : Nat, k < T.1 → zCell E (zc T (k : Int)) (zl T (k : Int)) (zp T (k : Int)) (V (k : Int)) H[eZ E + k]?) ∧ (zl T (-2) = (eL E : Int) ∧ eL E ≤ 3072 ∧ ∀ j : Nat, j < eL E → V (-2) (j : Int) = (eX E j).toInt)
/-- the string constants -/
def zlens : List Nat := [4, 4, 4, 6, 4, 4, 3]
def zbyts : List (List Int32) := [[101, 97, 115, 116], [119, 101, 115, 116], [119, 111, 114, 100], [109, 105, 114, 114, 111, 114], [99, 111, 115, 116], [100, 114, 111, 112], [110, 111, 116]]
def ztx (i : Nat) : String := ["east", "west", "word", "mirror", "cost", "drop", "not"].getD i ""
def zKK (E : zEn) (U : State) : Prop :=
  (∀ ci : Nat, ci < 13 → u_Kn U (zCn ci) (zTX ci) (zfN ci) (eC E ci) (eI E ci)) ∧
  (∀ t : Nat, t < 5 → ArrOfT U (eA E t) (zaty t) ∧ va_RA U (eA E t) (zaty t)) ∧
  (∀ q ∈ z_mn, va_Nw (.methodLinkNest (zCn q.1) q.2.1 (zy q.2.2.1) "TwoWayWall") U) ∧
  (∀ q ∈ z_cs, vk_R (zCn q.1) q.2.1 (ztx q.2.2.1) (eK E q.2.2.1) U) ∧
  vk_S 7 zlens zbyts (eK E) (eV E) (zA E) U U.heap ∧
  (va_X (eB E) (eL E) (eX E) U U.heap ∧ eB E < eZ E) ∧
  (va_Z "java/lang/String" "COMPACT_STRINGS" "Z" (.int 1) (zA E) U U.heap ∧ va_Z "jdk/internal/util/Preconditions" "SIOOBE_FORMATTER" "Ljava/util/function/BiFunction;" (eF E) (zA E) U U.heap ∧ (eF E = .null ∨ ∃ a, eF E = .ref a)) ∧
  va_AO "TwoWayWall$State" U ∧ eZ E ≤ U.heap.size
theorem zKK.to {E : zEn} {s U : State} (h : zKK E s) (hW : s.WarmedH U.vm) (hh : ∀ q : Nat, q < s.heap.size → ¬ zA E q → U.heap[q]? = s.heap[q]?) (hz : s.heap.size ≤ U.heap.size) : zKK E U := by
  obtain ⟨h1, h2, h3, h4, h5, ⟨h6, h6b⟩, ⟨h7, h7b, h7c⟩, h8, h9⟩ := h
  have hv := hW.alike
  refine ⟨fun ci hc => u_Kn_moved hv (h1 ci hc), fun t ht => ⟨arrOfT_moved hv (h2 t ht).1, (h2 t ht).2.moved hv⟩, fun q hq => va_Nw.warmM hW (h3 q hq), fun q hq => vk_R.warm hW (h4 q hq), (vk_S.moved hv h5).kept hh, ⟨?_, h6b⟩, ⟨(va_Z.moved hv h7).kept hh, (va_Z.moved hv h7b).kept hh, h7c⟩, ?_, Nat.le_trans h9 hz⟩
  · have hX := va_X.moved hv h6
    exact hX.kept (hh _ (by omega) (by show ¬ eZ E ≤ _; omega))
  · exact va_AO.moved hv h8
theorem zKK.same {E : zEn} {s U : State} (h : zKK E s) (hv : U.vm = s.vm) (hh : U.heap = s.heap) : zKK E U := by
  obtain ⟨h1, h2, h3, h4, h5, ⟨h6, h6b⟩, ⟨h7, h7b, h7c⟩, h8, h9⟩ := h
  have ha : s.vm.Alike U.vm := by rw [hv]; exact Vm.Alike.refl _
  have hk : ∀ a : Nat, a < s.heap.size → ¬ zA E a → U.heap[a]? = s.heap[a]? := fun a _ _ => by rw [hh]
  exact ⟨fun ci hc => u_Kn_moved ha (h1 ci hc), fun t ht => ⟨arrOfT_moved ha (h2 t ht).1, (h2 t ht).2.moved ha⟩, fun q hq => va_Nw.same rfl hv.symm (h3 q hq), fun q hq => vk_R.same hv (h4 q hq), (vk_S.moved ha h5).kept hk, ⟨(va_X.moved ha h6).kept (by rw [hh]), h6b⟩, ⟨(va_Z.moved ha h7).kept hk, (va_Z.moved ha h7b).kept hk, h7c⟩, va_AO.moved ha h8, by rw [hh]; exact h9⟩
theorem zCell.row {E : zEn} {c n : Int} {p v : Int → Int} {o o' : Option Cell} (h : zCell E c n p v o) (e : o' = o) : zCell E c n p v o' := e ▸ h
theorem zs_at (V : zM) (a : Int) (f : Int → Int) : zs V a f a = f := by simp [zs]
theorem zs_ne (V : zM) {a b : Int} (f : Int → Int) (h : b ≠ a) : zs V a f b = V b := by simp [zs, h]
theorem zu_at (f : Int → Int) (i v : Int) : zu f i v i = v := by simp [zu]
theorem zu_ne (f : Int → Int) {i j : Int} (v : Int) (h : j ≠ i) : zu f i v j = f j := by simp [zu, h]
/-- a row of numbers has changed -/
theorem zRel.setV {E : zEn} {T : zT} {V : zM} {H H' : Heap} (h : zRel E T V H) {x : Int} (h0 : 0 ≤ x) (h1 : x < zsz T) {f : Int → Int} (hz : H'.size = H.size) (ho : ∀ q : Nat, q ≠ eZ E + x.toNat → H'[q]? = H[q]?) (hc : zCell E (zc T x) (zl T x) (zp T x) f H'[eZ E + x.toNat]?) : zRel E T (zs V x f) H' := by
  obtain ⟨a1, a2, a3, a4, a5⟩ := h
  refine ⟨by rw [hz]; exact a1, fun k hk => ?_, a3, a4, fun j hj => ?_⟩
  · by_cases e : (k : Int) = x
    · subst e
      rw [zs_at]
      simpa using hc
    · rw [zs_ne _ _ e]
      exact (a2 k hk).row (ho _ (by omega))
  · rw [zs_ne _ _ (by omega)]
    exact a5 j hj
theorem zRel.setP {E : zEn} {T : zT} {V : zM} {H H' : Heap} (h : zRel E T V H) {x : Int} (h0 : 0 ≤ x) (h1 : x < zsz T) {f : Int → Int} (hz : H'.size = H.size) (ho : ∀ q : Nat, q ≠ eZ E + x.toNat → H'[q]? = H[q]?) (hc : zCell E (zc T x) (zl T x) f (V x) H'[eZ E + x.toNat]?) : zRel E (zq T x f) V H' := by
  obtain ⟨a1, a2, a3, a4, a5⟩ := h
  refine ⟨by rw [hz]; exact a1, fun k hk => ?_, a3, a4, a5⟩
  show zCell E (zc T (k : Int)) (zl T (k : Int)) (zs T.2.2.2.2 x f (k : Int)) (V (k : Int)) _
  by_cases e : (k : Int) = x
  · subst e
    rw [zs_at]
    simpa using hc
  · rw [zs_ne _ _ e]
    exact (a2 k hk).row (ho _ (by omega))
theorem zRel.push {E : zEn} {T : zT} {V : zM} {H H' : Heap} (h : zRel E T V H) {c n : Int} (hz : H'.size = H.size + 1) (ho : ∀ q : Nat, q < H.size → H'[q]? = H[q]?) (hc : zCell E c n (fun _ => -1) (fun _ => 0) H'[H.size]?) : zRel E (zn T c n) (zs V (zsz T) (fun _ => 0)) H' := by
  obtain ⟨a1, a2, a3, a4, a5⟩ := h
  refine ⟨by rw [hz, a1]; show _ = eZ E + (T.1 + 1); omega, fun k hk => ?_, ?_, a4, fun j hj => ?_⟩
  · have hk : k < T.1 + 1 := hk
    show zCell E (zu T.2.2.1 (T.1 : Int) c (k : Int)) (zu T.2.2.2.1 (T.1 : Int) n (k : Int)) (zs T.2.2.2.2 (T.1 : Int) (fun _ => -1) (k : Int)) (zs V (T.1 : Int) (fun _ => 0) (k : Int)) _
    by_cases e : k = T.1
    · subst e
      rw [zu_at, zu_at, zs_at, zs_at]
      rw [a1] at hc
      exact hc
    · rw [zu_ne _ _ (by omega), zu_ne _ _ (by omega), zs_ne _ _ (by omega), zs_ne _ _ (by omega)]
      exact (a2 k (by omega)).row (ho _ (by omega))
  · show zu T.2.2.2.1 (T.1 : Int) n (-2) = _
    rw [zu_ne _ _ (by omega)]
    exact a3
  · rw [zs_ne _ _ (by show (-2 : Int) ≠ (T.1 : Int); omega)]
    exact a5 j hj
theorem zRel.cell {E : zEn} {T : zT} {V : zM} {H : Heap} (h : zRel E T V H) {x : Int} (h0 : 0 ≤ x) (h1 : x < zsz T) : zCell E (zc T x) (zl T x) (zp T x) (V x) H[eZ E + x.toNat]? := by
  have h2 := h.2.1 x.toNat (by have : x < (T.1 : Int) := h1; omega)
  rwa [Int.toNat_of_nonneg h0] at h2
theorem zrr_pos {E : zEn} {x : Int} (h : 0 ≤ x) : zrr E x = .ref (eZ E + x.toNat) := by rw [zrr, if_neg (by omega)]
/-- the locals -/
def zLoc (E : zEn) (ls : Array Slot) (l : List zV) : Prop := ls.size = l.length ∧ lv_wf ls ∧ ∀ (i : Nat) (v : zV), l[i]? = some v → v.1 ≠ 9 → ls[i]? = some (.val (rv E v))
def zoks (l : List zV) : Prop := ∀ v ∈ l, zVok v
