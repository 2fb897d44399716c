/-! each instruction of AM is what the machine does -/
def zCX (p : Program) (s : State) (m : MethodId) (args : Array Value) (meth : Method) (c : Code) (E : zEn) (k : Nat) : Prop :=
  p.tables.exec = Jvm.exec ∧ c.code = zby k ∧ c.maxLocals = zmL k ∧ s.vm.findClass (zCn (zown k)) = some m.cls ∧ (∀ w ∈ zWS, w.before args s = true) ∧ zKK E s ∧ ((zy k).name = "<init>" → meth.name = "<init>")
def zSt (E : zEn) (s : State) (T : zT) (V : zM) (H : Heap) (locs : List Loc) (ls : Array Slot) (lo st : List zV) : Prop := zRel E T V H ∧ va_S (zA E) s.heap H locs ∧ zLoc E ls lo ∧ zoks lo ∧ zoks st
def zK (p : Program) (l : Launch) (e : Env) (R : Room) (s : State) (m : MethodId) (args : Array Value) (below : List Frame) (meth : Method) (c : Code) (Q : State → Prop) (E : zEn) (pc' : Nat) (lo' st' : List zV) (T T' : zT) (V' : zM) (cells slots : Nat) : Prop :=
  ∀ (H' : Heap) (locs' : List Loc) (ls' : Array Slot) (cells' slots' : Nat), cells' + T.1 = cells + T'.1 → slots' + T.2.1 = slots + T'.2.1 → zSt E s T' V' H' locs' ls' lo' st' → W p l e R s m args below meth c H' locs' cells' slots' Q (F0 m pc' ls' (st'.map (rv E)))
theorem zoks.cons {v : zV} {st : List zV} (hv : zVok v) (h : zoks st) : zoks (v :: st) := fun w hw => by
  rcases List.mem_cons.mp hw with rfl | h1
  · exact hv
  · exact h w h1
theorem zoks.tl {v : zV} {st : List zV} (h : zoks (v :: st)) : zoks st := fun w hw => h w (List.mem_cons_of_mem _ hw)
theorem zoks.hd {v : zV} {st : List zV} (h : zoks (v :: st)) : zVok v := h v List.mem_cons_self
theorem zok0 {x : Int} (h : z32 x) : zVok (0, x) := ⟨fun _ => h, fun h => absurd h (show ¬ (0 : Nat) = 1 by decide)⟩
theorem zok1 {x : Int} (h : z64 x) : zVok (1, x) := ⟨fun h => absurd h (show ¬ (1 : Nat) = 0 by decide), fun _ => h⟩
theorem zokr {t : Nat} {x : Int} (h : 2 ≤ t) : zVok (t, x) := ⟨fun h1 => by have h1 : t = 0 := h1; omega, fun h1 => by have h1 : t = 1 := h1; omega⟩
theorem zoks.set {v : zV} {lo : List zV} (h : zoks lo) (hv : zVok v) (a : Nat) : zoks (lo.set a v) := fun w hw => by
  rcases List.mem_or_eq_of_mem_set hw with h1 | rfl
  · exact h w h1
  · exact hv
theorem zoks.at {v : zV} {lo : List zV} {a : Nat} (h : zoks lo) (hv : lo[a]? = some v) : zVok v := h v (List.mem_of_getElem? hv)
theorem zrv_ref {E : zEn} (hF : eF E = .null ∨ ∃ a, eF E = .ref a) {v : zV} (h : 2 ≤ v.1 ∧ v.1 ≤ 6) : rv E v = .null ∨ ∃ a, rv E v = .ref a := by
  obtain ⟨t, x⟩ := v
  obtain ⟨h1, h2⟩ := h
  have h1 : 2 ≤ t := h1
  have h2 : t ≤ 6 := h2
  match t, h1, h2 with
  | 2, _, _ =>
    show zrr E x = _ ∨ _
    unfold zrr
    split
    · exact Or.inl rfl
    · exact Or.inr ⟨_, by show zrr E x = _; unfold zrr; rw [if_neg (by assumption)]⟩
  | 3, _, _ => exact Or.inr ⟨_, rfl⟩
  | 4, _, _ => exact Or.inr ⟨_, rfl⟩
  | 5, _, _ => exact Or.inr ⟨_, rfl⟩
  | 6, _, _ => exact hF
theorem zrv_cat {E : zEn} (hF : eF E = .null ∨ ∃ a, eF E = .ref a) (v : zV) : (rv E v).category = if v.1 = 1 then 2 else 1 := by
  obtain ⟨t, x⟩ := v
  match t with
  | 0 => rfl
  | 1 => rfl
  | 2 =>
    show (zrr E x).category = 1
    unfold zrr
    split <;> rfl
  | 3 => rfl
  | 4 => rfl
  | 5 => rfl
  | 6 =>
    show (eF E).category = 1
    rcases hF with h | ⟨a, h⟩ <;> rw [h] <;> rfl
  | t + 7 =>
    show (Value.null).category = if t + 7 = 1 then 2 else 1
    rw [if_neg (by omega)]; rfl
theorem zrv_cats {E : zEn} (hF : eF E = .null ∨ ∃ a, eF E = .ref a) (st : List zV) : ((st.map (rv E)).map fun v => v.category).sum = zcat st := by
  induction st with
  | nil => rfl
  | cons v st ih =>
    show (rv E v).category + ((st.map (rv E)).map fun v => v.category).sum = (if v.1 = 1 then 2 else 1) + zcat st
    rw [ih, zrv_cat hF]
def zlvs (E : zEn) (lo : List zV) : List (Nat × Value) := (lo.zipIdx.filter (fun q => q.1.1 != 9)).map (fun q => (q.2, rv E q.1))
theorem zlvs_mem {E : zEn} {lo : List zV} {i : Nat} {w : Value} : (i, w) ∈ zlvs E lo ↔ ∃ v : zV, lo[i]? = some v ∧ v.1 ≠ 9 ∧ rv E v = w := by
  simp only [zlvs, List.mem_map, List.mem_filter, Prod.mk.injEq, bne_iff_ne, ne_eq]
  constructor
  · rintro ⟨⟨v, j⟩, ⟨h1, h2⟩, h3, h4⟩
    refine ⟨v, ?_, h2, h4⟩
    have h5 := List.mk_mem_zipIdx_iff_getElem?.mp h1
    have h3 : j = i := h3
    rw [← h3]; exact h5
  · rintro ⟨v, h1, h2, h3⟩
    exact ⟨(v, i), ⟨List.mk_mem_zipIdx_iff_getElem?.mpr h1, h2⟩, rfl, h3⟩
theorem zLoc.has {E : zEn} {ls : Array Slot} {lo : List zV} (h : zLoc E ls lo) : lv_has ls lo.length (zlvs E lo) := by
  refine ⟨h.1, h.2.1, ?_⟩
  rintro ⟨i, w⟩ hq
  obtain ⟨v, h1, h2, h3⟩ := zlvs_mem.mp hq
  rw [← h3]
  exact h.2.2 i v h1 h2
theorem zLoc.st1 {E : zEn} (hF : eF E = .null ∨ ∃ a, eF E = .ref a) {ls' : Array Slot} {lo : List zV} {a : Nat} {v : zV} (hl : lv_has ls' lo.length ((a, rv E v) :: (zlvs E lo).filter (fun q => !(q.1 == a) && !(q.1 + 1 == a && q.2.category == 2)))) (hf : a = 0 ∨ (lo.getD (a - 1) (9, 0)).1 ≠ 1) : zLoc E ls' (lo.set a v) := by
  refine ⟨by rw [List.length_set]; exact hl.1, hl.2.1, fun i w hi hw => ?_⟩
  rw [List.getElem?_set] at hi
  by_cases e : a = i
  · subst e
    rw [if_pos rfl] at hi
    split at hi
    · cases hi
      exact hl.2.2 _ List.mem_cons_self
    · cases hi
  · rw [if_neg e] at hi
    refine hl.2.2 (i, rv E w) (List.mem_cons_of_mem _ (List.mem_filter.mpr ⟨zlvs_mem.mpr ⟨w, hi, hw, rfl⟩, ?_⟩))
    have hc := zrv_cat hF w
    simp only [Bool.and_eq_true, Bool.not_eq_true', beq_eq_false_iff_ne, ne_eq, Bool.and_eq_false_iff]
    refine ⟨fun h => e h.symm, ?_⟩
    by_cases e2 : i + 1 = a
    · right
      rw [hc, if_neg]
      · decide
      · intro h1
        rcases hf with h | h
        · omega
        · apply h
          rw [List.getD_eq_getElem?_getD, show a - 1 = i by omega, hi]
          exact h1
    · exact Or.inl e2
theorem zLoc.st2 {E : zEn} (hF : eF E = .null ∨ ∃ a, eF E = .ref a) {ls' : Array Slot} {lo : List zV} {a : Nat} {v : zV} (hl : lv_has ls' lo.length ((a, rv E v) :: (zlvs E lo).filter (fun q => !(q.1 == a) && (!(q.1 == a + 1) && !(q.1 + 1 == a && q.2.category == 2))))) (hf : a = 0 ∨ (lo.getD (a - 1) (9, 0)).1 ≠ 1) : zLoc E ls' ((lo.set a v).set (a + 1) (9, 0)) := by
  refine ⟨by rw [List.length_set, List.length_set]; exact hl.1, hl.2.1, fun i w hi hw => ?_⟩
  rw [List.getElem?_set] at hi
  by_cases e1 : a + 1 = i
  · rw [if_pos e1] at hi
    split at hi
    · cases hi; exact absurd rfl hw
    · cases hi
  rw [if_neg e1, List.getElem?_set] at hi
  by_cases e : a = i
  · subst e
    rw [if_pos rfl] at hi
    split at hi
    · cases hi
      exact hl.2.2 _ List.mem_cons_self
    · cases hi
  · rw [if_neg e] at hi
    refine hl.2.2 (i, rv E w) (List.mem_cons_of_mem _ (List.mem_filter.mpr ⟨zlvs_mem.mpr ⟨w, hi, hw, rfl⟩, ?_⟩))
    have hc := zrv_cat hF w
    simp only [Bool.and_eq_true, Bool.not_eq_true', beq_eq_false_iff_ne, ne_eq, Bool.and_eq_false_iff]
    refine ⟨fun h => e h.symm, fun h => e1 h.symm, ?_⟩
    by_cases e2 : i + 1 = a
    · right
      rw [hc, if_neg]
      · decide
      · intro h1
        rcases hf with h | h
        · omega
        · apply h
          rw [List.getD_eq_getElem?_getD, show a - 1 = i by omega, hi]
          exact h1
    · exact Or.inl e2
theorem zbi {b : Int} (h : -128 ≤ b ∧ b ≤ 127) : (Int8.ofInt b).toInt32 = Int32.ofInt b := by
  apply Int32.toInt_inj.mp
  rw [Int8.toInt_toInt32, Int8.toInt_ofInt_of_le (by omega) (by omega), zt32 ⟨by omega, by omega⟩]
theorem zsi {b : Int} (h : -32768 ≤ b ∧ b ≤ 32767) : (Int16.ofInt b).toInt32 = Int32.ofInt b := by
  apply Int32.toInt_inj.mp
  rw [Int16.toInt_toInt32, Int16.toInt_ofInt_of_le (by omega) (by omega), zt32 ⟨by omega, by omega⟩]
section ZSND
variable {p : Program} {l : Launch} {e : Env} {R : Room} {s : State} {m : MethodId} {args : Array Value} {below : List Frame} {meth : Method} {c : Code} {H : Heap} {locs : List Loc} {cells slots : Nat} {Q : State → Prop} {E : zEn} {k pc pc' a : Nat} {b : Int} {ts : List Nat} {ls : Array Slot} {lo st lo' st' : List zV} {T T' : zT} {V V' : zM}
theorem zi_iadd (C : zCX p s m args meth c E k) (hd : decode (zby k) pc = .ok (.iadd, 1)) (hs : z_step (11, pc + 1, a, b, ts) lo st T V = some (.inl (pc', lo', st', T', V'))) (S : zSt E s T V H locs ls lo st) (kk : zK p l e R s m args below meth c Q E pc' lo' st' T T' V' cells slots) : W p l e R s m args below meth c H locs cells slots Q (F0 m pc ls (st.map (rv E))) := by
  obtain ⟨hx, hb, hml, hown, hts, hKK, hini⟩ := C
  obtain ⟨hR, hV, hL, ho, hk⟩ := S
  have hF := hKK.2.2.2.2.2.2.1.2.2
  simp only [z_step] at hs
  obtain ⟨x, y, s0, rfl, hg, rfl, rfl, rfl, rfl, rfl⟩ := zv_bin hs
  have hy := hk.hd.1 rfl
  have hxx := hk.tl.hd.1 rfl
  refine lv_iadd hx hb hd ?_
  rw [zadd32]
  exact kk _ _ _ _ _ rfl rfl ⟨hR, hV, hL, ho, hk.tl.tl.cons (zok0 (hg))⟩
theorem zi_isub (C : zCX p s m args meth c E k) (hd : decode (zby k) pc = .ok (.isub, 1)) (hs : z_step (12, pc + 1, a, b, ts) lo st T V = some (.inl (pc', lo', st', T', V'))) (S : zSt E s T V H locs ls lo st) (kk : zK p l e R s m args below meth c Q E pc' lo' st' T T' V' cells slots) : W p l e R s m args below meth c H locs cells slots Q (F0 m pc ls (st.map (rv E))) := by
  obtain ⟨hx, hb, hml, hown, hts, hKK, hini⟩ := C
  obtain ⟨hR, hV, hL, ho, hk⟩ := S
  have hF := hKK.2.2.2.2.2.2.1.2.2
  simp only [z_step] at hs
  obtain ⟨x, y, s0, rfl, hg, rfl, rfl, rfl, rfl, rfl⟩ := zv_bin hs
  have hy := hk.hd.1 rfl
  have hxx := hk.tl.hd.1 rfl
  refine lv_isub hx hb hd ?_
  rw [zsub32]
  exact kk _ _ _ _ _ rfl rfl ⟨hR, hV, hL, ho, hk.tl.tl.cons (zok0 (hg))⟩
theorem zi_imul (C : zCX p s m args meth c E k) (hd : decode (zby k) pc = .ok (.imul, 1)) (hs : z_step (13, pc + 1, a, b, ts) lo st T V = some (.inl (pc', lo', st', T', V'))) (S : zSt E s T V H locs ls lo st) (kk : zK p l e R s m args below meth c Q E pc' lo' st' T T' V' cells slots) : W p l e R s m args below meth c H locs cells slots Q (F0 m pc ls (st.map (rv E))) := by
  obtain ⟨hx, hb, hml, hown, hts, hKK, hini⟩ := C
  obtain ⟨hR, hV, hL, ho, hk⟩ := S
  have hF := hKK.2.2.2.2.2.2.1.2.2
  simp only [z_step] at hs
  obtain ⟨x, y, s0, rfl, hg, rfl, rfl, rfl, rfl, rfl⟩ := zv_bin hs
  have hy := hk.hd.1 rfl
  have hxx := hk.tl.hd.1 rfl
  refine lv_imul hx hb hd ?_
  rw [zmul32]
  exact kk _ _ _ _ _ rfl rfl ⟨hR, hV, hL, ho, hk.tl.tl.cons (zok0 (hg))⟩
theorem zi_iand (C : zCX p s m args meth c E k) (hd : decode (zby k) pc = .ok (.iand, 1)) (hs : z_step (14, pc + 1, a, b, ts) lo st T V = some (.inl (pc', lo', st', T', V'))) (S : zSt E s T V H locs ls lo st) (kk : zK p l e R s m args below meth c Q E pc' lo' st' T T' V' cells slots) : W p l e R s m args below meth c H locs cells slots Q (F0 m pc ls (st.map (rv E))) := by
  obtain ⟨hx, hb, hml, hown, hts, hKK, hini⟩ := C
  obtain ⟨hR, hV, hL, ho, hk⟩ := S
  have hF := hKK.2.2.2.2.2.2.1.2.2
  simp only [z_step] at hs
  obtain ⟨x, y, s0, rfl, hg, rfl, rfl, rfl, rfl, rfl⟩ := zv_bin hs
  have hy := hk.hd.1 rfl
  have hxx := hk.tl.hd.1 rfl
  refine lv_iand hx hb hd ?_
  rw [zand32]
  exact kk _ _ _ _ _ rfl rfl ⟨hR, hV, hL, ho, hk.tl.tl.cons (zok0 (zi32 _))⟩
theorem zi_ior (C : zCX p s m args meth c E k) (hd : decode (zby k) pc = .ok (.ior, 1)) (hs : z_step (15, pc + 1, a, b, ts) lo st T V = some (.inl (pc', lo', st', T', V'))) (S : zSt E s T V H locs ls lo st) (kk : zK p l e R s m args below meth c Q E pc' lo' st' T T' V' cells slots) : W p l e R s m args below meth c H locs cells slots Q (F0 m pc ls (st.map (rv E))) := by
  obtain ⟨hx, hb, hml, hown, hts, hKK, hini⟩ := C
  obtain ⟨hR, hV, hL, ho, hk⟩ := S
  have hF := hKK.2.2.2.2.2.2.1.2.2
  simp only [z_step] at hs
  obtain ⟨x, y, s0, rfl, hg, rfl, rfl, rfl, rfl, rfl⟩ := zv_bin hs
  have hy := hk.hd.1 rfl
  have hxx := hk.tl.hd.1 rfl
  refine lv_ior hx hb hd ?_
  rw [zor32]
  exact kk _ _ _ _ _ rfl rfl ⟨hR, hV, hL, ho, hk.tl.tl.cons (zok0 (zi32 _))⟩
theorem zi_ixor (C : zCX p s m args meth c E k) (hd : decode (zby k) pc = .ok (.ixor, 1)) (hs : z_step (16, pc + 1, a, b, ts) lo st T V = some (.inl (pc', lo', st', T', V'))) (S : zSt E s T V H locs ls lo st) (kk : zK p l e R s m args below meth c Q E pc' lo' st' T T' V' cells slots) : W p l e R s m args below meth c H locs cells slots Q (F0 m pc ls (st.map (rv E))) := by
  obtain ⟨hx, hb, hml, hown, hts, hKK, hini⟩ := C
  obtain ⟨hR, hV, hL, ho, hk⟩ := S
  have hF := hKK.2.2.2.2.2.2.1.2.2
  simp only [z_step] at hs
  obtain ⟨x, y, s0, rfl, hg, rfl, rfl, rfl, rfl, rfl⟩ := zv_bin hs
  have hy := hk.hd.1 rfl
  have hxx := hk.tl.hd.1 rfl
  refine lv_ixor hx hb hd ?_
  rw [zxor32]
  exact kk _ _ _ _ _ rfl rfl ⟨hR, hV, hL, ho, hk.tl.tl.cons (zok0 (zi32 _))⟩
theorem zi_idiv (C : zCX p s m args meth c E k) (hd : decode (zby k) pc = .ok (.idiv, 1)) (hs : z_step (17, pc + 1, a, b, ts) lo st T V = some (.inl (pc', lo', st', T', V'))) (S : zSt E s T V H locs ls lo st) (kk : zK p l e R s m args below meth c Q E pc' lo' st' T T' V' cells slots) : W p l e R s m args below meth c H locs cells slots Q (F0 m pc ls (st.map (rv E))) := by
  obtain ⟨hx, hb, hml, hown, hts, hKK, hini⟩ := C
  obtain ⟨hR, hV, hL, ho, hk⟩ := S
  have hF := hKK.2.2.2.2.2.2.1.2.2
  simp only [z_step] at hs
  obtain ⟨x, y, s0, rfl, hg, rfl, rfl, rfl, rfl, rfl⟩ := zv_bin hs
  have hy := hk.hd.1 rfl
  have hxx := hk.tl.hd.1 rfl
  have hne : ¬ Int32.ofInt y = 0 := by rw [z0_32, zeq32 hy zz32]; have := hg.2; omega
  refine lv_idiv hx hb hd hne ?_
  rw [zdiv32 hxx hy hg.1 hg.2]
  exact kk _ _ _ _ _ rfl rfl ⟨hR, hV, hL, ho, hk.tl.tl.cons (zok0 (⟨by have := Int.ediv_nonneg hg.1 (Int.le_of_lt hg.2); omega, by have := Int.ediv_le_self y hg.1; have := hxx.2; omega⟩))⟩
theorem zi_irem (C : zCX p s m args meth c E k) (hd : decode (zby k) pc = .ok (.irem, 1)) (hs : z_step (18, pc + 1, a, b, ts) lo st T V = some (.inl (pc', lo', st', T', V'))) (S : zSt E s T V H locs ls lo st) (kk : zK p l e R s m args below meth c Q E pc' lo' st' T T' V' cells slots) : W p l e R s m args below meth c H locs cells slots Q (F0 m pc ls (st.map (rv E))) := by
  obtain ⟨hx, hb, hml, hown, hts, hKK, hini⟩ := C
  obtain ⟨hR, hV, hL, ho, hk⟩ := S
  have hF := hKK.2.2.2.2.2.2.1.2.2
  simp only [z_step] at hs
  obtain ⟨x, y, s0, rfl, hg, rfl, rfl, rfl, rfl, rfl⟩ := zv_bin hs
  have hy := hk.hd.1 rfl
  have hxx := hk.tl.hd.1 rfl
  have hne : ¬ Int32.ofInt y = 0 := by rw [z0_32, zeq32 hy zz32]; have := hg.2; omega
  refine lv_irem hx hb hd hne ?_
  rw [zmod32 hxx hy hg.1 hg.2]
  exact kk _ _ _ _ _ rfl rfl ⟨hR, hV, hL, ho, hk.tl.tl.cons (zok0 (⟨by have := Int.emod_nonneg x (show y ≠ 0 by have := hg.2; omega); omega, by have := Int.emod_lt_of_pos x hg.2; have := hy.2; omega⟩))⟩
theorem zi_ishl (C : zCX p s m args meth c E k) (hd : decode (zby k) pc = .ok (.ishl, 1)) (hs : z_step (20, pc + 1, a, b, ts) lo st T V = some (.inl (pc', lo', st', T', V'))) (S : zSt E s T V H locs ls lo st) (kk : zK p l e R s m args below meth c Q E pc' lo' st' T T' V' cells slots) : W p l e R s m args below meth c H locs cells slots Q (F0 m pc ls (st.map (rv E))) := by
  obtain ⟨hx, hb, hml, hown, hts, hKK, hini⟩ := C
  obtain ⟨hR, hV, hL, ho, hk⟩ := S
  have hF := hKK.2.2.2.2.2.2.1.2.2
  simp only [z_step] at hs
  obtain ⟨x, y, s0, rfl, hg, rfl, rfl, rfl, rfl, rfl⟩ := zv_bin hs
  have hy := hk.hd.1 rfl
  have hxx := hk.tl.hd.1 rfl
  refine lv_ishl hx hb hd ?_
  rw [zshl32 hg.1 hg.2.1]
  exact kk _ _ _ _ _ rfl rfl ⟨hR, hV, hL, ho, hk.tl.tl.cons (zok0 (hg.2.2))⟩
theorem zi_ishr (C : zCX p s m args meth c E k) (hd : decode (zby k) pc = .ok (.ishr, 1)) (hs : z_step (21, pc + 1, a, b, ts) lo st T V = some (.inl (pc', lo', st', T', V'))) (S : zSt E s T V H locs ls lo st) (kk : zK p l e R s m args below meth c Q E pc' lo' st' T T' V' cells slots) : W p l e R s m args below meth c H locs cells slots Q (F0 m pc ls (st.map (rv E))) := by
  obtain ⟨hx, hb, hml, hown, hts, hKK, hini⟩ := C
  obtain ⟨hR, hV, hL, ho, hk⟩ := S
  have hF := hKK.2.2.2.2.2.2.1.2.2
  simp only [z_step] at hs
  obtain ⟨x, y, s0, rfl, hg, rfl, rfl, rfl, rfl, rfl⟩ := zv_bin hs
  have hy := hk.hd.1 rfl
  have hxx := hk.tl.hd.1 rfl
  refine lv_ishr hx hb hd ?_
  rw [zshr32 hxx hg.1 hg.2]
  exact kk _ _ _ _ _ rfl rfl ⟨hR, hV, hL, ho, hk.tl.tl.cons (zok0 (zdivp hxx (by decide) (by decide)))⟩
theorem zi_ladd (C : zCX p s m args meth c E k) (hd : decode (zby k) pc = .ok (.ladd, 1)) (hs : z_step (23, pc + 1, a, b, ts) lo st T V = some (.inl (pc', lo', st', T', V'))) (S : zSt E s T V H locs ls lo st) (kk : zK p l e R s m args below meth c Q E pc' lo' st' T T' V' cells slots) : W p l e R s m args below meth c H locs cells slots Q (F0 m pc ls (st.map (rv E))) := by
  obtain ⟨hx, hb, hml, hown, hts, hKK, hini⟩ := C
  obtain ⟨hR, hV, hL, ho, hk⟩ := S
  have hF := hKK.2.2.2.2.2.2.1.2.2
  simp only [z_step] at hs
  obtain ⟨x, y, s0, rfl, hg, rfl, rfl, rfl, rfl, rfl⟩ := zv_bin hs
  have hy := hk.hd.2 rfl
  have hxx := hk.tl.hd.2 rfl
  refine lv_ladd hx hb hd ?_
  rw [zadd64]
  exact kk _ _ _ _ _ rfl rfl ⟨hR, hV, hL, ho, hk.tl.tl.cons (zok1 (hg))⟩
theorem zi_lsub (C : zCX p s m args meth c E k) (hd : decode (zby k) pc = .ok (.lsub, 1)) (hs : z_step (24, pc + 1, a, b, ts) lo st T V = some (.inl (pc', lo', st', T', V'))) (S : zSt E s T V H locs ls lo st) (kk : zK p l e R s m args below meth c Q E pc' lo' st' T T' V' cells slots) : W p l e R s m args below meth c H locs cells slots Q (F0 m pc ls (st.map (rv E))) := by
  obtain ⟨hx, hb, hml, hown, hts, hKK, hini⟩ := C
  obtain ⟨hR, hV, hL, ho, hk⟩ := S
  have hF := hKK.2.2.2.2.2.2.1.2.2
  simp only [z_step] at hs
  obtain ⟨x, y, s0, rfl, hg, rfl, rfl, rfl, rfl, rfl⟩ := zv_bin hs
  have hy := hk.hd.2 rfl
  have hxx := hk.tl.hd.2 rfl
  refine lv_lsub hx hb hd ?_
  rw [zsub64]
  exact kk _ _ _ _ _ rfl rfl ⟨hR, hV, hL, ho, hk.tl.tl.cons (zok1 (hg))⟩
theorem zi_lmul (C : zCX p s m args meth c E k) (hd : decode (zby k) pc = .ok (.lmul, 1)) (hs : z_step (25, pc + 1, a, b, ts) lo st T V = some (.inl (pc', lo', st', T', V'))) (S : zSt E s T V H locs ls lo st) (kk : zK p l e R s m args below meth c Q E pc' lo' st' T T' V' cells slots) : W p l e R s m args below meth c H locs cells slots Q (F0 m pc ls (st.map (rv E))) := by
  obtain ⟨hx, hb, hml, hown, hts, hKK, hini⟩ := C
  obtain ⟨hR, hV, hL, ho, hk⟩ := S
  have hF := hKK.2.2.2.2.2.2.1.2.2
  simp only [z_step] at hs
  obtain ⟨x, y, s0, rfl, hg, rfl, rfl, rfl, rfl, rfl⟩ := zv_bin hs
  have hy := hk.hd.2 rfl
  have hxx := hk.tl.hd.2 rfl
  refine lv_lmul hx hb hd ?_
  rw [zmul64]
  exact kk _ _ _ _ _ rfl rfl ⟨hR, hV, hL, ho, hk.tl.tl.cons (zok1 (hg))⟩
theorem zi_land (C : zCX p s m args meth c E k) (hd : decode (zby k) pc = .ok (.land, 1)) (hs : z_step (26, pc + 1, a, b, ts) lo st T V = some (.inl (pc', lo', st', T', V'))) (S : zSt E s T V H locs ls lo st) (kk : zK p l e R s m args below meth c Q E pc' lo' st' T T' V' cells slots) : W p l e R s m args below meth c H locs cells slots Q (F0 m pc ls (st.map (rv E))) := by
  obtain ⟨hx, hb, hml, hown, hts, hKK, hini⟩ := C
  obtain ⟨hR, hV, hL, ho, hk⟩ := S
  have hF := hKK.2.2.2.2.2.2.1.2.2
  simp only [z_step] at hs
  obtain ⟨x, y, s0, rfl, hg, rfl, rfl, rfl, rfl, rfl⟩ := zv_bin hs
  have hy := hk.hd.2 rfl
  have hxx := hk.tl.hd.2 rfl
  refine lv_land hx hb hd ?_
  rw [zand64]
  exact kk _ _ _ _ _ rfl rfl ⟨hR, hV, hL, ho, hk.tl.tl.cons (zok1 (zi64 _))⟩
theorem zi_lor (C : zCX p s m args meth c E k) (hd : decode (zby k) pc = .ok (.lor, 1)) (hs : z_step (27, pc + 1, a, b, ts) lo st T V = some (.inl (pc', lo', st', T', V'))) (S : zSt E s T V H locs ls lo st) (kk : zK p l e R s m args below meth c Q E pc' lo' st' T T' V' cells slots) : W p l e R s m args below meth c H locs cells slots Q (F0 m pc ls (st.map (rv E))) := by
  obtain ⟨hx, hb, hml, hown, hts, hKK, hini⟩ := C
  obtain ⟨hR, hV, hL, ho, hk⟩ := S
  have hF := hKK.2.2.2.2.2.2.1.2.2
  simp only [z_step] at hs
  obtain ⟨x, y, s0, rfl, hg, rfl, rfl, rfl, rfl, rfl⟩ := zv_bin hs
  have hy := hk.hd.2 rfl
  have hxx := hk.tl.hd.2 rfl
  refine lv_lor hx hb hd ?_
  rw [zor64]
  exact kk _ _ _ _ _ rfl rfl ⟨hR, hV, hL, ho, hk.tl.tl.cons (zok1 (zi64 _))⟩
theorem zi_lrem (C : zCX p s m args meth c E k) (hd : decode (zby k) pc = .ok (.lrem, 1)) (hs : z_step (28, pc + 1, a, b, ts) lo st T V = some (.inl (pc', lo', st', T', V'))) (S : zSt E s T V H locs ls lo st) (kk : zK p l e R s m args below meth c Q E pc' lo' st' T T' V' cells slots) : W p l e R s m args below meth c H locs cells slots Q (F0 m pc ls (st.map (rv E))) := by
  obtain ⟨hx, hb, hml, hown, hts, hKK, hini⟩ := C
  obtain ⟨hR, hV, hL, ho, hk⟩ := S
  have hF := hKK.2.2.2.2.2.2.1.2.2
  simp only [z_step] at hs
  obtain ⟨x, y, s0, rfl, hg, rfl, rfl, rfl, rfl, rfl⟩ := zv_bin hs
  have hy := hk.hd.2 rfl
  have hxx := hk.tl.hd.2 rfl
  have hne : ¬ Int64.ofInt y = 0 := by
    rw [show (0 : Int64) = Int64.ofInt 0 from rfl, zeq64 hy (by decide)]; have := hg.2; omega
  refine lv_lrem hx hb hd hne ?_
  rw [zmod64 hxx hy hg.1 hg.2]
  exact kk _ _ _ _ _ rfl rfl ⟨hR, hV, hL, ho, hk.tl.tl.cons (zok1 (⟨by have := Int.emod_nonneg x (show y ≠ 0 by have := hg.2; omega); omega, by have := Int.emod_lt_of_pos x hg.2; have := hy.2; omega⟩))⟩
theorem zi_iushr (C : zCX p s m args meth c E k) (hd : decode (zby k) pc = .ok (.iushr, 1)) (hs : z_step (22, pc + 1, a, b, ts) lo st T V = some (.inl (pc', lo', st', T', V'))) (S : zSt E s T V H locs ls lo st) (kk : zK p l e R s m args below meth c Q E pc' lo' st' T T' V' cells slots) : W p l e R s m args below meth c H locs cells slots Q (F0 m pc ls (st.map (rv E))) := by
  obtain ⟨hx, hb, hml, hown, hts, hKK, hini⟩ := C
  obtain ⟨hR, hV, hL, ho, hk⟩ := S
  have hF := hKK.2.2.2.2.2.2.1.2.2
  simp only [z_step] at hs
  obtain ⟨x, y, s0, rfl, hg, rfl, rfl, rfl, rfl, rfl⟩ := zv_bin hs
  have hxx := hk.tl.hd.1 rfl
  refine lv_iushr hx hb hd (zushr32 hxx hg.1 hg.2) ?_
  refine kk _ _ _ _ _ rfl rfl ⟨hR, hV, hL, ho, hk.tl.tl.cons (zok0 ?_)⟩
  show z32 (if y = 0 then x else (x % 4294967296) / 2 ^ y.toNat)
  have h := zushr32 (y := y) hxx hg.1 hg.2
  split
  · exact hxx
  · have hp : (2 : Int) ≤ 2 ^ y.toNat := by
      obtain ⟨k, hk⟩ : ∃ k, y.toNat = k + 1 := ⟨y.toNat - 1, by have := hg.1; omega⟩
      rw [hk, Int.pow_succ]
      have : (0 : Int) < 2 ^ k := Int.pow_pos (by decide)
      omega
    have h2 : 0 ≤ x % 4294967296 := Int.emod_nonneg _ (by decide)
    have h3 : x % 4294967296 < 4294967296 := Int.emod_lt_of_pos _ (by decide)
    constructor
    · have := Int.ediv_nonneg h2 (show (0 : Int) ≤ 2 ^ y.toNat by omega); omega
    · have : (x % 4294967296) / 2 ^ y.toNat < 2147483648 := by
        rw [Int.ediv_lt_iff_lt_mul (by omega)]
        have : (2147483648 : Int) * 2 ≤ 2147483648 * 2 ^ y.toNat := Int.mul_le_mul_of_nonneg_left hp (by decide)
        omega
      omega
theorem zi_ineg (C : zCX p s m args meth c E k) (hd : decode (zby k) pc = .ok (.ineg, 1)) (hs : z_step (19, pc + 1, a, b, ts) lo st T V = some (.inl (pc', lo', st', T', V'))) (S : zSt E s T V H locs ls lo st) (kk : zK p l e R s m args below meth c Q E pc' lo' st' T T' V' cells slots) : W p l e R s m args below meth c H locs cells slots Q (F0 m pc ls (st.map (rv E))) := by
  obtain ⟨hx, hb, hml, hown, hts, hKK, hini⟩ := C
  obtain ⟨hR, hV, hL, ho, hk⟩ := S
  have hF := hKK.2.2.2.2.2.2.1.2.2
  simp only [z_step] at hs
  obtain ⟨x, s0, rfl, hg, rfl, rfl, rfl, rfl, rfl⟩ := zv_un hs
  refine lv_ineg hx hb hd ?_
  rw [zneg32]
  exact kk _ _ _ _ _ rfl rfl ⟨hR, hV, hL, ho, hk.tl.cons (zok0 hg)⟩
theorem zi_lshl (C : zCX p s m args meth c E k) (hd : decode (zby k) pc = .ok (.lshl, 1)) (hs : z_step (29, pc + 1, a, b, ts) lo st T V = some (.inl (pc', lo', st', T', V'))) (S : zSt E s T V H locs ls lo st) (kk : zK p l e R s m args below meth c Q E pc' lo' st' T T' V' cells slots) : W p l e R s m args below meth c H locs cells slots Q (F0 m pc ls (st.map (rv E))) := by
  obtain ⟨hx, hb, hml, hown, hts, hKK, hini⟩ := C
  obtain ⟨hR, hV, hL, ho, hk⟩ := S
  have hF := hKK.2.2.2.2.2.2.1.2.2
  simp only [z_step] at hs
  obtain ⟨x, y, s0, rfl, hg, rfl, rfl, rfl, rfl, rfl⟩ := zv_lsh hs
  have hxx := hk.tl.hd.2 rfl
  refine lv_lshl hx hb hd (zshl64 hg.1 hg.2.1) ?_
  exact kk _ _ _ _ _ rfl rfl ⟨hR, hV, hL, ho, hk.tl.tl.cons (zok1 (hg.2.2))⟩
theorem zi_lshr (C : zCX p s m args meth c E k) (hd : decode (zby k) pc = .ok (.lshr, 1)) (hs : z_step (30, pc + 1, a, b, ts) lo st T V = some (.inl (pc', lo', st', T', V'))) (S : zSt E s T V H locs ls lo st) (kk : zK p l e R s m args below meth c Q E pc' lo' st' T T' V' cells slots) : W p l e R s m args below meth c H locs cells slots Q (F0 m pc ls (st.map (rv E))) := by
  obtain ⟨hx, hb, hml, hown, hts, hKK, hini⟩ := C
  obtain ⟨hR, hV, hL, ho, hk⟩ := S
  have hF := hKK.2.2.2.2.2.2.1.2.2
  simp only [z_step] at hs
  obtain ⟨x, y, s0, rfl, hg, rfl, rfl, rfl, rfl, rfl⟩ := zv_lsh hs
  have hxx := hk.tl.hd.2 rfl
  refine lv_lshr hx hb hd (zshr64 hxx hg.1 hg.2) ?_
  exact kk _ _ _ _ _ rfl rfl ⟨hR, hV, hL, ho, hk.tl.tl.cons (zok1 (zdivp hxx (by decide) (by decide)))⟩
theorem zi_lcmp (C : zCX p s m args meth c E k) (hd : decode (zby k) pc = .ok (.lcmp, 1)) (hs : z_step (31, pc + 1, a, b, ts) lo st T V = some (.inl (pc', lo', st', T', V'))) (S : zSt E s T V H locs ls lo st) (kk : zK p l e R s m args below meth c Q E pc' lo' st' T T' V' cells slots) : W p l e R s m args below meth c H locs cells slots Q (F0 m pc ls (st.map (rv E))) := by
  obtain ⟨hx, hb, hml, hown, hts, hKK, hini⟩ := C
  obtain ⟨hR, hV, hL, ho, hk⟩ := S
  have hF := hKK.2.2.2.2.2.2.1.2.2
  simp only [z_step] at hs
  obtain ⟨x, y, s0, rfl, rfl, rfl, rfl, rfl, rfl⟩ := zv_cmp hs
  have hy := hk.hd.2 rfl
  have hxx := hk.tl.hd.2 rfl
  refine W.lcmp hx hb hd ?_
  have e1 : lg_cmp (Int64.ofInt x) (Int64.ofInt y) = Int32.ofInt (if y < x then 1 else if x = y then 0 else -1) := by
    unfold lg_cmp
    by_cases h1 : y < x
    · rw [if_pos (show Int64.ofInt x > Int64.ofInt y from (zlt64 hy hxx).mpr h1), if_pos h1]; rfl
    · rw [if_neg (show ¬ Int64.ofInt x > Int64.ofInt y from fun h => h1 ((zlt64 hy hxx).mp h)), if_neg h1]
      by_cases h2 : x = y
      · rw [if_pos ((zeq64 hxx hy).mpr h2), if_pos h2]; rfl
      · rw [if_neg (fun h => h2 ((zeq64 hxx hy).mp h)), if_neg h2]; rfl
  rw [e1]
  refine kk _ _ _ _ _ rfl rfl ⟨hR, hV, hL, ho, hk.tl.tl.cons (zok0 ?_)⟩
  split
  · decide
  · split <;> decide
theorem zi_i2l (C : zCX p s m args meth c E k) (hd : decode (zby k) pc = .ok (.i2l, 1)) (hs : z_step (32, pc + 1, a, b, ts) lo st T V = some (.inl (pc', lo', st', T', V'))) (S : zSt E s T V H locs ls lo st) (kk : zK p l e R s m args below meth c Q E pc' lo' st' T T' V' cells slots) : W p l e R s m args below meth c H locs cells slots Q (F0 m pc ls (st.map (rv E))) := by
  obtain ⟨hx, hb, hml, hown, hts, hKK, hini⟩ := C
  obtain ⟨hR, hV, hL, ho, hk⟩ := S
  have hF := hKK.2.2.2.2.2.2.1.2.2
  simp only [z_step] at hs
  obtain ⟨x, s0, rfl, hg, rfl, rfl, rfl, rfl, rfl⟩ := zv_un hs
  have hxx := hk.hd.1 rfl
  refine lv_i2l hx hb hd (zi2l hxx) ?_
  exact kk _ _ _ _ _ rfl rfl ⟨hR, hV, hL, ho, hk.tl.cons (zok1 ⟨by have := hxx.1; omega, by have := hxx.2; omega⟩)⟩
theorem zi_l2i (C : zCX p s m args meth c E k) (hd : decode (zby k) pc = .ok (.l2i, 1)) (hs : z_step (33, pc + 1, a, b, ts) lo st T V = some (.inl (pc', lo', st', T', V'))) (S : zSt E s T V H locs ls lo st) (kk : zK p l e R s m args below meth c Q E pc' lo' st' T T' V' cells slots) : W p l e R s m args below meth c H locs cells slots Q (F0 m pc ls (st.map (rv E))) := by
  obtain ⟨hx, hb, hml, hown, hts, hKK, hini⟩ := C
  obtain ⟨hR, hV, hL, ho, hk⟩ := S
  have hF := hKK.2.2.2.2.2.2.1.2.2
  simp only [z_step] at hs
  obtain ⟨x, s0, rfl, hg, rfl, rfl, rfl, rfl, rfl⟩ := zv_un hs
  have hxx := hk.hd.2 rfl
  refine lv_l2i hx hb hd (zl2i hxx hg) ?_
  exact kk _ _ _ _ _ rfl rfl ⟨hR, hV, hL, ho, hk.tl.cons (zok0 hg)⟩
theorem zi_i2b (C : zCX p s m args meth c E k) (hd : decode (zby k) pc = .ok (.i2b, 1)) (hs : z_step (34, pc + 1, a, b, ts) lo st T V = some (.inl (pc', lo', st', T', V'))) (S : zSt E s T V H locs ls lo st) (kk : zK p l e R s m args below meth c Q E pc' lo' st' T T' V' cells slots) : W p l e R s m args below meth c H locs cells slots Q (F0 m pc ls (st.map (rv E))) := by
  obtain ⟨hx, hb, hml, hown, hts, hKK, hini⟩ := C
  obtain ⟨hR, hV, hL, ho, hk⟩ := S
  have hF := hKK.2.2.2.2.2.2.1.2.2
  simp only [z_step] at hs
  obtain ⟨x, s0, rfl, hg, rfl, rfl, rfl, rfl, rfl⟩ := zv_un hs
  have hxx := hk.hd.1 rfl
  refine lv_i2b hx hb hd (zi2b hxx) ?_
  exact kk _ _ _ _ _ rfl rfl ⟨hR, hV, hL, ho, hk.tl.cons (zok0 (by show z32 ((x + 128) % 256 - 128); constructor <;> omega))⟩
theorem zi_i2c (C : zCX p s m args meth c E k) (hd : decode (zby k) pc = .ok (.i2c, 1)) (hs : z_step (35, pc + 1, a, b, ts) lo st T V = some (.inl (pc', lo', st', T', V'))) (S : zSt E s T V H locs ls lo st) (kk : zK p l e R s m args below meth c Q E pc' lo' st' T T' V' cells slots) : W p l e R s m args below meth c H locs cells slots Q (F0 m pc ls (st.map (rv E))) := by
  obtain ⟨hx, hb, hml, hown, hts, hKK, hini⟩ := C
  obtain ⟨hR, hV, hL, ho, hk⟩ := S
  have hF := hKK.2.2.2.2.2.2.1.2.2
  simp only [z_step] at hs
  obtain ⟨x, s0, rfl, hg, rfl, rfl, rfl, rfl, rfl⟩ := zv_un hs
  have hxx := hk.hd.1 rfl
  refine lv_i2c hx hb hd (zi2c hxx hg.1 hg.2) ?_
  exact kk _ _ _ _ _ rfl rfl ⟨hR, hV, hL, ho, hk.tl.cons (zok0 hxx)⟩
theorem zi_dup (C : zCX p s m args meth c E k) (hd : decode (zby k) pc = .ok (.dup, 1)) (hs : z_step (36, pc + 1, a, b, ts) lo st T V = some (.inl (pc', lo', st', T', V'))) (S : zSt E s T V H locs ls lo st) (kk : zK p l e R s m args below meth c Q E pc' lo' st' T T' V' cells slots) : W p l e R s m args below meth c H locs cells slots Q (F0 m pc ls (st.map (rv E))) := by
  obtain ⟨hx, hb, hml, hown, hts, hKK, hini⟩ := C
  obtain ⟨hR, hV, hL, ho, hk⟩ := S
  have hF := hKK.2.2.2.2.2.2.1.2.2
  simp only [z_step] at hs
  obtain ⟨v, s0, rfl, hg, rfl, rfl, rfl, rfl, rfl⟩ := zv_dup hs
  refine lv_dup hx hb hd (by rw [zrv_cat hF, if_neg (by omega)]) ?_
  exact kk _ _ _ _ _ rfl rfl ⟨hR, hV, hL, ho, hk.cons hk.hd⟩
theorem zi_pop (C : zCX p s m args meth c E k) (hd : decode (zby k) pc = .ok (.pop, 1)) (hs : z_step (37, pc + 1, a, b, ts) lo st T V = some (.inl (pc', lo', st', T', V'))) (S : zSt E s T V H locs ls lo st) (kk : zK p l e R s m args below meth c Q E pc' lo' st' T T' V' cells slots) : W p l e R s m args below meth c H locs cells slots Q (F0 m pc ls (st.map (rv E))) := by
  obtain ⟨hx, hb, hml, hown, hts, hKK, hini⟩ := C
  obtain ⟨hR, hV, hL, ho, hk⟩ := S
  have hF := hKK.2.2.2.2.2.2.1.2.2
  simp only [z_step] at hs
  obtain ⟨v, s0, rfl, hg, rfl, rfl, rfl, rfl, rfl⟩ := zv_pop hs
  refine lv_pop hx hb hd (va := rv E v) (by rw [zrv_cat hF, if_neg (by omega)]) ?_
  exact kk _ _ _ _ _ rfl rfl ⟨hR, hV, hL, ho, hk.tl⟩
theorem zi_dup2 (C : zCX p s m args meth c E k) (hd : decode (zby k) pc = .ok (.dup2, 1)) (hs : z_step (38, pc + 1, a, b, ts) lo st T V = some (.inl (pc', lo', st', T', V'))) (S : zSt E s T V H locs ls lo st) (kk : zK p l e R s m args below meth c Q E pc' lo' st' T T' V' cells slots) : W p l e R s m args below meth c H locs cells slots Q (F0 m pc ls (st.map (rv E))) := by
  obtain ⟨hx, hb, hml, hown, hts, hKK, hini⟩ := C
  obtain ⟨hR, hV, hL, ho, hk⟩ := S
  have hF := hKK.2.2.2.2.2.2.1.2.2
  simp only [z_step] at hs
  obtain ⟨v, w, s0, rfl, ⟨hg, hg2⟩, rfl, rfl, rfl, rfl, rfl⟩ := zv_dup2 hs
  refine lv_dup2_11 hx hb hd (va := rv E v) (vb := rv E w) (by rw [zrv_cat hF, if_neg (by omega)]) (by rw [zrv_cat hF, if_neg (by omega)]) ?_
  exact kk _ _ _ _ _ rfl rfl ⟨hR, hV, hL, ho, (hk.cons hk.tl.hd).cons hk.hd⟩
theorem zi_iconst (C : zCX p s m args meth c E k) (hd : decode (zby k) pc = .ok (.iconst b, 1)) (hs : z_step (0, pc + 1, a, b, ts) lo st T V = some (.inl (pc', lo', st', T', V'))) (S : zSt E s T V H locs ls lo st) (kk : zK p l e R s m args below meth c Q E pc' lo' st' T T' V' cells slots) : W p l e R s m args below meth c H locs cells slots Q (F0 m pc ls (st.map (rv E))) := by
  obtain ⟨hx, hb, hml, hown, hts, hKK, hini⟩ := C
  obtain ⟨hR, hV, hL, ho, hk⟩ := S
  have hF := hKK.2.2.2.2.2.2.1.2.2
  simp only [z_step] at hs
  have hs : (if z32 b then zgo (pc + 1) lo ((0, b) :: st) T V else none) = some (.inl (pc', lo', st', T', V')) := hs
  split at hs
  · rename_i hg
    obtain ⟨rfl, rfl, rfl, rfl, rfl⟩ := zgo_inv hs
    refine lv_iconst hx hb hd (rfl) ?_
    exact kk _ _ _ _ _ rfl rfl ⟨hR, hV, hL, ho, hk.cons (zok0 hg)⟩
  · cases hs
theorem zi_bipush (C : zCX p s m args meth c E k) (hv : -128 ≤ b ∧ b ≤ 127) (hd : decode (zby k) pc = .ok (.bipush b, 2)) (hs : z_step (0, pc + 2, a, b, ts) lo st T V = some (.inl (pc', lo', st', T', V'))) (S : zSt E s T V H locs ls lo st) (kk : zK p l e R s m args below meth c Q E pc' lo' st' T T' V' cells slots) : W p l e R s m args below meth c H locs cells slots Q (F0 m pc ls (st.map (rv E))) := by
  obtain ⟨hx, hb, hml, hown, hts, hKK, hini⟩ := C
  obtain ⟨hR, hV, hL, ho, hk⟩ := S
  have hF := hKK.2.2.2.2.2.2.1.2.2
  simp only [z_step] at hs
  have hs : (if z32 b then zgo (pc + 2) lo ((0, b) :: st) T V else none) = some (.inl (pc', lo', st', T', V')) := hs
  split at hs
  · rename_i hg
    obtain ⟨rfl, rfl, rfl, rfl, rfl⟩ := zgo_inv hs
    refine lv_bipush hx hb hd (zbi hv) ?_
    exact kk _ _ _ _ _ rfl rfl ⟨hR, hV, hL, ho, hk.cons (zok0 hg)⟩
  · cases hs
theorem zi_sipush (C : zCX p s m args meth c E k) (hv : -32768 ≤ b ∧ b ≤ 32767) (hd : decode (zby k) pc = .ok (.sipush b, 3)) (hs : z_step (0, pc + 3, a, b, ts) lo st T V = some (.inl (pc', lo', st', T', V'))) (S : zSt E s T V H locs ls lo st) (kk : zK p l e R s m args below meth c Q E pc' lo' st' T T' V' cells slots) : W p l e R s m args below meth c H locs cells slots Q (F0 m pc ls (st.map (rv E))) := by
  obtain ⟨hx, hb, hml, hown, hts, hKK, hini⟩ := C
  obtain ⟨hR, hV, hL, ho, hk⟩ := S
  have hF := hKK.2.2.2.2.2.2.1.2.2
  simp only [z_step] at hs
  have hs : (if z32 b then zgo (pc + 3) lo ((0, b) :: st) T V else none) = some (.inl (pc', lo', st', T', V')) := hs
  split at hs
  · rename_i hg
    obtain ⟨rfl, rfl, rfl, rfl, rfl⟩ := zgo_inv hs
    refine lv_sipush hx hb hd (zsi hv) ?_
    exact kk _ _ _ _ _ rfl rfl ⟨hR, hV, hL, ho, hk.cons (zok0 hg)⟩
  · cases hs
theorem zi_lconst (C : zCX p s m args meth c E k) {f : Fin 2} (hv : b = ((f : Nat) : Int)) (hd : decode (zby k) pc = .ok (.lconst f, 1)) (hs : z_step (1, pc + 1, a, b, ts) lo st T V = some (.inl (pc', lo', st', T', V'))) (S : zSt E s T V H locs ls lo st) (kk : zK p l e R s m args below meth c Q E pc' lo' st' T T' V' cells slots) : W p l e R s m args below meth c H locs cells slots Q (F0 m pc ls (st.map (rv E))) := by
  obtain ⟨hx, hb, hml, hown, hts, hKK, hini⟩ := C
  obtain ⟨hR, hV, hL, ho, hk⟩ := S
  have hF := hKK.2.2.2.2.2.2.1.2.2
  simp only [z_step] at hs
  have hs : (if z64 b then zgo (pc + 1) lo ((1, b) :: st) T V else none) = some (.inl (pc', lo', st', T', V')) := hs
  split at hs
  · rename_i hg
    obtain ⟨rfl, rfl, rfl, rfl, rfl⟩ := zgo_inv hs
    refine lv_lconst (v := Int64.ofInt b) hx hb hd (by rw [hv]; rfl) ?_
    exact kk _ _ _ _ _ rfl rfl ⟨hR, hV, hL, ho, hk.cons (zok1 hg)⟩
  · cases hs
theorem zi_ldc (C : zCX p s m args meth c E k) {ix : Nat} (hv : Jvm.Cond.constant (zCn (zown k)) ix (Int32.ofInt b) ∈ zWS) (hd : decode (zby k) pc = .ok (.ldc ix, 2)) (hs : z_step (0, pc + 2, a, b, ts) lo st T V = some (.inl (pc', lo', st', T', V'))) (S : zSt E s T V H locs ls lo st) (kk : zK p l e R s m args below meth c Q E pc' lo' st' T T' V' cells slots) : W p l e R s m args below meth c H locs cells slots Q (F0 m pc ls (st.map (rv E))) := by
  obtain ⟨hx, hb, hml, hown, hts, hKK, hini⟩ := C
  obtain ⟨hR, hV, hL, ho, hk⟩ := S
  have hF := hKK.2.2.2.2.2.2.1.2.2
  simp only [z_step] at hs
  have hs : (if z32 b then zgo (pc + 2) lo ((0, b) :: st) T V else none) = some (.inl (pc', lo', st', T', V')) := hs
  split at hs
  · rename_i hg
    obtain ⟨rfl, rfl, rfl, rfl, rfl⟩ := zgo_inv hs
    refine lv_ldc hx hb hown (hts _ hv) hd ?_
    exact kk _ _ _ _ _ rfl rfl ⟨hR, hV, hL, ho, hk.cons (zok0 hg)⟩
  · cases hs
theorem zi_ldcw (C : zCX p s m args meth c E k) {ix : Nat} (hv : Jvm.Cond.constant (zCn (zown k)) ix (Int32.ofInt b) ∈ zWS) (hd : decode (zby k) pc = .ok (.ldc_w ix, 3)) (hs : z_step (0, pc + 3, a, b, ts) lo st T V = some (.inl (pc', lo', st', T', V'))) (S : zSt E s T V H locs ls lo st) (kk : zK p l e R s m args below meth c Q E pc' lo' st' T T' V' cells slots) : W p l e R s m args below meth c H locs cells slots Q (F0 m pc ls (st.map (rv E))) := by
  obtain ⟨hx, hb, hml, hown, hts, hKK, hini⟩ := C
  obtain ⟨hR, hV, hL, ho, hk⟩ := S
  have hF := hKK.2.2.2.2.2.2.1.2.2
  simp only [z_step] at hs
  have hs : (if z32 b then zgo (pc + 3) lo ((0, b) :: st) T V else none) = some (.inl (pc', lo', st', T', V')) := hs
  split at hs
  · rename_i hg
    obtain ⟨rfl, rfl, rfl, rfl, rfl⟩ := zgo_inv hs
    refine lv_ldcw hx hb hown (hts _ hv) hd ?_
    exact kk _ _ _ _ _ rfl rfl ⟨hR, hV, hL, ho, hk.cons (zok0 hg)⟩
  · cases hs
theorem zi_ldc2 (C : zCX p s m args meth c E k) {ix : Nat} (hv : Jvm.Cond.constantLong (zCn (zown k)) ix (Int64.ofInt b) ∈ zWS) (hd : decode (zby k) pc = .ok (.ldc2_w ix, 3)) (hs : z_step (1, pc + 3, a, b, ts) lo st T V = some (.inl (pc', lo', st', T', V'))) (S : zSt E s T V H locs ls lo st) (kk : zK p l e R s m args below meth c Q E pc' lo' st' T T' V' cells slots) : W p l e R s m args below meth c H locs cells slots Q (F0 m pc ls (st.map (rv E))) := by
  obtain ⟨hx, hb, hml, hown, hts, hKK, hini⟩ := C
  obtain ⟨hR, hV, hL, ho, hk⟩ := S
  have hF := hKK.2.2.2.2.2.2.1.2.2
  simp only [z_step] at hs
  have hs : (if z64 b then zgo (pc + 3) lo ((1, b) :: st) T V else none) = some (.inl (pc', lo', st', T', V')) := hs
  split at hs
  · rename_i hg
    obtain ⟨rfl, rfl, rfl, rfl, rfl⟩ := zgo_inv hs
    refine lv_ldc2 hx hb hown (hts _ hv) hd ?_
    exact kk _ _ _ _ _ rfl rfl ⟨hR, hV, hL, ho, hk.cons (zok1 hg)⟩
  · cases hs
theorem zi_ldcs (C : zCX p s m args meth c E k) {ix : Nat} (hv : ∃ q ∈ z_cs, q.1 = zown k ∧ q.2.1 = ix ∧ q.2.2.1 = a) (hd : decode (zby k) pc = .ok (.ldc ix, 2)) (hs : z_step (3, pc + 2, a, b, ts) lo st T V = some (.inl (pc', lo', st', T', V'))) (S : zSt E s T V H locs ls lo st) (kk : zK p l e R s m args below meth c Q E pc' lo' st' T T' V' cells slots) : W p l e R s m args below meth c H locs cells slots Q (F0 m pc ls (st.map (rv E))) := by
  obtain ⟨hx, hb, hml, hown, hts, hKK, hini⟩ := C
  obtain ⟨hR, hV, hL, ho, hk⟩ := S
  have hF := hKK.2.2.2.2.2.2.1.2.2
  simp only [z_step] at hs
  have hs : (if a < 7 then zgo (pc + 2) lo ((3, (a : Int)) :: st) T V else none) = some (.inl (pc', lo', st', T', V')) := hs
  split at hs
  · rename_i hg
    obtain ⟨rfl, rfl, rfl, rfl, rfl⟩ := zgo_inv hs
    obtain ⟨q, hq, e1, e2, e3⟩ := hv
    have hZ := hKK.2.2.2.1 q hq
    rw [e1, e2, e3] at hZ
    refine va_ldcS hx hb hown hZ hd ?_
    exact kk _ _ _ _ _ rfl rfl ⟨hR, hV, hL, ho, hk.cons (zokr (by decide))⟩
  · cases hs
theorem zi_null (C : zCX p s m args meth c E k) (hd : decode (zby k) pc = .ok (.aconst_null, 1)) (hs : z_step (2, pc + 1, a, b, ts) lo st T V = some (.inl (pc', lo', st', T', V'))) (S : zSt E s T V H locs ls lo st) (kk : zK p l e R s m args below meth c Q E pc' lo' st' T T' V' cells slots) : W p l e R s m args below meth c H locs cells slots Q (F0 m pc ls (st.map (rv E))) := by
  obtain ⟨hx, hb, hml, hown, hts, hKK, hini⟩ := C
  obtain ⟨hR, hV, hL, ho, hk⟩ := S
  have hF := hKK.2.2.2.2.2.2.1.2.2
  simp only [z_step] at hs
  obtain ⟨rfl, rfl, rfl, rfl, rfl⟩ := zgo_inv (show zgo (pc + 1) lo ((2, -1) :: st) T V = _ from hs)
  refine lv_null hx hb hd ?_
  exact kk _ _ _ _ _ rfl rfl ⟨hR, hV, hL, ho, hk.cons (zokr (by decide))⟩
theorem zi_iload_n (C : zCX p s m args meth c E k) {f : Fin 4} (hf : (f : Nat) = a) (hd : decode (zby k) pc = .ok (.iload_n f, 1)) (hs : z_step (4, pc + 1, a, b, ts) lo st T V = some (.inl (pc', lo', st', T', V'))) (S : zSt E s T V H locs ls lo st) (kk : zK p l e R s m args below meth c Q E pc' lo' st' T T' V' cells slots) : W p l e R s m args below meth c H locs cells slots Q (F0 m pc ls (st.map (rv E))) := by
  obtain ⟨hx, hb, hml, hown, hts, hKK, hini⟩ := C
  obtain ⟨hR, hV, hL, ho, hk⟩ := S
  have hF := hKK.2.2.2.2.2.2.1.2.2
  simp only [z_step] at hs
  obtain ⟨x, hv, rfl, rfl, rfl, rfl, rfl⟩ := zv_ld hs
  refine lv_iload_n hx hb hd hf (hL.2.2 a _ hv (show ¬ (0 : Nat) = 9 by decide)) ?_
  exact kk _ _ _ _ _ rfl rfl ⟨hR, hV, hL, ho, hk.cons (ho.at hv)⟩
theorem zi_iload (C : zCX p s m args meth c E k) (hd : decode (zby k) pc = .ok (.iload a, 2)) (hs : z_step (4, pc + 2, a, b, ts) lo st T V = some (.inl (pc', lo', st', T', V'))) (S : zSt E s T V H locs ls lo st) (kk : zK p l e R s m args below meth c Q E pc' lo' st' T T' V' cells slots) : W p l e R s m args below meth c H locs cells slots Q (F0 m pc ls (st.map (rv E))) := by
  obtain ⟨hx, hb, hml, hown, hts, hKK, hini⟩ := C
  obtain ⟨hR, hV, hL, ho, hk⟩ := S
  have hF := hKK.2.2.2.2.2.2.1.2.2
  simp only [z_step] at hs
  obtain ⟨x, hv, rfl, rfl, rfl, rfl, rfl⟩ := zv_ld hs
  refine lv_iload hx hb hd (hL.2.2 a _ hv (show ¬ (0 : Nat) = 9 by decide)) ?_
  exact kk _ _ _ _ _ rfl rfl ⟨hR, hV, hL, ho, hk.cons (ho.at hv)⟩
theorem zi_lload_n (C : zCX p s m args meth c E k) {f : Fin 4} (hf : (f : Nat) = a) (hd : decode (zby k) pc = .ok (.lload_n f, 1)) (hs : z_step (5, pc + 1, a, b, ts) lo st T V = some (.inl (pc', lo', st', T', V'))) (S : zSt E s T V H locs ls lo st) (kk : zK p l e R s m args below meth c Q E pc' lo' st' T T' V' cells slots) : W p l e R s m args below meth c H locs cells slots Q (F0 m pc ls (st.map (rv E))) := by
  obtain ⟨hx, hb, hml, hown, hts, hKK, hini⟩ := C
  obtain ⟨hR, hV, hL, ho, hk⟩ := S
  have hF := hKK.2.2.2.2.2.2.1.2.2
  simp only [z_step] at hs
  obtain ⟨x, hv, rfl, rfl, rfl, rfl, rfl⟩ := zv_ld hs
  refine lv_lload_n hx hb hd hf (hL.2.2 a _ hv (show ¬ (1 : Nat) = 9 by decide)) ?_
  exact kk _ _ _ _ _ rfl rfl ⟨hR, hV, hL, ho, hk.cons (ho.at hv)⟩
theorem zi_lload (C : zCX p s m args meth c E k) (hd : decode (zby k) pc = .ok (.lload a, 2)) (hs : z_step (5, pc + 2, a, b, ts) lo st T V = some (.inl (pc', lo', st', T', V'))) (S : zSt E s T V H locs ls lo st) (kk : zK p l e R s m args below meth c Q E pc' lo' st' T T' V' cells slots) : W p l e R s m args below meth c H locs cells slots Q (F0 m pc ls (st.map (rv E))) := by
  obtain ⟨hx, hb, hml, hown, hts, hKK, hini⟩ := C
  obtain ⟨hR, hV, hL, ho, hk⟩ := S
  have hF := hKK.2.2.2.2.2.2.1.2.2
  simp only [z_step] at hs
  obtain ⟨x, hv, rfl, rfl, rfl, rfl, rfl⟩ := zv_ld hs
  refine lv_lload hx hb hd (hL.2.2 a _ hv (show ¬ (1 : Nat) = 9 by decide)) ?_
  exact kk _ _ _ _ _ rfl rfl ⟨hR, hV, hL, ho, hk.cons (ho.at hv)⟩
theorem zi_aload_n (C : zCX p s m args meth c E k) {f : Fin 4} (hf : (f : Nat) = a) (hd : decode (zby k) pc = .ok (.aload_n f, 1)) (hs : z_step (6, pc + 1, a, b, ts) lo st T V = some (.inl (pc', lo', st', T', V'))) (S : zSt E s T V H locs ls lo st) (kk : zK p l e R s m args below meth c Q E pc' lo' st' T T' V' cells slots) : W p l e R s m args below meth c H locs cells slots Q (F0 m pc ls (st.map (rv E))) := by
  obtain ⟨hx, hb, hml, hown, hts, hKK, hini⟩ := C
  obtain ⟨hR, hV, hL, ho, hk⟩ := S
  have hF := hKK.2.2.2.2.2.2.1.2.2
  simp only [z_step] at hs
  obtain ⟨v, hv, hg, rfl, rfl, rfl, rfl, rfl⟩ := zv_lda hs
  have hlv := hL.2.2 a _ hv (by omega)
  have K := kk H locs ls cells slots rfl rfl ⟨hR, hV, hL, ho, hk.cons (ho.at hv)⟩
  rcases zrv_ref hF hg with h | ⟨q, h⟩
  · rw [List.map_cons, h] at K
    rw [h] at hlv
    exact lv_aload_nN hx hb hd hf hlv K
  · rw [List.map_cons, h] at K
    rw [h] at hlv
    exact lv_aload_n hx hb hd hf hlv K
theorem zi_aload (C : zCX p s m args meth c E k) (hd : decode (zby k) pc = .ok (.aload a, 2)) (hs : z_step (6, pc + 2, a, b, ts) lo st T V = some (.inl (pc', lo', st', T', V'))) (S : zSt E s T V H locs ls lo st) (kk : zK p l e R s m args below meth c Q E pc' lo' st' T T' V' cells slots) : W p l e R s m args below meth c H locs cells slots Q (F0 m pc ls (st.map (rv E))) := by
  obtain ⟨hx, hb, hml, hown, hts, hKK, hini⟩ := C
  obtain ⟨hR, hV, hL, ho, hk⟩ := S
  have hF := hKK.2.2.2.2.2.2.1.2.2
  simp only [z_step] at hs
  obtain ⟨v, hv, hg, rfl, rfl, rfl, rfl, rfl⟩ := zv_lda hs
  have hlv := hL.2.2 a _ hv (by omega)
  have K := kk H locs ls cells slots rfl rfl ⟨hR, hV, hL, ho, hk.cons (ho.at hv)⟩
  rcases zrv_ref hF hg with h | ⟨q, h⟩
  · rw [List.map_cons, h] at K
    rw [h] at hlv
    exact lv_aloadN hx hb hd hlv K
  · rw [List.map_cons, h] at K
    rw [h] at hlv
    exact lv_aload hx hb hd hlv K
theorem zi_istore_n (C : zCX p s m args meth c E k) {f : Fin 4} (hf : (f : Nat) = a) (hd : decode (zby k) pc = .ok (.istore_n f, 1)) (hs : z_step (7, pc + 1, a, b, ts) lo st T V = some (.inl (pc', lo', st', T', V'))) (S : zSt E s T V H locs ls lo st) (kk : zK p l e R s m args below meth c Q E pc' lo' st' T T' V' cells slots) : W p l e R s m args below meth c H locs cells slots Q (F0 m pc ls (st.map (rv E))) := by
  obtain ⟨hx, hb, hml, hown, hts, hKK, hini⟩ := C
  obtain ⟨hR, hV, hL, ho, hk⟩ := S
  have hF := hKK.2.2.2.2.2.2.1.2.2
  simp only [z_step] at hs
  obtain ⟨v, s0, rfl, hq, ⟨hg, hg2⟩, rfl, rfl, rfl, rfl, rfl⟩ := zv_st1 hs
  obtain ⟨t, x⟩ := v
  have hq : t = 0 := by simpa using hq
  subst hq
  refine lv_istore_n (x := Int32.ofInt x) hx hb hd hf hL.has hg rfl (fun ls' hl => ?_)
  exact kk _ _ _ _ _ rfl rfl ⟨hR, hV, zLoc.st1 (v := (0, x)) hF hl hg2, ho.set hk.hd a, hk.tl⟩
theorem zi_istore (C : zCX p s m args meth c E k) (hd : decode (zby k) pc = .ok (.istore a, 2)) (hs : z_step (7, pc + 2, a, b, ts) lo st T V = some (.inl (pc', lo', st', T', V'))) (S : zSt E s T V H locs ls lo st) (kk : zK p l e R s m args below meth c Q E pc' lo' st' T T' V' cells slots) : W p l e R s m args below meth c H locs cells slots Q (F0 m pc ls (st.map (rv E))) := by
  obtain ⟨hx, hb, hml, hown, hts, hKK, hini⟩ := C
  obtain ⟨hR, hV, hL, ho, hk⟩ := S
  have hF := hKK.2.2.2.2.2.2.1.2.2
  simp only [z_step] at hs
  obtain ⟨v, s0, rfl, hq, ⟨hg, hg2⟩, rfl, rfl, rfl, rfl, rfl⟩ := zv_st1 hs
  obtain ⟨t, x⟩ := v
  have hq : t = 0 := by simpa using hq
  subst hq
  refine lv_istore (x := Int32.ofInt x) hx hb hd hL.has hg rfl (fun ls' hl => ?_)
  exact kk _ _ _ _ _ rfl rfl ⟨hR, hV, zLoc.st1 (v := (0, x)) hF hl hg2, ho.set hk.hd a, hk.tl⟩
theorem zi_lstore_n (C : zCX p s m args meth c E k) {f : Fin 4} (hf : (f : Nat) = a) (hd : decode (zby k) pc = .ok (.lstore_n f, 1)) (hs : z_step (8, pc + 1, a, b, ts) lo st T V = some (.inl (pc', lo', st', T', V'))) (S : zSt E s T V H locs ls lo st) (kk : zK p l e R s m args below meth c Q E pc' lo' st' T T' V' cells slots) : W p l e R s m args below meth c H locs cells slots Q (F0 m pc ls (st.map (rv E))) := by
  obtain ⟨hx, hb, hml, hown, hts, hKK, hini⟩ := C
  obtain ⟨hR, hV, hL, ho, hk⟩ := S
  have hF := hKK.2.2.2.2.2.2.1.2.2
  simp only [z_step] at hs
  obtain ⟨x, s0, rfl, ⟨hg, hg2⟩, rfl, rfl, rfl, rfl, rfl⟩ := zv_st2 hs
  refine lv_lstore_n (x := Int64.ofInt x) hx hb hd hf hL.has hg rfl (fun ls' hl => ?_)
  exact kk _ _ _ _ _ rfl rfl ⟨hR, hV, zLoc.st2 (v := (1, x)) hF hl hg2, (ho.set hk.hd a).set (zokr (by decide)) (a + 1), hk.tl⟩
theorem zi_lstore (C : zCX p s m args meth c E k) (hd : decode (zby k) pc = .ok (.lstore a, 2)) (hs : z_step (8, pc + 2, a, b, ts) lo st T V = some (.inl (pc', lo', st', T', V'))) (S : zSt E s T V H locs ls lo st) (kk : zK p l e R s m args below meth c Q E pc' lo' st' T T' V' cells slots) : W p l e R s m args below meth c H locs cells slots Q (F0 m pc ls (st.map (rv E))) := by
  obtain ⟨hx, hb, hml, hown, hts, hKK, hini⟩ := C
  obtain ⟨hR, hV, hL, ho, hk⟩ := S
  have hF := hKK.2.2.2.2.2.2.1.2.2
  simp only [z_step] at hs
  obtain ⟨x, s0, rfl, ⟨hg, hg2⟩, rfl, rfl, rfl, rfl, rfl⟩ := zv_st2 hs
  refine lv_lstore (x := Int64.ofInt x) hx hb hd hL.has hg rfl (fun ls' hl => ?_)
  exact kk _ _ _ _ _ rfl rfl ⟨hR, hV, zLoc.st2 (v := (1, x)) hF hl hg2, (ho.set hk.hd a).set (zokr (by decide)) (a + 1), hk.tl⟩
theorem zi_astore_n (C : zCX p s m args meth c E k) {f : Fin 4} (hf : (f : Nat) = a) (hd : decode (zby k) pc = .ok (.astore_n f, 1)) (hs : z_step (9, pc + 1, a, b, ts) lo st T V = some (.inl (pc', lo', st', T', V'))) (S : zSt E s T V H locs ls lo st) (kk : zK p l e R s m args below meth c Q E pc' lo' st' T T' V' cells slots) : W p l e R s m args below meth c H locs cells slots Q (F0 m pc ls (st.map (rv E))) := by
  obtain ⟨hx, hb, hml, hown, hts, hKK, hini⟩ := C
  obtain ⟨hR, hV, hL, ho, hk⟩ := S
  have hF := hKK.2.2.2.2.2.2.1.2.2
  simp only [z_step] at hs
  obtain ⟨v, s0, rfl, hq, ⟨hg, hg2⟩, rfl, rfl, rfl, rfl, rfl⟩ := zv_st1 hs
  obtain ⟨t, x⟩ := v
  have hq : t = 2 := by simpa using hq
  subst hq
  rcases zrv_ref hF (v := (2, x)) ⟨show 2 ≤ 2 by decide, show 2 ≤ 6 by decide⟩ with h | ⟨q, h⟩
  · rw [List.map_cons, h]
    refine lv_astore_nN hx hb hd hf hL.has hg rfl (fun ls' hl => ?_)
    rw [← h] at hl
    exact kk _ _ _ _ _ rfl rfl ⟨hR, hV, zLoc.st1 (v := (2, x)) hF hl hg2, ho.set hk.hd a, hk.tl⟩
  · rw [List.map_cons, h]
    refine lv_astore_n hx hb hd hf hL.has hg rfl (fun ls' hl => ?_)
    rw [← h] at hl
    exact kk _ _ _ _ _ rfl rfl ⟨hR, hV, zLoc.st1 (v := (2, x)) hF hl hg2, ho.set hk.hd a, hk.tl⟩
theorem zi_astore (C : zCX p s m args meth c E k) (hd : decode (zby k) pc = .ok (.astore a, 2)) (hs : z_step (9, pc + 2, a, b, ts) lo st T V = some (.inl (pc', lo', st', T', V'))) (S : zSt E s T V H locs ls lo st) (kk : zK p l e R s m args below meth c Q E pc' lo' st' T T' V' cells slots) : W p l e R s m args below meth c H locs cells slots Q (F0 m pc ls (st.map (rv E))) := by
  obtain ⟨hx, hb, hml, hown, hts, hKK, hini⟩ := C
  obtain ⟨hR, hV, hL, ho, hk⟩ := S
  have hF := hKK.2.2.2.2.2.2.1.2.2
  simp only [z_step] at hs
  obtain ⟨v, s0, rfl, hq, ⟨hg, hg2⟩, rfl, rfl, rfl, rfl, rfl⟩ := zv_st1 hs
  obtain ⟨t, x⟩ := v
  have hq : t = 2 := by simpa using hq
  subst hq
  rcases zrv_ref hF (v := (2, x)) ⟨show 2 ≤ 2 by decide, show 2 ≤ 6 by decide⟩ with h | ⟨q, h⟩
  · rw [List.map_cons, h]
    refine lv_astoreN hx hb hd hL.has hg rfl (fun ls' hl => ?_)
    rw [← h] at hl
    exact kk _ _ _ _ _ rfl rfl ⟨hR, hV, zLoc.st1 (v := (2, x)) hF hl hg2, ho.set hk.hd a, hk.tl⟩
  · rw [List.map_cons, h]
    refine lv_astore hx hb hd hL.has hg rfl (fun ls' hl => ?_)
    rw [← h] at hl
    exact kk _ _ _ _ _ rfl rfl ⟨hR, hV, zLoc.st1 (v := (2, x)) hF hl hg2, ho.set hk.hd a, hk.tl⟩
theorem zi_iinc (C : zCX p s m args meth c E k) (hd : decode (zby k) pc = .ok (.iinc a b, 3)) (hs : z_step (10, pc + 3, a, b, ts) lo st T V = some (.inl (pc', lo', st', T', V'))) (S : zSt E s T V H locs ls lo st) (kk : zK p l e R s m args below meth c Q E pc' lo' st' T T' V' cells slots) : W p l e R s m args below meth c H locs cells slots Q (F0 m pc ls (st.map (rv E))) := by
  obtain ⟨hx, hb, hml, hown, hts, hKK, hini⟩ := C
  obtain ⟨hR, hV, hL, ho, hk⟩ := S
  have hF := hKK.2.2.2.2.2.2.1.2.2
  simp only [z_step] at hs
  obtain ⟨x, hv, hg, hg2, rfl, rfl, rfl, rfl, rfl⟩ := zv_inc hs
  obtain ⟨j, hj⟩ := List.getElem?_of_mem (zlvs_mem.mpr ⟨(0, x), hv, show ¬ (0 : Nat) = 9 by decide, rfl⟩ : (a, rv E (0, x)) ∈ zlvs E lo)
  refine lv_iinc (v := Int32.ofInt (x + b)) hx hb hd hL.has hj (by rw [zadd32]) (List.getElem?_eq_some_iff.mp hv).1 rfl (fun ls' hl => ?_)
  exact kk _ _ _ _ _ rfl rfl ⟨hR, hV, zLoc.st1 (v := (0, x + b)) hF hl hg2, ho.set (zok0 hg) a, hk⟩
theorem zi_ifeq (C : zCX p s m args meth c E k) {off : Int} (ht : (pc : Int) + off = (a : Int)) (hd : decode (zby k) pc = .ok (.ifCond .eq off, 3)) (hs : z_step (40, pc + 3, a, b, ts) lo st T V = some (.inl (pc', lo', st', T', V'))) (S : zSt E s T V H locs ls lo st) (kk : zK p l e R s m args below meth c Q E pc' lo' st' T T' V' cells slots) : W p l e R s m args below meth c H locs cells slots Q (F0 m pc ls (st.map (rv E))) := by
  obtain ⟨hx, hb, hml, hown, hts, hKK, hini⟩ := C
  obtain ⟨hR, hV, hL, ho, hk⟩ := S
  have hF := hKK.2.2.2.2.2.2.1.2.2
  simp only [z_step] at hs
  obtain ⟨x, s0, rfl, hg, rfl, rfl, rfl, rfl⟩ := zv_if1 hs
  have hxx := hk.hd.1 rfl
  have hc : Int32.ofInt x = 0 ↔ x = 0 := by rw [z0_32]; exact zeq32 hxx zz32
  refine lv_if_eq (tgt := a) hx hb hd ht (fun h => ?_) (fun h => ?_)
  · rcases hg with ⟨g1, rfl⟩ | ⟨g1, rfl⟩
    · exact kk _ _ _ _ _ rfl rfl ⟨hR, hV, hL, ho, hk.tl⟩
    · exact absurd (hc.mp h) g1
  · rcases hg with ⟨g1, rfl⟩ | ⟨g1, rfl⟩
    · exact absurd (hc.mpr g1) (by first | exact h | exact fun q => q h)
    · exact kk _ _ _ _ _ rfl rfl ⟨hR, hV, hL, ho, hk.tl⟩
theorem zi_ifne (C : zCX p s m args meth c E k) {off : Int} (ht : (pc : Int) + off = (a : Int)) (hd : decode (zby k) pc = .ok (.ifCond .ne off, 3)) (hs : z_step (41, pc + 3, a, b, ts) lo st T V = some (.inl (pc', lo', st', T', V'))) (S : zSt E s T V H locs ls lo st) (kk : zK p l e R s m args below meth c Q E pc' lo' st' T T' V' cells slots) : W p l e R s m args below meth c H locs cells slots Q (F0 m pc ls (st.map (rv E))) := by
  obtain ⟨hx, hb, hml, hown, hts, hKK, hini⟩ := C
  obtain ⟨hR, hV, hL, ho, hk⟩ := S
  have hF := hKK.2.2.2.2.2.2.1.2.2
  simp only [z_step] at hs
  obtain ⟨x, s0, rfl, hg, rfl, rfl, rfl, rfl⟩ := zv_if1 hs
  have hxx := hk.hd.1 rfl
  have hc : ¬ Int32.ofInt x = 0 ↔ ¬ x = 0 := by rw [z0_32, zeq32 hxx zz32]
  refine lv_if_ne (tgt := a) hx hb hd ht (fun h => ?_) (fun h => ?_)
  · rcases hg with ⟨g1, rfl⟩ | ⟨g1, rfl⟩
    · exact kk _ _ _ _ _ rfl rfl ⟨hR, hV, hL, ho, hk.tl⟩
    · exact absurd (hc.mp h) g1
  · rcases hg with ⟨g1, rfl⟩ | ⟨g1, rfl⟩
    · exact absurd (hc.mpr g1) (by first | exact h | exact fun q => q h)
    · exact kk _ _ _ _ _ rfl rfl ⟨hR, hV, hL, ho, hk.tl⟩
theorem zi_iflt (C : zCX p s m args meth c E k) {off : Int} (ht : (pc : Int) + off = (a : Int)) (hd : decode (zby k) pc = .ok (.ifCond .lt off, 3)) (hs : z_step (42, pc + 3, a, b, ts) lo st T V = some (.inl (pc', lo', st', T', V'))) (S : zSt E s T V H locs ls lo st) (kk : zK p l e R s m args below meth c Q E pc' lo' st' T T' V' cells slots) : W p l e R s m args below meth c H locs cells slots Q (F0 m pc ls (st.map (rv E))) := by
  obtain ⟨hx, hb, hml, hown, hts, hKK, hini⟩ := C
  obtain ⟨hR, hV, hL, ho, hk⟩ := S
  have hF := hKK.2.2.2.2.2.2.1.2.2
  simp only [z_step] at hs
  obtain ⟨x, s0, rfl, hg, rfl, rfl, rfl, rfl⟩ := zv_if1 hs
  have hxx := hk.hd.1 rfl
  have hc : Int32.ofInt x < 0 ↔ x < 0 := by rw [z0_32]; exact zlt32 hxx zz32
  refine lv_if_lt (tgt := a) hx hb hd ht (fun h => ?_) (fun h => ?_)
  · rcases hg with ⟨g1, rfl⟩ | ⟨g1, rfl⟩
    · exact kk _ _ _ _ _ rfl rfl ⟨hR, hV, hL, ho, hk.tl⟩
    · exact absurd (hc.mp h) g1
  · rcases hg with ⟨g1, rfl⟩ | ⟨g1, rfl⟩
    · exact absurd (hc.mpr g1) (by first | exact h | exact fun q => q h)
    · exact kk _ _ _ _ _ rfl rfl ⟨hR, hV, hL, ho, hk.tl⟩
theorem zi_ifge (C : zCX p s m args meth c E k) {off : Int} (ht : (pc : Int) + off = (a : Int)) (hd : decode (zby k) pc = .ok (.ifCond .ge off, 3)) (hs : z_step (43, pc + 3, a, b, ts) lo st T V = some (.inl (pc', lo', st', T', V'))) (S : zSt E s T V H locs ls lo st) (kk : zK p l e R s m args below meth c Q E pc' lo' st' T T' V' cells slots) : W p l e R s m args below meth c H locs cells slots Q (F0 m pc ls (st.map (rv E))) := by
  obtain ⟨hx, hb, hml, hown, hts, hKK, hini⟩ := C
  obtain ⟨hR, hV, hL, ho, hk⟩ := S
  have hF := hKK.2.2.2.2.2.2.1.2.2
  simp only [z_step] at hs
  obtain ⟨x, s0, rfl, hg, rfl, rfl, rfl, rfl⟩ := zv_if1 hs
  have hxx := hk.hd.1 rfl
  have hc : 0 ≤ Int32.ofInt x ↔ 0 ≤ x := by rw [z0_32]; exact zle32 zz32 hxx
  refine lv_if_ge (tgt := a) hx hb hd ht (fun h => ?_) (fun h => ?_)
  · rcases hg with ⟨g1, rfl⟩ | ⟨g1, rfl⟩
    · exact kk _ _ _ _ _ rfl rfl ⟨hR, hV, hL, ho, hk.tl⟩
    · exact absurd (hc.mp h) g1
  · rcases hg with ⟨g1, rfl⟩ | ⟨g1, rfl⟩
    · exact absurd (hc.mpr g1) (by first | exact h | exact fun q => q h)
    · exact kk _ _ _ _ _ rfl rfl ⟨hR, hV, hL, ho, hk.tl⟩
theorem zi_ifgt (C : zCX p s m args meth c E k) {off : Int} (ht : (pc : Int) + off = (a : Int)) (hd : decode (zby k) pc = .ok (.ifCond .gt off, 3)) (hs : z_step (44, pc + 3, a, b, ts) lo st T V = some (.inl (pc', lo', st', T', V'))) (S : zSt E s T V H locs ls lo st) (kk : zK p l e R s m args below meth c Q E pc' lo' st' T T' V' cells slots) : W p l e R s m args below meth c H locs cells slots Q (F0 m pc ls (st.map (rv E))) := by
  obtain ⟨hx, hb, hml, hown, hts, hKK, hini⟩ := C
  obtain ⟨hR, hV, hL, ho, hk⟩ := S
  have hF := hKK.2.2.2.2.2.2.1.2.2
  simp only [z_step] at hs
  obtain ⟨x, s0, rfl, hg, rfl, rfl, rfl, rfl⟩ := zv_if1 hs
  have hxx := hk.hd.1 rfl
  have hc : 0 < Int32.ofInt x ↔ 0 < x := by rw [z0_32]; exact zlt32 zz32 hxx
  refine lv_if_gt (tgt := a) hx hb hd ht (fun h => ?_) (fun h => ?_)
  · rcases hg with ⟨g1, rfl⟩ | ⟨g1, rfl⟩
    · exact kk _ _ _ _ _ rfl rfl ⟨hR, hV, hL, ho, hk.tl⟩
    · exact absurd (hc.mp h) g1
  · rcases hg with ⟨g1, rfl⟩ | ⟨g1, rfl⟩
    · exact absurd (hc.mpr g1) (by first | exact h | exact fun q => q h)
    · exact kk _ _ _ _ _ rfl rfl ⟨hR, hV, hL, ho, hk.tl⟩
theorem zi_ifle (C : zCX p s m args meth c E k) {off : Int} (ht : (pc : Int) + off = (a : Int)) (hd : decode (zby k) pc = .ok (.ifCond .le off, 3)) (hs : z_step (45, pc + 3, a, b, ts) lo st T V = some (.inl (pc', lo', st', T', V'))) (S : zSt E s T V H locs ls lo st) (kk : zK p l e R s m args below meth c Q E pc' lo' st' T T' V' cells slots) : W p l e R s m args below meth c H locs cells slots Q (F0 m pc ls (st.map (rv E))) := by
  obtain ⟨hx, hb, hml, hown, hts, hKK, hini⟩ := C
  obtain ⟨hR, hV, hL, ho, hk⟩ := S
  have hF := hKK.2.2.2.2.2.2.1.2.2
  simp only [z_step] at hs
  obtain ⟨x, s0, rfl, hg, rfl, rfl, rfl, rfl⟩ := zv_if1 hs
  have hxx := hk.hd.1 rfl
  have hc : Int32.ofInt x ≤ 0 ↔ x ≤ 0 := by rw [z0_32]; exact zle32 hxx zz32
  refine lv_if_le (tgt := a) hx hb hd ht (fun h => ?_) (fun h => ?_)
  · rcases hg with ⟨g1, rfl⟩ | ⟨g1, rfl⟩
    · exact kk _ _ _ _ _ rfl rfl ⟨hR, hV, hL, ho, hk.tl⟩
    · exact absurd (hc.mp h) g1
  · rcases hg with ⟨g1, rfl⟩ | ⟨g1, rfl⟩
    · exact absurd (hc.mpr g1) (by first | exact h | exact fun q => q h)
    · exact kk _ _ _ _ _ rfl rfl ⟨hR, hV, hL, ho, hk.tl⟩
theorem zi_icmpeq (C : zCX p s m args meth c E k) {off : Int} (ht : (pc : Int) + off = (a : Int)) (hd : decode (zby k) pc = .ok (.if_icmp .eq off, 3)) (hs : z_step (46, pc + 3, a, b, ts) lo st T V = some (.inl (pc', lo', st', T', V'))) (S : zSt E s T V H locs ls lo st) (kk : zK p l e R s m args below meth c Q E pc' lo' st' T T' V' cells slots) : W p l e R s m args below meth c H locs cells slots Q (F0 m pc ls (st.map (rv E))) := by
  obtain ⟨hx, hb, hml, hown, hts, hKK, hini⟩ := C
  obtain ⟨hR, hV, hL, ho, hk⟩ := S
  have hF := hKK.2.2.2.2.2.2.1.2.2
  simp only [z_step] at hs
  obtain ⟨x, y, s0, rfl, hg, rfl, rfl, rfl, rfl⟩ := zv_if2 hs
  have hy := hk.hd.1 rfl
  have hxx := hk.tl.hd.1 rfl
  have hc : Int32.ofInt x = Int32.ofInt y ↔ x = y := zeq32 hxx hy
  refine lv_icmp_eq (tgt := a) hx hb hd ht (fun h => ?_) (fun h => ?_)
  · rcases hg with ⟨g1, rfl⟩ | ⟨g1, rfl⟩
    · exact kk _ _ _ _ _ rfl rfl ⟨hR, hV, hL, ho, hk.tl.tl⟩
    · exact absurd (hc.mp h) g1
  · rcases hg with ⟨g1, rfl⟩ | ⟨g1, rfl⟩
    · exact absurd (hc.mpr g1) (by first | exact h | exact fun q => q h)
    · exact kk _ _ _ _ _ rfl rfl ⟨hR, hV, hL, ho, hk.tl.tl⟩
theorem zi_icmpne (C : zCX p s m args meth c E k) {off : Int} (ht : (pc : Int) + off = (a : Int)) (hd : decode (zby k) pc = .ok (.if_icmp .ne off, 3)) (hs : z_step (47, pc + 3, a, b, ts) lo st T V = some (.inl (pc', lo', st', T', V'))) (S : zSt E s T V H locs ls lo st) (kk : zK p l e R s m args below meth c Q E pc' lo' st' T T' V' cells slots) : W p l e R s m args below meth c H locs cells slots Q (F0 m pc ls (st.map (rv E))) := by
  obtain ⟨hx, hb, hml, hown, hts, hKK, hini⟩ := C
  obtain ⟨hR, hV, hL, ho, hk⟩ := S
  have hF := hKK.2.2.2.2.2.2.1.2.2
  simp only [z_step] at hs
  obtain ⟨x, y, s0, rfl, hg, rfl, rfl, rfl, rfl⟩ := zv_if2 hs
  have hy := hk.hd.1 rfl
  have hxx := hk.tl.hd.1 rfl
  have hc : ¬ Int32.ofInt x = Int32.ofInt y ↔ ¬ x = y := by rw [zeq32 hxx hy]
  refine lv_icmp_ne (tgt := a) hx hb hd ht (fun h => ?_) (fun h => ?_)
  · rcases hg with ⟨g1, rfl⟩ | ⟨g1, rfl⟩
    · exact kk _ _ _ _ _ rfl rfl ⟨hR, hV, hL, ho, hk.tl.tl⟩
    · exact absurd (hc.mp h) g1
  · rcases hg with ⟨g1, rfl⟩ | ⟨g1, rfl⟩
    · exact absurd (hc.mpr g1) (by first | exact h | exact fun q => q h)
    · exact kk _ _ _ _ _ rfl rfl ⟨hR, hV, hL, ho, hk.tl.tl⟩
theorem zi_icmplt (C : zCX p s m args meth c E k) {off : Int} (ht : (pc : Int) + off = (a : Int)) (hd : decode (zby k) pc = .ok (.if_icmp .lt off, 3)) (hs : z_step (48, pc + 3, a, b, ts) lo st T V = some (.inl (pc', lo', st', T', V'))) (S : zSt E s T V H locs ls lo st) (kk : zK p l e R s m args below meth c Q E pc' lo' st' T T' V' cells slots) : W p l e R s m args below meth c H locs cells slots Q (F0 m pc ls (st.map (rv E))) := by
  obtain ⟨hx, hb, hml, hown, hts, hKK, hini⟩ := C
  obtain ⟨hR, hV, hL, ho, hk⟩ := S
  have hF := hKK.2.2.2.2.2.2.1.2.2
  simp only [z_step] at hs
  obtain ⟨x, y, s0, rfl, hg, rfl, rfl, rfl, rfl⟩ := zv_if2 hs
  have hy := hk.hd.1 rfl
  have hxx := hk.tl.hd.1 rfl
  have hc : Int32.ofInt x < Int32.ofInt y ↔ x < y := zlt32 hxx hy
  refine lv_icmp_lt (tgt := a) hx hb hd ht (fun h => ?_) (fun h => ?_)
  · rcases hg with ⟨g1, rfl⟩ | ⟨g1, rfl⟩
    · exact kk _ _ _ _ _ rfl rfl ⟨hR, hV, hL, ho, hk.tl.tl⟩
    · exact absurd (hc.mp h) g1
  · rcases hg with ⟨g1, rfl⟩ | ⟨g1, rfl⟩
    · exact absurd (hc.mpr g1) (by first | exact h | exact fun q => q h)
    · exact kk _ _ _ _ _ rfl rfl ⟨hR, hV, hL, ho, hk.tl.tl⟩
theorem zi_icmpge (C : zCX p s m args meth c E k) {off : Int} (ht : (pc : Int) + off = (a : Int)) (hd : decode (zby k) pc = .ok (.if_icmp .ge off, 3)) (hs : z_step (49, pc + 3, a, b, ts) lo st T V = some (.inl (pc', lo', st', T', V'))) (S : zSt E s T V H locs ls lo st) (kk : zK p l e R s m args below meth c Q E pc' lo' st' T T' V' cells slots) : W p l e R s m args below meth c H locs cells slots Q (F0 m pc ls (st.map (rv E))) := by
  obtain ⟨hx, hb, hml, hown, hts, hKK, hini⟩ := C
  obtain ⟨hR, hV, hL, ho, hk⟩ := S
  have hF := hKK.2.2.2.2.2.2.1.2.2
  simp only [z_step] at hs
  obtain ⟨x, y, s0, rfl, hg, rfl, rfl, rfl, rfl⟩ := zv_if2 hs
  have hy := hk.hd.1 rfl
  have hxx := hk.tl.hd.1 rfl
  have hc : Int32.ofInt y ≤ Int32.ofInt x ↔ y ≤ x := zle32 hy hxx
  refine lv_icmp_ge (tgt := a) hx hb hd ht (fun h => ?_) (fun h => ?_)
  · rcases hg with ⟨g1, rfl⟩ | ⟨g1, rfl⟩
    · exact kk _ _ _ _ _ rfl rfl ⟨hR, hV, hL, ho, hk.tl.tl⟩
    · exact absurd (hc.mp h) g1
  · rcases hg with ⟨g1, rfl⟩ | ⟨g1, rfl⟩
    · exact absurd (hc.mpr g1) (by first | exact h | exact fun q => q h)
    · exact kk _ _ _ _ _ rfl rfl ⟨hR, hV, hL, ho, hk.tl.tl⟩
theorem zi_icmpgt (C : zCX p s m args meth c E k) {off : Int} (ht : (pc : Int) + off = (a : Int)) (hd : decode (zby k) pc = .ok (.if_icmp .gt off, 3)) (hs : z_step (50, pc + 3, a, b, ts) lo st T V = some (.inl (pc', lo', st', T', V'))) (S : zSt E s T V H locs ls lo st) (kk : zK p l e R s m args below meth c Q E pc' lo' st' T T' V' cells slots) : W p l e R s m args below meth c H locs cells slots Q (F0 m pc ls (st.map (rv E))) := by
  obtain ⟨hx, hb, hml, hown, hts, hKK, hini⟩ := C
  obtain ⟨hR, hV, hL, ho, hk⟩ := S
  have hF := hKK.2.2.2.2.2.2.1.2.2
  simp only [z_step] at hs
  obtain ⟨x, y, s0, rfl, hg, rfl, rfl, rfl, rfl⟩ := zv_if2 hs
  have hy := hk.hd.1 rfl
  have hxx := hk.tl.hd.1 rfl
  have hc : Int32.ofInt y < Int32.ofInt x ↔ y < x := zlt32 hy hxx
  refine lv_icmp_gt (tgt := a) hx hb hd ht (fun h => ?_) (fun h => ?_)
  · rcases hg with ⟨g1, rfl⟩ | ⟨g1, rfl⟩
    · exact kk _ _ _ _ _ rfl rfl ⟨hR, hV, hL, ho, hk.tl.tl⟩
    · exact absurd (hc.mp h) g1
  · rcases hg with ⟨g1, rfl⟩ | ⟨g1, rfl⟩
    · exact absurd (hc.mpr g1) (by first | exact h | exact fun q => q h)
    · exact kk _ _ _ _ _ rfl rfl ⟨hR, hV, hL, ho, hk.tl.tl⟩
theorem zi_icmple (C : zCX p s m args meth c E k) {off : Int} (ht : (pc : Int) + off = (a : Int)) (hd : decode (zby k) pc = .ok (.if_icmp .le off, 3)) (hs : z_step (51, pc + 3, a, b, ts) lo st T V = some (.inl (pc', lo', st', T', V'))) (S : zSt E s T V H locs ls lo st) (kk : zK p l e R s m args below meth c Q E pc' lo' st' T T' V' cells slots) : W p l e R s m args below meth c H locs cells slots Q (F0 m pc ls (st.map (rv E))) := by
  obtain ⟨hx, hb, hml, hown, hts, hKK, hini⟩ := C
  obtain ⟨hR, hV, hL, ho, hk⟩ := S
  have hF := hKK.2.2.2.2.2.2.1.2.2
  simp only [z_step] at hs
  obtain ⟨x, y, s0, rfl, hg, rfl, rfl, rfl, rfl⟩ := zv_if2 hs
  have hy := hk.hd.1 rfl
  have hxx := hk.tl.hd.1 rfl
  have hc : Int32.ofInt x ≤ Int32.ofInt y ↔ x ≤ y := zle32 hxx hy
  refine lv_icmp_le (tgt := a) hx hb hd ht (fun h => ?_) (fun h => ?_)
  · rcases hg with ⟨g1, rfl⟩ | ⟨g1, rfl⟩
    · exact kk _ _ _ _ _ rfl rfl ⟨hR, hV, hL, ho, hk.tl.tl⟩
    · exact absurd (hc.mp h) g1
  · rcases hg with ⟨g1, rfl⟩ | ⟨g1, rfl⟩
    · exact absurd (hc.mpr g1) (by first | exact h | exact fun q => q h)
    · exact kk _ _ _ _ _ rfl rfl ⟨hR, hV, hL, ho, hk.tl.tl⟩
theorem zi_ifnonnull (C : zCX p s m args meth c E k) {off : Int} (ht : (pc : Int) + off = (a : Int)) (hd : decode (zby k) pc = .ok (.ifnonnull off, 3)) (hs : z_step (52, pc + 3, a, b, ts) lo st T V = some (.inl (pc', lo', st', T', V'))) (S : zSt E s T V H locs ls lo st) (kk : zK p l e R s m args below meth c Q E pc' lo' st' T T' V' cells slots) : W p l e R s m args below meth c H locs cells slots Q (F0 m pc ls (st.map (rv E))) := by
  obtain ⟨hx, hb, hml, hown, hts, hKK, hini⟩ := C
  obtain ⟨hR, hV, hL, ho, hk⟩ := S
  have hF := hKK.2.2.2.2.2.2.1.2.2
  simp only [z_step] at hs
  obtain ⟨x, s0, rfl, hg, rfl, rfl, rfl, rfl⟩ := zv_nn hs
  rcases hg with ⟨g1, rfl⟩ | ⟨g1, rfl⟩
  · rw [List.map_cons, show rv E (2, x) = .ref (eZ E + x.toNat) from zrr_pos g1]
    exact lv_ifnonnull hx hb hd ht (kk _ _ _ _ _ rfl rfl ⟨hR, hV, hL, ho, hk.tl⟩)
  · rw [List.map_cons, show rv E (2, x) = .null from if_pos (by omega)]
    exact lv_ifnonnullN hx hb hd (kk _ _ _ _ _ rfl rfl ⟨hR, hV, hL, ho, hk.tl⟩)
end ZSND
