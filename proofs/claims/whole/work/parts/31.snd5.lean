/-! Math, Object.<init>, arraycopy, statics, strings -/
theorem z_mcodes : Jvm.Cond.code Lib.Math.max.name Lib.Math.max.code 2 (some .int) ∈ zWS ∧ Jvm.Cond.code Lib.Math.min.name Lib.Math.min.code 2 (some .int) ∈ zWS ∧ Jvm.Cond.code Lib.MathLoose.min_long.x Lib.MathLoose.min_long.code 4 (some .long) ∈ zWS ∧ Jvm.Cond.code Lib.objectInit ⟨#[0xb1]⟩ 1 none ∈ zWS := by
  have key : ∀ w, k2_isCode w = true → w ∈ z_ms.map (fun q => Jvm.Cond.code q.1 q.2.1 q.2.2.1 q.2.2.2) → w ∈ zWS := by
    intro w h1 h2
    rw [← z_codes] at h2
    refine List.mem_filter.mpr ⟨(List.mem_filter.mp h2).1, ?_⟩
    cases w <;> simp [k2_isCode] at h1
    rfl
  refine ⟨key _ rfl ?_, key _ rfl ?_, key _ rfl ?_, key _ rfl ?_⟩
  · exact List.mem_map.mpr ⟨_, List.mem_of_getElem? (i := 13) rfl, rfl⟩
  · exact List.mem_map.mpr ⟨_, List.mem_of_getElem? (i := 34) rfl, rfl⟩
  · exact List.mem_map.mpr ⟨_, List.mem_of_getElem? (i := 95) rfl, rfl⟩
  · exact List.mem_map.mpr ⟨_, List.mem_of_getElem? (i := 1) rfl, rfl⟩
section ZSN5
variable {p : Program} {l : Launch} {e : Env} {R : Room} {s : State} {m : MethodId} {args : Array Value} {below : List Frame} {meth : Method} {c : Code} {H : Heap} {locs : List Loc} {cells slots : Nat} {Q : State → Prop} {E : zEn} {k pc pc' a : Nat} {b : Int} {ts : List Nat} {ls : Array Slot} {lo st lo' st' : List zV} {T T' : zT} {V V' : zM}
theorem zi_mmax (C : zCX p s m args meth c E k) (hlen : lo.length = zmL k) {ix : Nat} (hv : Jvm.Cond.methodLink (zCn (zown k)) ix Lib.Math.max.name ∈ zWS) (hd : decode (zby k) pc = .ok (.invokestatic ix, 3)) (hs : z_step (84, pc + 3, a, b, ts) lo st T V = some (.inl (pc', lo', st', T', V'))) (hRm : 1 ≤ R.frames ∧ 36 ≤ R.locals) (hcs : cells ≤ R.cells ∧ slots ≤ R.slots) (S : zSt E s T V H locs ls lo st) (kk : zK p l e R s m args below meth c Q E pc' lo' st' T T' V' cells slots) : W p l e R s m args below meth c H locs cells slots Q (F0 m pc ls (st.map (rv E))) := by
  obtain ⟨hx, hb, hml, hown, hts, hKK, hini⟩ := C
  obtain ⟨hR, hV, hL, ho, hk⟩ := S
  have hF := hKK.2.2.2.2.2.2.1.2.2
  simp only [z_step] at hs
  obtain ⟨x, y, s0, rfl, hg, rfl, rfl, rfl, rfl, rfl⟩ := zv_mm hs
  have hy := hk.hd.1 rfl
  have hxx := hk.tl.hd.1 rfl
  have hq := zmath_ok
  simp only [Bool.and_eq_true] at hq
  refine va_mmax hx hb (by rw [hml, hL.1, hlen]) hown (hts _ hv) (hts _ (zw_mem hq.1)) (hts _ (zw_mem hq.2.2.2)) (hts _ z_mcodes.1) hRm.1 (by rw [zrv_cats hF]; omega) hcs.1 hcs.2 hd ?_
  have K := kk H locs ls cells slots rfl rfl ⟨hR, hV, hL, ho, hk.tl.tl.cons (zok0 (show z32 (max x y) by have := hxx.1; have := hxx.2; have := hy.1; have := hy.2; constructor <;> omega))⟩
  have e1 : (if Int32.ofInt x < Int32.ofInt y then Int32.ofInt y else Int32.ofInt x) = Int32.ofInt (max x y) := by
    by_cases h : x < y
    · rw [if_pos ((zlt32 hxx hy).mpr h), Int.max_eq_right (by omega)]
    · rw [if_neg (fun q => h ((zlt32 hxx hy).mp q)), Int.max_eq_left (by omega)]
  rw [e1]
  exact K
theorem zi_mmin (C : zCX p s m args meth c E k) (hlen : lo.length = zmL k) {ix : Nat} (hv : Jvm.Cond.methodLink (zCn (zown k)) ix Lib.Math.min.name ∈ zWS) (hd : decode (zby k) pc = .ok (.invokestatic ix, 3)) (hs : z_step (85, pc + 3, a, b, ts) lo st T V = some (.inl (pc', lo', st', T', V'))) (hRm : 1 ≤ R.frames ∧ 36 ≤ R.locals) (hcs : cells ≤ R.cells ∧ slots ≤ R.slots) (S : zSt E s T V H locs ls lo st) (kk : zK p l e R s m args below meth c Q E pc' lo' st' T T' V' cells slots) : W p l e R s m args below meth c H locs cells slots Q (F0 m pc ls (st.map (rv E))) := by
  obtain ⟨hx, hb, hml, hown, hts, hKK, hini⟩ := C
  obtain ⟨hR, hV, hL, ho, hk⟩ := S
  have hF := hKK.2.2.2.2.2.2.1.2.2
  simp only [z_step] at hs
  obtain ⟨x, y, s0, rfl, hg, rfl, rfl, rfl, rfl, rfl⟩ := zv_mm hs
  have hy := hk.hd.1 rfl
  have hxx := hk.tl.hd.1 rfl
  have hq := zmath_ok
  simp only [Bool.and_eq_true] at hq
  refine va_mmin hx hb (by rw [hml, hL.1, hlen]) hown (hts _ hv) (hts _ (zw_mem hq.2.1)) (hts _ (zw_mem hq.2.2.2)) (hts _ z_mcodes.2.1) hRm.1 (by rw [zrv_cats hF]; omega) hcs.1 hcs.2 hd ?_
  have K := kk H locs ls cells slots rfl rfl ⟨hR, hV, hL, ho, hk.tl.tl.cons (zok0 (show z32 (min x y) by have := hxx.1; have := hxx.2; have := hy.1; have := hy.2; constructor <;> omega))⟩
  have e1 : (if Int32.ofInt y < Int32.ofInt x then Int32.ofInt y else Int32.ofInt x) = Int32.ofInt (min x y) := by
    by_cases h : y < x
    · rw [if_pos ((zlt32 hy hxx).mpr h), Int.min_eq_right (by omega)]
    · rw [if_neg (fun q => h ((zlt32 hy hxx).mp q)), Int.min_eq_left (by omega)]
  rw [e1]
  exact K
theorem zi_mminl (C : zCX p s m args meth c E k) (hlen : lo.length = zmL k) {ix : Nat} (hv : Jvm.Cond.methodLink (zCn (zown k)) ix Lib.MathLoose.min_long.x ∈ zWS) (hd : decode (zby k) pc = .ok (.invokestatic ix, 3)) (hs : z_step (86, pc + 3, a, b, ts) lo st T V = some (.inl (pc', lo', st', T', V'))) (hRm : 1 ≤ R.frames ∧ 36 ≤ R.locals) (hcs : cells ≤ R.cells ∧ slots ≤ R.slots) (S : zSt E s T V H locs ls lo st) (kk : zK p l e R s m args below meth c Q E pc' lo' st' T T' V' cells slots) : W p l e R s m args below meth c H locs cells slots Q (F0 m pc ls (st.map (rv E))) := by
  obtain ⟨hx, hb, hml, hown, hts, hKK, hini⟩ := C
  obtain ⟨hR, hV, hL, ho, hk⟩ := S
  have hF := hKK.2.2.2.2.2.2.1.2.2
  simp only [z_step] at hs
  obtain ⟨x, y, s0, rfl, hg, rfl, rfl, rfl, rfl, rfl⟩ := zv_mm hs
  have hy := hk.hd.2 rfl
  have hxx := hk.tl.hd.2 rfl
  have hq := zmath_ok
  simp only [Bool.and_eq_true] at hq
  refine va_mmin_long hx hb (by rw [hml, hL.1, hlen]) hown (hts _ hv) (hts _ (zw_mem hq.2.2.1)) (hts _ (zw_mem hq.2.2.2)) (hts _ z_mcodes.2.2.1) hRm.1 (by rw [zrv_cats hF]; omega) hcs.1 hcs.2 hd ?_
  have K := kk H locs ls cells slots rfl rfl ⟨hR, hV, hL, ho, hk.tl.tl.cons (zok1 (show z64 (min x y) by have := hxx.1; have := hxx.2; have := hy.1; have := hy.2; constructor <;> omega))⟩
  have e1 : (if Int64.ofInt y < Int64.ofInt x then Int64.ofInt y else Int64.ofInt x) = Int64.ofInt (min x y) := by
    by_cases h : y < x
    · rw [if_pos ((zlt64 hy hxx).mpr h), Int.min_eq_right (by omega)]
    · rw [if_neg (fun q => h ((zlt64 hy hxx).mp q)), Int.min_eq_left (by omega)]
  rw [e1]
  exact K
theorem zi_obj (C : zCX p s m args meth c E k) (hlen : lo.length = zmL k) {ix : Nat} (hv : Jvm.Cond.methodLink (zCn (zown k)) ix Lib.objectInit ∈ zWS) (hin : Jvm.Cond.instanceMethod Lib.objectInit ∈ zWS) (hd : decode (zby k) pc = .ok (.invokespecial ix, 3)) (hs : z_step (78, pc + 3, a, b, ts) lo st T V = some (.inl (pc', lo', st', T', V'))) (hRm : 1 ≤ R.frames ∧ 36 ≤ R.locals) (S : zSt E s T V H locs ls lo st) (kk : zK p l e R s m args below meth c Q E pc' lo' st' T T' V' cells slots) : W p l e R s m args below meth c H locs cells slots Q (F0 m pc ls (st.map (rv E))) := by
  obtain ⟨hx, hb, hml, hown, hts, hKK, hini⟩ := C
  obtain ⟨hR, hV, hL, ho, hk⟩ := S
  have hF := hKK.2.2.2.2.2.2.1.2.2
  simp only [z_step] at hs
  obtain ⟨x, s0, rfl, hg, rfl, rfl, rfl, rfl, rfl⟩ := zv_obj hs
  rw [List.map_cons, show rv E (2, x) = .ref (eZ E + x.toNat) from zrr_pos hg.1]
  refine W.objInit hx hb hown (hts _ hv) (hts _ hin) (hts _ z_mcodes.2.2.2) rfl (by rw [hml, ← hlen]; exact hL.1) rfl hd hRm.1 ?_ (kk _ _ _ _ _ rfl rfl ⟨hR, hV, hL, ho, hk.tl⟩)
  rw [zrv_cats hF]
  show 2 * 0 + _ + 12 ≤ _
  omega
theorem zi_stc (C : zCX p s m args meth c E k) {ix : Nat} (hv : Jvm.Cond.fieldLink (zCn (zown k)) ix "java/lang/String" "COMPACT_STRINGS" "Z" ∈ zWS) (hd : decode (zby k) pc = .ok (.getstatic ix, 3)) (hs : z_step (80, pc + 3, a, b, ts) lo st T V = some (.inl (pc', lo', st', T', V'))) (S : zSt E s T V H locs ls lo st) (kk : zK p l e R s m args below meth c Q E pc' lo' st' T T' V' cells slots) : W p l e R s m args below meth c H locs cells slots Q (F0 m pc ls (st.map (rv E))) := by
  obtain ⟨hx, hb, hml, hown, hts, hKK, hini⟩ := C
  obtain ⟨hR, hV, hL, ho, hk⟩ := S
  simp only [z_step] at hs
  obtain ⟨rfl, rfl, rfl, rfl, rfl⟩ := zgo_inv hs
  exact va_gets hx hb hKK.2.2.2.2.2.2.1.1 hV hown (hts _ hv) (fun _ h => h) hd (kk _ _ _ _ _ rfl rfl ⟨hR, hV, hL, ho, hk.cons (zok0 (by decide))⟩)
theorem zi_stf (C : zCX p s m args meth c E k) {ix : Nat} (hv : Jvm.Cond.fieldLink (zCn (zown k)) ix "jdk/internal/util/Preconditions" "SIOOBE_FORMATTER" "Ljava/util/function/BiFunction;" ∈ zWS) (hd : decode (zby k) pc = .ok (.getstatic ix, 3)) (hs : z_step (81, pc + 3, a, b, ts) lo st T V = some (.inl (pc', lo', st', T', V'))) (S : zSt E s T V H locs ls lo st) (kk : zK p l e R s m args below meth c Q E pc' lo' st' T T' V' cells slots) : W p l e R s m args below meth c H locs cells slots Q (F0 m pc ls (st.map (rv E))) := by
  obtain ⟨hx, hb, hml, hown, hts, hKK, hini⟩ := C
  obtain ⟨hR, hV, hL, ho, hk⟩ := S
  simp only [z_step] at hs
  obtain ⟨rfl, rfl, rfl, rfl, rfl⟩ := zgo_inv hs
  exact va_gets hx hb hKK.2.2.2.2.2.2.1.2.1 hV hown (hts _ hv) (fun _ h => h) hd (kk _ _ _ _ _ rfl rfl ⟨hR, hV, hL, ho, hk.cons (zokr (by decide))⟩)
theorem zi_strv (C : zCX p s m args meth c E k) {ix : Nat} (hv : Jvm.Cond.fieldLink (zCn (zown k)) ix "java/lang/String" "value" "[B" ∈ zWS) (hd : decode (zby k) pc = .ok (.getfield ix, 3)) (hs : z_step (82, pc + 3, a, b, ts) lo st T V = some (.inl (pc', lo', st', T', V'))) (S : zSt E s T V H locs ls lo st) (kk : zK p l e R s m args below meth c Q E pc' lo' st' T T' V' cells slots) : W p l e R s m args below meth c H locs cells slots Q (F0 m pc ls (st.map (rv E))) := by
  obtain ⟨hx, hb, hml, hown, hts, hKK, hini⟩ := C
  obtain ⟨hR, hV, hL, ho, hk⟩ := S
  simp only [z_step] at hs
  obtain ⟨x, s0, rfl, hg, rfl, rfl, rfl, rfl, rfl⟩ := zv_strv hs
  obtain ⟨g1, g2, g3, g4⟩ := hKK.2.2.2.2.1.1 x.toNat (by omega)
  exact vk_getf hx hb g3 hV hown (hts _ hv) (fun _ h => h) hd (kk _ _ _ _ _ rfl rfl ⟨hR, hV, hL, ho, hk.tl.cons (zokr (by decide))⟩)
theorem zi_strc (C : zCX p s m args meth c E k) {ix : Nat} (hv : Jvm.Cond.fieldLink (zCn (zown k)) ix "java/lang/String" "coder" "B" ∈ zWS) (hd : decode (zby k) pc = .ok (.getfield ix, 3)) (hs : z_step (83, pc + 3, a, b, ts) lo st T V = some (.inl (pc', lo', st', T', V'))) (S : zSt E s T V H locs ls lo st) (kk : zK p l e R s m args below meth c Q E pc' lo' st' T T' V' cells slots) : W p l e R s m args below meth c H locs cells slots Q (F0 m pc ls (st.map (rv E))) := by
  obtain ⟨hx, hb, hml, hown, hts, hKK, hini⟩ := C
  obtain ⟨hR, hV, hL, ho, hk⟩ := S
  simp only [z_step] at hs
  obtain ⟨x, s0, rfl, hg, rfl, rfl, rfl, rfl, rfl⟩ := zv_strc hs
  obtain ⟨g1, g2, g3, g4⟩ := hKK.2.2.2.2.1.1 x.toNat (by omega)
  exact vk_getf hx hb g2 hV hown (hts _ hv) (fun _ h => h) hd (kk _ _ _ _ _ rfl rfl ⟨hR, hV, hL, ho, hk.tl.cons (zok0 (by decide))⟩)
theorem zcpy_av {t : Nat} (ht : t = 0 ∨ t = 1) {f g p0 p1 : Int → Int} {sp dp n : Int} (h1 : 0 ≤ sp) (h2 : 0 ≤ dp) (h3 : 0 ≤ n) : (fun j : Nat => va_cpy (fun j : Nat => zav E t (p0 (j : Int)) (f (j : Int))) (fun j : Nat => zav E t (p1 (j : Int)) (g (j : Int))) sp.toNat dp.toNat n.toNat j) = fun j : Nat => zav E t (p1 (j : Int)) (zcpy f g sp dp n (j : Int)) := by
  funext j
  unfold va_cpy zcpy
  by_cases hc : dp ≤ (j : Int) ∧ (j : Int) < dp + n
  · rw [if_pos (by omega), if_pos hc]
    show zav E t (p0 ((sp.toNat + (j - dp.toNat) : Nat) : Int)) (f ((sp.toNat + (j - dp.toNat) : Nat) : Int)) = _
    rw [show ((sp.toNat + (j - dp.toNat) : Nat) : Int) = sp + ((j : Int) - dp) by omega]
    rcases ht with rfl | rfl <;> rfl
  · rw [if_neg (by omega), if_neg hc]
theorem zi_cpy (C : zCX p s m args meth c E k) (hlen : lo.length = zmL k) {ix : Nat} (hv : Jvm.Cond.methodLink (zCn (zown k)) ix arraycopyName ∈ zWS) (hd : decode (zby k) pc = .ok (.invokestatic ix, 3)) (hs : z_step (79, pc + 3, a, b, ts) lo st T V = some (.inl (pc', lo', st', T', V'))) (hRm : 1 ≤ R.frames ∧ 36 ≤ R.locals) (S : zSt E s T V H locs ls lo st) (kk : zK p l e R s m args below meth c Q E pc' lo' st' T T' V' cells slots) : W p l e R s m args below meth c H locs cells slots Q (F0 m pc ls (st.map (rv E))) := by
  obtain ⟨hx, hb, hml, hown, hts, hKK, hini⟩ := C
  obtain ⟨hR, hV, hL, ho, hk⟩ := S
  have hF := hKK.2.2.2.2.2.2.1.2.2
  simp only [z_step] at hs
  obtain ⟨n, dp, d, sp, s1, s0, rfl, ⟨⟨a1, a2, a3, a4⟩, ⟨b1, b2⟩, b3, ⟨c1, c2, c3, c4, c5⟩, d1⟩, rfl, rfl, rfl, rfl, rfl⟩ := zv_cpy hs
  obtain ⟨t, ht, ht5, hts1, htd⟩ : ∃ t : Nat, (t = 0 ∨ t = 1) ∧ t < 5 ∧ zc T' s1 = (t : Int) ∧ zc T' d = (t : Int) := by
    rcases b2 with h | h
    · exact ⟨0, Or.inl rfl, by decide, h, by rw [← b1, h]; rfl⟩
    · exact ⟨1, Or.inr rfl, by decide, h, by rw [← b1, h]; rfl⟩
  obtain ⟨p1, p2, p3, p4⟩ := zarr_at ht5 hR ⟨a1, a2, hts1⟩
  obtain ⟨q1, q2, q3, q4⟩ := zarr_at ht5 hR ⟨a3, a4, htd⟩
  have hn32 : z32 n := ⟨by omega, by omega⟩
  have hsp32 : z32 sp := ⟨by omega, by omega⟩
  have hdp32 : z32 dp := ⟨by omega, by omega⟩
  have hq := zcopy_ok
  simp only [Bool.and_eq_true] at hq
  have hK2 := (hKK.2.1 t ht5).1
  obtain ⟨-, k0, hk0, cm0, hkk0⟩ := hK2 (zl T' s1).toNat (fun j => zav E t (zp T' s1 (j : Int)) (V s1 (j : Int)))
  obtain ⟨-, k1, hk1, cm1, hkk1⟩ := hK2 (zl T' d).toNat (fun j => zav E t (zp T' d (j : Int)) (V d (j : Int)))
  rw [List.map_cons, List.map_cons, List.map_cons, List.map_cons, List.map_cons, show rv E (2, s1) = .ref (eZ E + s1.toNat) from zrr_pos a1, show rv E (2, d) = .ref (eZ E + d.toNat) from zrr_pos a3, show rv E (0, n) = .int (Int32.ofInt n) from rfl, show rv E (0, dp) = .int (Int32.ofInt dp) from rfl, show rv E (0, sp) = .int (Int32.ofInt sp) from rfl]
  intro T0 hT X
  have hval : ∀ i : Nat, i < n.toNat → (arrV (eA E t) (zl T' s1).toNat (fun j => zav E t (zp T' s1 (j : Int)) (V s1 (j : Int)))).slots.getD (sp.toNat + i) .null = zav E t (zp T' s1 ((sp.toNat + i : Nat) : Int)) (V s1 ((sp.toNat + i : Nat) : Int)) := by
    intro i hi
    rw [Array.getD_eq_getD_getElem?, arrV_read _ _ (by omega)]
    rfl
  obtain ⟨vm', X', step⟩ := X.arraycopy hx hown (hts _ hv) (hts _ (zw_mem hq.2.1)) (hts _ (zw_mem hq.1)) (hts _ (zw_mem hq.2.2)) (src := eZ E + s1.toNat) (dst := eZ E + d.toNat) (srcPos := Int32.ofInt sp) (destPos := Int32.ofInt dp) (n := Int32.ofInt n) (by rw [hT]; exact p1) (by rw [hT]; exact q1)
    (fun _ h => by cases h) (fun _ h => by cases h) (fun h => by cases h) (fun h => by cases h) hk0 hk1 hkk0 hkk1 (by rcases ht with rfl | rfl <;> rfl) (znn hsp32 c2) (znn hdp32 c3) (znn hn32 c1)
    (by rw [zt32 hsp32, zt32 hn32, arrV_size]; omega) (by rw [zt32 hdp32, zt32 hn32, arrV_size]; omega)
    (fun vm₁ _ i hi => by
      rw [znat hn32 c1] at hi
      rw [znat hsp32 c2, hval i hi]
      rcases ht with rfl | rfl
      · exact ⟨rfl, trivial⟩
      · exact ⟨rfl, trivial⟩)
    (g := F0 m pc ls (.int (Int32.ofInt n) :: .int (Int32.ofInt dp) :: .ref (eZ E + d.toNat) :: .int (Int32.ofInt sp) :: .ref (eZ E + s1.toNat) :: st'.map (rv E))) rfl (by rw [hml, ← hlen]; exact hL.1) (rest := st'.map (rv E)) rfl (by rw [hb]; exact hd) hRm.1 (by rw [zrv_cats hF]; show 2 * 0 + _ + (7 + 11) ≤ _; omega)
  have e1 : copied (arrV (eA E t) (zl T' s1).toNat (fun j => zav E t (zp T' s1 (j : Int)) (V s1 (j : Int)))) (arrV (eA E t) (zl T' d).toNat (fun j => zav E t (zp T' d (j : Int)) (V d (j : Int)))) (Int32.ofInt sp) (Int32.ofInt dp) (Int32.ofInt n) = arrV (eA E t) (zl T' d).toNat (fun j => zav E t (zp T' d (j : Int)) (zcpy (V s1) (V d) sp dp n (j : Int))) := by
    have h := va_copied (fun z : Value => z) (eA E t) (eA E t) (n0 := (zl T' s1).toNat) (n1 := (zl T' d).toNat) (sp := sp.toNat) (dp := dp.toNat) (n := n.toNat) (fun j => zav E t (zp T' s1 (j : Int)) (V s1 (j : Int))) (fun j => zav E t (zp T' d (j : Int)) (V d (j : Int))) (by omega)
    rw [zcpy_av ht c2 c3 c1] at h
    rw [← h]
    show Cell.storeRun _ (Int32.ofInt dp).toNatClampNeg (Cell.stretch _ (Int32.ofInt sp).toNatClampNeg (Int32.ofInt n).toNatClampNeg) = _
    rw [znat hdp32 c3, znat hsp32 c2, znat hn32 c1]
  rw [e1] at X' step
  generalize hcell : arrV (eA E t) (zl T' d).toNat (fun j => zav E t (zp T' d (j : Int)) (zcpy (V s1) (V d) sp dp n (j : Int))) = cell at X' step
  have hl : eZ E + d.toNat < H.size := (Array.getElem?_eq_some_iff.mp q1).1
  have hheap : ((T0.setVm vm').setCell (eZ E + d.toNat) cell).heap = H.setIfInBounds (eZ E + d.toNat) cell := by rw [← hT]; rfl
  have oq : ∀ q : Nat, q ≠ eZ E + d.toNat → (H.setIfInBounds (eZ E + d.toNat) cell)[q]? = H[q]? := fun q hq => by simp [Array.getElem?_setIfInBounds, Ne.symm hq]
  have hz1 : (H.setIfInBounds (eZ E + d.toNat) cell).size = H.size := by simp
  have hat : (H.setIfInBounds (eZ E + d.toNat) cell)[eZ E + d.toNat]? = some cell := by simp [Array.getElem?_setIfInBounds, hl]
  have K := kk (H.setIfInBounds (eZ E + d.toNat) cell) (locs ++ ((arrV (eA E t) (zl T' s1).toNat (fun j => zav E t (zp T' s1 (j : Int)) (V s1 (j : Int)))).stretch (Int32.ofInt sp).toNatClampNeg (Int32.ofInt n).toNatClampNeg).zipIdx.map fun q => ⟨eZ E + d.toNat, (Int32.ofInt dp).toNatClampNeg + q.2⟩) ls cells slots rfl rfl
    ⟨hR.setV a3 a4 hz1 oq ⟨fun u hu e2 => by
        have e3 : u = t := by omega
        subst e3
        refine ⟨by rw [hat, ← hcell], q2, q3, fun j hj => ?_⟩
        unfold zcpy
        split
        · have h9 := p4 (sp + ((j : Int) - dp)).toNat (by omega)
          rwa [Int.toNat_of_nonneg (by omega)] at h9
        · exact q4 j hj, fun cj hcj e2 => by rw [htd] at e2; omega⟩,
      ⟨by rw [hz1]; exact hV.1, fun q g1 g2 => by
        rw [oq q (fun e => g2 (by rw [e]; show eZ E ≤ _; omega))]
        exact hV.2.1 q g1 g2, fun q hq => by
        rcases List.mem_append.mp hq with h | h
        · exact hV.2.2 q h
        · obtain ⟨z, -, hz⟩ := List.mem_map.mp h
          rw [← hz]
          show eZ E ≤ eZ E + d.toNat
          omega⟩, hL, ho, hk.tl.tl.tl.tl.tl⟩
  obtain ⟨t9, a9, b9⟩ := K _ hheap X'
  exact ⟨t9, step t9 a9, b9⟩
end ZSN5
