/-! AM's writes, arrays and new cells are what the machine does -/
section ZSN3
variable {p : Program} {l : Launch} {e : Env} {R : Room} {s : State} {m : MethodId} {args : Array Value} {below : List Frame} {meth : Method} {c : Code} {H : Heap} {locs : List Loc} {cells slots : Nat} {Q : State → Prop} {E : zEn} {k pc pc' a : Nat} {b : Int} {ts : List Nat} {ls : Array Slot} {lo st lo' st' : List zV} {T T' : zT} {V V' : zM}
/-- an object's cell, a number of it written -/
theorem zput_i {ci : Nat} {x b y : Int} {p0 v0 : Int → Int} {o : Option Cell} {n c0 : Int} (hci : ci < 13) (hc0 : c0 = (ci : Int) + 10) (hb0 : 0 ≤ b ∧ b < (zfN ci : Int)) (hty : zTy ci b.toNat = .int ∨ zTy ci b.toNat = .boolean) (hy : z32 y) (h5 : ∀ k, k < zfN ci → z32 (v0 (k : Int)))
    (h : ∃ cell : Cell, o = some cell ∧ cell.cls = eC E ci ∧ cell.vm = .none ∧ ∀ j, j < zfN ci → cell.slots[eI E ci j]? = some (updV (fun j => zfv E ci j p0 v0) b.toNat (.int (Int32.ofInt y)) j)) : zCell E c0 n p0 (zu v0 b y) o := by
  have hb2 := Int.toNat_of_nonneg hb0.1
  refine ⟨fun t ht h => by omega, fun cj hcj h => ?_⟩
  have e1 : cj = ci := by omega
  subst e1
  obtain ⟨cell, q1, q2, q3, q4⟩ := h
  refine ⟨⟨cell, q1, q2, q3, fun j hj => ?_⟩, fun j hj => ?_⟩
  · rw [q4 j hj]
    congr 1
    by_cases e2 : j = b.toNat
    · subst e2
      rw [updV, if_pos rfl, zfv, if_neg, hb2, zu_at]
      rcases hty with h | h <;> rw [h] <;> decide
    · rw [updV, if_neg e2, zfv, zfv, zu_ne _ _ (show ((j : Nat) : Int) ≠ b by omega)]
  · by_cases e2 : ((j : Nat) : Int) = b
    · rw [e2, zu_at]; exact hy
    · rw [zu_ne _ _ e2]; exact h5 j hj
theorem zput_r {ci : Nat} {x b y : Int} {p0 v0 : Int → Int} {o : Option Cell} {n c0 : Int} (hci : ci < 13) (hc0 : c0 = (ci : Int) + 10) (hb0 : 0 ≤ b ∧ b < (zfN ci : Int)) (hty : z_isR (zTy ci b.toNat) = true) (h5 : ∀ k, k < zfN ci → z32 (v0 (k : Int)))
    (h : ∃ cell : Cell, o = some cell ∧ cell.cls = eC E ci ∧ cell.vm = .none ∧ ∀ j, j < zfN ci → cell.slots[eI E ci j]? = some (updV (fun j => zfv E ci j p0 v0) b.toNat (zrr E y) j)) : zCell E c0 n (zu p0 b y) v0 o := by
  have hb2 := Int.toNat_of_nonneg hb0.1
  refine ⟨fun t ht h => by omega, fun cj hcj h => ?_⟩
  have e1 : cj = ci := by omega
  subst e1
  obtain ⟨cell, q1, q2, q3, q4⟩ := h
  refine ⟨⟨cell, q1, q2, q3, fun j hj => ?_⟩, h5⟩
  rw [q4 j hj]
  congr 1
  by_cases e2 : j = b.toNat
  · subst e2
    rw [updV, if_pos rfl, zfv, if_pos hty, hb2, zu_at]
  · rw [updV, if_neg e2, zfv, zfv, zu_ne _ _ (show ((j : Nat) : Int) ≠ b by omega)]
theorem zi_puti (C : zCX p s m args meth c E k) {ix : Nat} (hv : Jvm.Cond.fieldLink (zCn (zown k)) ix (zCn a) (zTX a b.toNat).2.1 (zTX a b.toNat).2.2.1 ∈ zWS) (hb0 : 0 ≤ b ∧ b < (zfN a : Int) ∧ a < 13) (hfin : (zTX a b.toNat).2.2.2 = false ∨ ((zy k).name = "<init>" ∧ (zTX a b.toNat).1 = zCn (zown k))) (hty : zTy a b.toNat = .int) (hd : decode (zby k) pc = .ok (.putfield ix, 3)) (hs : z_step (57, pc + 3, a, b, ts) lo st T V = some (.inl (pc', lo', st', T', V'))) (S : zSt E s T V H locs ls lo st) (kk : zK p l e R s m args below meth c Q E pc' lo' st' T T' V' cells slots) : W p l e R s m args below meth c H locs cells slots Q (F0 m pc ls (st.map (rv E))) := by
  obtain ⟨hR, hV, hL, ho, hk⟩ := S
  simp only [z_step] at hs
  obtain ⟨y, x, s0, rfl, hx0, hg, rfl, rfl, rfl, rfl, rfl⟩ := zv_put hs
  have hy := hk.hd.1 rfl
  obtain ⟨-, q5⟩ := (hR.cell hx0.1 hx0.2.1).2 a hb0.2.2 hx0.2.2
  have hfit : narrow (zTy a b.toNat) (.int (Int32.ofInt y)) = .int (Int32.ofInt y) ∧ fits (zTy a b.toNat) (.int (Int32.ofInt y)) = true := ⟨by rw [hty]; rfl, by rw [hty]; rfl⟩
  refine zi_putf C hv hb0 hfin hd (v := .int (Int32.ofInt y)) (s0 := st') hR hV hx0 hfit.1 hfit.2 (fun H1 locs1 e2 e3 hV1 hc => ?_)
  exact kk _ _ _ _ _ rfl rfl ⟨hR.setV hx0.1 hx0.2.1 e2 e3 (zput_i (x := x) hb0.2.2 hx0.2.2 ⟨hb0.1, hb0.2.1⟩ (by first | exact Or.inl hty | exact Or.inr hty) hy q5 hc), hV1, hL, ho, hk.tl.tl⟩
theorem zi_putz (C : zCX p s m args meth c E k) {ix : Nat} (hv : Jvm.Cond.fieldLink (zCn (zown k)) ix (zCn a) (zTX a b.toNat).2.1 (zTX a b.toNat).2.2.1 ∈ zWS) (hb0 : 0 ≤ b ∧ b < (zfN a : Int) ∧ a < 13) (hfin : (zTX a b.toNat).2.2.2 = false ∨ ((zy k).name = "<init>" ∧ (zTX a b.toNat).1 = zCn (zown k))) (hty : zTy a b.toNat = .boolean) (hd : decode (zby k) pc = .ok (.putfield ix, 3)) (hs : z_step (58, pc + 3, a, b, ts) lo st T V = some (.inl (pc', lo', st', T', V'))) (S : zSt E s T V H locs ls lo st) (kk : zK p l e R s m args below meth c Q E pc' lo' st' T T' V' cells slots) : W p l e R s m args below meth c H locs cells slots Q (F0 m pc ls (st.map (rv E))) := by
  obtain ⟨hR, hV, hL, ho, hk⟩ := S
  simp only [z_step] at hs
  obtain ⟨y, x, s0, rfl, hx0, hg, rfl, rfl, rfl, rfl, rfl⟩ := zv_put hs
  have hy := hk.hd.1 rfl
  obtain ⟨-, q5⟩ := (hR.cell hx0.1 hx0.2.1).2 a hb0.2.2 hx0.2.2
  have hfit : narrow (zTy a b.toNat) (.int (Int32.ofInt y)) = .int (Int32.ofInt y) ∧ fits (zTy a b.toNat) (.int (Int32.ofInt y)) = true := by rw [hty]; exact zbool_fit hg
  refine zi_putf C hv hb0 hfin hd (v := .int (Int32.ofInt y)) (s0 := st') hR hV hx0 hfit.1 hfit.2 (fun H1 locs1 e2 e3 hV1 hc => ?_)
  exact kk _ _ _ _ _ rfl rfl ⟨hR.setV hx0.1 hx0.2.1 e2 e3 (zput_i (x := x) hb0.2.2 hx0.2.2 ⟨hb0.1, hb0.2.1⟩ (by first | exact Or.inl hty | exact Or.inr hty) hy q5 hc), hV1, hL, ho, hk.tl.tl⟩
theorem zi_putr (C : zCX p s m args meth c E k) {ix : Nat} (hv : Jvm.Cond.fieldLink (zCn (zown k)) ix (zCn a) (zTX a b.toNat).2.1 (zTX a b.toNat).2.2.1 ∈ zWS) (hb0 : 0 ≤ b ∧ b < (zfN a : Int) ∧ a < 13) (hfin : (zTX a b.toNat).2.2.2 = false ∨ ((zy k).name = "<init>" ∧ (zTX a b.toNat).1 = zCn (zown k))) (hty : z_isR (zTy a b.toNat) = true) (hd : decode (zby k) pc = .ok (.putfield ix, 3)) (hs : z_step (59, pc + 3, a, b, ts) lo st T V = some (.inl (pc', lo', st', T', V'))) (S : zSt E s T V H locs ls lo st) (kk : zK p l e R s m args below meth c Q E pc' lo' st' T T' V' cells slots) : W p l e R s m args below meth c H locs cells slots Q (F0 m pc ls (st.map (rv E))) := by
  obtain ⟨hR, hV, hL, ho, hk⟩ := S
  simp only [z_step] at hs
  obtain ⟨y, x, s0, rfl, hx0, rfl, rfl, rfl, rfl, rfl⟩ := zv_putr hs
  obtain ⟨-, q5⟩ := (hR.cell hx0.1 hx0.2.1).2 a hb0.2.2 hx0.2.2
  have hfit := zrr_fit E y hty
  refine zi_putf C hv hb0 hfin hd (v := zrr E y) (s0 := st') hR hV hx0 hfit.1 hfit.2 (fun H1 locs1 e2 e3 hV1 hc => ?_)
  exact kk _ _ _ _ _ rfl rfl ⟨hR.setP hx0.1 hx0.2.1 e2 e3 (zput_r (x := x) hb0.2.2 hx0.2.2 ⟨hb0.1, hb0.2.1⟩ hty q5 hc), hV1, hL, ho, hk.tl.tl⟩
theorem zarr_at {t : Nat} (ht : t < 5) (hR : zRel E T V H) {x : Int} (hx0 : 0 ≤ x ∧ x < zsz T ∧ zc T x = (t : Int)) : zArr E t (zl T x) (zp T x) (V x) H[eZ E + x.toNat]? := (hR.cell hx0.1 hx0.2.1).1 t ht hx0.2.2
theorem zix {t : Nat} {x i : Int} {o : Option Cell} (h : zArr E t (zl T x) (zp T x) (V x) o) (hi : 0 ≤ i ∧ i < zl T x) : z32 i ∧ i.toNat < (zl T x).toNat := by
  obtain ⟨-, h1, h2, -⟩ := h
  exact ⟨⟨by omega, by omega⟩, by omega⟩
theorem zi_iald (C : zCX p s m args meth c E k) (hd : decode (zby k) pc = .ok (.iaload, 1)) (hs : zo_ald 0 V 0 (pc + 1) lo st T V = some (.inl (pc', lo', st', T', V'))) (S : zSt E s T V H locs ls lo st) (kk : zK p l e R s m args below meth c Q E pc' lo' st' T T' V' cells slots) : W p l e R s m args below meth c H locs cells slots Q (F0 m pc ls (st.map (rv E))) := by
  obtain ⟨hx, hb, hml, hown, hts, hKK, hini⟩ := C
  obtain ⟨hR, hV, hL, ho, hk⟩ := S
  obtain ⟨i, x, s0, rfl, hx0, hi, rfl, rfl, rfl, rfl, rfl⟩ := zv_ald hs
  have hA := zarr_at (t := 0) (by decide) hR hx0
  obtain ⟨hi32, hlt⟩ := zix hA hi
  obtain ⟨q1, q2, q3, q4⟩ := hA
  have hin := zin (n := (zl T' x).toNat) hi32 hi.1 (by omega)
  have h4 := q4 i.toNat hlt
  rw [Int.toNat_of_nonneg hi.1] at h4
  rw [List.map_cons, List.map_cons, show rv E (2, x) = .ref (eZ E + x.toNat) from zrr_pos hx0.1, show rv E (0, i) = .int (Int32.ofInt i) from rfl]
  refine W.iald (v := rv E (0, V' x i)) hx hb q1 ((hKK.2.1 0 (by decide)).1 _ _) (fun q => by cases q) (by rw [arrV_size]; exact hin) (by rw [znat hi32 hi.1, arrV_read _ _ hlt, Int.toNat_of_nonneg hi.1]; rfl) rfl rfl hd (kk _ _ _ _ _ rfl rfl ⟨hR, hV, hL, ho, hk.tl.tl.cons (zok0 h4)⟩)
theorem zi_lald (C : zCX p s m args meth c E k) (hd : decode (zby k) pc = .ok (.laload, 1)) (hs : zo_ald 1 V 1 (pc + 1) lo st T V = some (.inl (pc', lo', st', T', V'))) (S : zSt E s T V H locs ls lo st) (kk : zK p l e R s m args below meth c Q E pc' lo' st' T T' V' cells slots) : W p l e R s m args below meth c H locs cells slots Q (F0 m pc ls (st.map (rv E))) := by
  obtain ⟨hx, hb, hml, hown, hts, hKK, hini⟩ := C
  obtain ⟨hR, hV, hL, ho, hk⟩ := S
  obtain ⟨i, x, s0, rfl, hx0, hi, rfl, rfl, rfl, rfl, rfl⟩ := zv_ald hs
  have hA := zarr_at (t := 1) (by decide) hR hx0
  obtain ⟨hi32, hlt⟩ := zix hA hi
  obtain ⟨q1, q2, q3, q4⟩ := hA
  have hin := zin (n := (zl T' x).toNat) hi32 hi.1 (by omega)
  have h4 := q4 i.toNat hlt
  rw [Int.toNat_of_nonneg hi.1] at h4
  rw [List.map_cons, List.map_cons, show rv E (2, x) = .ref (eZ E + x.toNat) from zrr_pos hx0.1, show rv E (0, i) = .int (Int32.ofInt i) from rfl]
  refine W.lald (v := rv E (1, V' x i)) hx hb q1 ((hKK.2.1 1 (by decide)).1 _ _) (fun q => by cases q) (by rw [arrV_size]; exact hin) (by rw [znat hi32 hi.1, arrV_read _ _ hlt, Int.toNat_of_nonneg hi.1]; rfl) rfl rfl hd (kk _ _ _ _ _ rfl rfl ⟨hR, hV, hL, ho, hk.tl.tl.cons (zok1 h4)⟩)
theorem zi_bald (C : zCX p s m args meth c E k) (hd : decode (zby k) pc = .ok (.baload, 1)) (hs : zo_ald 0 V 2 (pc + 1) lo st T V = some (.inl (pc', lo', st', T', V'))) (S : zSt E s T V H locs ls lo st) (kk : zK p l e R s m args below meth c Q E pc' lo' st' T T' V' cells slots) : W p l e R s m args below meth c H locs cells slots Q (F0 m pc ls (st.map (rv E))) := by
  obtain ⟨hx, hb, hml, hown, hts, hKK, hini⟩ := C
  obtain ⟨hR, hV, hL, ho, hk⟩ := S
  obtain ⟨i, x, s0, rfl, hx0, hi, rfl, rfl, rfl, rfl, rfl⟩ := zv_ald hs
  have hA := zarr_at (t := 2) (by decide) hR hx0
  obtain ⟨hi32, hlt⟩ := zix hA hi
  obtain ⟨q1, q2, q3, q4⟩ := hA
  have hin := zin (n := (zl T' x).toNat) hi32 hi.1 (by omega)
  have h4 := q4 i.toNat hlt
  rw [Int.toNat_of_nonneg hi.1] at h4
  rw [List.map_cons, List.map_cons, show rv E (2, x) = .ref (eZ E + x.toNat) from zrr_pos hx0.1, show rv E (0, i) = .int (Int32.ofInt i) from rfl]
  refine W.bald (v := rv E (0, V' x i)) hx hb q1 ((hKK.2.1 2 (by decide)).1 _ _) (fun q => by cases q) (by rw [arrV_size]; exact hin) (by rw [znat hi32 hi.1, arrV_read _ _ hlt, Int.toNat_of_nonneg hi.1]; rfl) rfl rfl hd (kk _ _ _ _ _ rfl rfl ⟨hR, hV, hL, ho, hk.tl.tl.cons (zok0 ⟨by have := h4.1; omega, by have := h4.2; omega⟩)⟩)
theorem zi_zald (C : zCX p s m args meth c E k) (hd : decode (zby k) pc = .ok (.baload, 1)) (hs : zo_ald 0 V 3 (pc + 1) lo st T V = some (.inl (pc', lo', st', T', V'))) (S : zSt E s T V H locs ls lo st) (kk : zK p l e R s m args below meth c Q E pc' lo' st' T T' V' cells slots) : W p l e R s m args below meth c H locs cells slots Q (F0 m pc ls (st.map (rv E))) := by
  obtain ⟨hx, hb, hml, hown, hts, hKK, hini⟩ := C
  obtain ⟨hR, hV, hL, ho, hk⟩ := S
  obtain ⟨i, x, s0, rfl, hx0, hi, rfl, rfl, rfl, rfl, rfl⟩ := zv_ald hs
  have hA := zarr_at (t := 3) (by decide) hR hx0
  obtain ⟨hi32, hlt⟩ := zix hA hi
  obtain ⟨q1, q2, q3, q4⟩ := hA
  have hin := zin (n := (zl T' x).toNat) hi32 hi.1 (by omega)
  have h4 := q4 i.toNat hlt
  rw [Int.toNat_of_nonneg hi.1] at h4
  rw [List.map_cons, List.map_cons, show rv E (2, x) = .ref (eZ E + x.toNat) from zrr_pos hx0.1, show rv E (0, i) = .int (Int32.ofInt i) from rfl]
  refine W.zald (v := rv E (0, V' x i)) hx hb q1 ((hKK.2.1 3 (by decide)).1 _ _) (fun q => by cases q) (by rw [arrV_size]; exact hin) (by rw [znat hi32 hi.1, arrV_read _ _ hlt, Int.toNat_of_nonneg hi.1]; rfl) rfl rfl hd (kk _ _ _ _ _ rfl rfl ⟨hR, hV, hL, ho, hk.tl.tl.cons (zok0 ⟨by have := h4.1; omega, by have := h4.2; omega⟩)⟩)
theorem zi_aald (C : zCX p s m args meth c E k) (hd : decode (zby k) pc = .ok (.aaload, 1)) (hs : zo_ald 2 (zp T) 4 (pc + 1) lo st T V = some (.inl (pc', lo', st', T', V'))) (S : zSt E s T V H locs ls lo st) (kk : zK p l e R s m args below meth c Q E pc' lo' st' T T' V' cells slots) : W p l e R s m args below meth c H locs cells slots Q (F0 m pc ls (st.map (rv E))) := by
  obtain ⟨hx, hb, hml, hown, hts, hKK, hini⟩ := C
  obtain ⟨hR, hV, hL, ho, hk⟩ := S
  obtain ⟨i, x, s0, rfl, hx0, hi, rfl, rfl, rfl, rfl, rfl⟩ := zv_ald hs
  have hA := zarr_at (t := 4) (by decide) hR hx0
  obtain ⟨hi32, hlt⟩ := zix hA hi
  obtain ⟨q1, q2, q3, q4⟩ := hA
  have hin := zin (n := (zl T' x).toNat) hi32 hi.1 (by omega)
  have h4 := q4 i.toNat hlt
  rw [Int.toNat_of_nonneg hi.1] at h4
  rw [List.map_cons, List.map_cons, show rv E (2, x) = .ref (eZ E + x.toNat) from zrr_pos hx0.1, show rv E (0, i) = .int (Int32.ofInt i) from rfl]
  refine W.aald (v := rv E (2, zp T' x i)) hx hb q1 ((hKK.2.1 4 (by decide)).1 _ _) rfl (fun q => by cases q) (by rw [arrV_size]; exact hin) (by rw [znat hi32 hi.1, arrV_read _ _ hlt, Int.toNat_of_nonneg hi.1]; rfl) rfl rfl hd (kk _ _ _ _ _ rfl rfl ⟨hR, hV, hL, ho, hk.tl.tl.cons (zokr (by decide))⟩)
theorem zast_c {t : Nat} {i y n c0 : Int} {p0 v0 : Int → Int} {o : Option Cell} (ht : t < 5) (ht4 : t ≠ 4) (hc0 : c0 = (t : Int)) (hi : 0 ≤ i) (hn : 0 ≤ n ∧ n ≤ 1000000) (hrg : ∀ j : Nat, j < n.toNat → zrg t (v0 (j : Int))) (hy : zrg t y) (h : o = some (arrV (eA E t) n.toNat (updV (fun j => zav E t (p0 (j : Int)) (v0 (j : Int))) i.toNat (zav E t 0 y)))) : zCell E c0 n p0 (zu v0 i y) o := by
  refine ⟨fun u hu e1 => ?_, fun cj hcj e1 => by omega⟩
  have e2 : u = t := by omega
  subst e2
  refine ⟨?_, hn.1, hn.2, fun j hj => ?_⟩
  · rw [h]
    congr 2
    funext j
    by_cases e3 : j = i.toNat
    · subst e3
      rw [updV, if_pos rfl, Int.toNat_of_nonneg hi, zu_at]
      unfold zav
      split
      · rfl
      · exact absurd rfl ht4
      · rfl
    · rw [updV, if_neg e3, zu_ne _ _ (by omega)]
  · by_cases e3 : ((j : Nat) : Int) = i
    · rw [e3, zu_at]; exact hy
    · rw [zu_ne _ _ e3]; exact hrg j hj
theorem zi_iast (C : zCX p s m args meth c E k) (hd : decode (zby k) pc = .ok (.iastore, 1)) (hs : zo_ast 0 0 (fun _ => True) (fun _ => inferInstance) (pc + 1) lo st T V = some (.inl (pc', lo', st', T', V'))) (S : zSt E s T V H locs ls lo st) (kk : zK p l e R s m args below meth c Q E pc' lo' st' T T' V' cells slots) : W p l e R s m args below meth c H locs cells slots Q (F0 m pc ls (st.map (rv E))) := by
  obtain ⟨hx, hb, hml, hown, hts, hKK, hini⟩ := C
  obtain ⟨hR, hV, hL, ho, hk⟩ := S
  obtain ⟨y, i, x, s0, rfl, hx0, hi, hg, rfl, rfl, rfl, rfl, rfl⟩ := zv_ast hs
  have hA := zarr_at (t := 0) (by decide) hR hx0
  obtain ⟨hi32, hlt⟩ := zix hA hi
  obtain ⟨q1, q2, q3, q4⟩ := hA
  have hin := zin (n := (zl T' x).toNat) hi32 hi.1 (by omega)
  rw [List.map_cons, List.map_cons, List.map_cons, show rv E (2, x) = .ref (eZ E + x.toNat) from zrr_pos hx0.1, show rv E (0, i) = .int (Int32.ofInt i) from rfl, show rv E (0, y) = .int (Int32.ofInt y) from rfl]
  refine W.iast hx hb q1 ((hKK.2.1 0 (by decide)).1 _ _) (fun q => by cases q) (by rw [arrV_size]; exact hin) rfl rfl hd (fun H1 e1 e2 e3 => ?_)
  rw [znat hi32 hi.1, arrV_store] at e1
  refine kk _ _ _ _ _ rfl rfl ⟨hR.setV hx0.1 hx0.2.1 e2 e3 (zast_c (t := 0) (by decide) (by decide) hx0.2.2 hi.1 ⟨q2, q3⟩ q4 (hk.hd.1 rfl) e1), hV.put e2 e3 (show eZ E ≤ eZ E + x.toNat by omega), hL, ho, hk.tl.tl.tl⟩
theorem zi_last (C : zCX p s m args meth c E k) (hd : decode (zby k) pc = .ok (.lastore, 1)) (hs : zo_ast 1 1 (fun _ => True) (fun _ => inferInstance) (pc + 1) lo st T V = some (.inl (pc', lo', st', T', V'))) (S : zSt E s T V H locs ls lo st) (kk : zK p l e R s m args below meth c Q E pc' lo' st' T T' V' cells slots) : W p l e R s m args below meth c H locs cells slots Q (F0 m pc ls (st.map (rv E))) := by
  obtain ⟨hx, hb, hml, hown, hts, hKK, hini⟩ := C
  obtain ⟨hR, hV, hL, ho, hk⟩ := S
  obtain ⟨y, i, x, s0, rfl, hx0, hi, hg, rfl, rfl, rfl, rfl, rfl⟩ := zv_ast hs
  have hA := zarr_at (t := 1) (by decide) hR hx0
  obtain ⟨hi32, hlt⟩ := zix hA hi
  obtain ⟨q1, q2, q3, q4⟩ := hA
  have hin := zin (n := (zl T' x).toNat) hi32 hi.1 (by omega)
  rw [List.map_cons, List.map_cons, List.map_cons, show rv E (2, x) = .ref (eZ E + x.toNat) from zrr_pos hx0.1, show rv E (0, i) = .int (Int32.ofInt i) from rfl, show rv E (1, y) = .long (Int64.ofInt y) from rfl]
  refine W.last hx hb q1 ((hKK.2.1 1 (by decide)).1 _ _) (fun q => by cases q) (by rw [arrV_size]; exact hin) rfl rfl hd (fun H1 e1 e2 e3 => ?_)
  rw [znat hi32 hi.1, arrV_store] at e1
  refine kk _ _ _ _ _ rfl rfl ⟨hR.setV hx0.1 hx0.2.1 e2 e3 (zast_c (t := 1) (by decide) (by decide) hx0.2.2 hi.1 ⟨q2, q3⟩ q4 (hk.hd.2 rfl) e1), hV.put e2 e3 (show eZ E ≤ eZ E + x.toNat by omega), hL, ho, hk.tl.tl.tl⟩
theorem zi_bast (C : zCX p s m args meth c E k) (hd : decode (zby k) pc = .ok (.bastore, 1)) (hs : zo_ast 0 2 (fun v => -128 ≤ v ∧ v ≤ 127) (fun _ => inferInstance) (pc + 1) lo st T V = some (.inl (pc', lo', st', T', V'))) (S : zSt E s T V H locs ls lo st) (kk : zK p l e R s m args below meth c Q E pc' lo' st' T T' V' cells slots) : W p l e R s m args below meth c H locs cells slots Q (F0 m pc ls (st.map (rv E))) := by
  obtain ⟨hx, hb, hml, hown, hts, hKK, hini⟩ := C
  obtain ⟨hR, hV, hL, ho, hk⟩ := S
  obtain ⟨y, i, x, s0, rfl, hx0, hi, hg, rfl, rfl, rfl, rfl, rfl⟩ := zv_ast hs
  have hA := zarr_at (t := 2) (by decide) hR hx0
  obtain ⟨hi32, hlt⟩ := zix hA hi
  obtain ⟨q1, q2, q3, q4⟩ := hA
  have hin := zin (n := (zl T' x).toNat) hi32 hi.1 (by omega)
  rw [List.map_cons, List.map_cons, List.map_cons, show rv E (2, x) = .ref (eZ E + x.toNat) from zrr_pos hx0.1, show rv E (0, i) = .int (Int32.ofInt i) from rfl, show rv E (0, y) = .int (Int32.ofInt y) from rfl]
  refine W.bast hx hb q1 ((hKK.2.1 2 (by decide)).1 _ _) (fun q => by cases q) (by rw [arrV_size]; exact hin) rfl rfl hd (fun H1 e1 e2 e3 => ?_)
  rw [zbyte_fit hg, znat hi32 hi.1, arrV_store] at e1
  refine kk _ _ _ _ _ rfl rfl ⟨hR.setV hx0.1 hx0.2.1 e2 e3 (zast_c (t := 2) (by decide) (by decide) hx0.2.2 hi.1 ⟨q2, q3⟩ q4 (hg) e1), hV.put e2 e3 (show eZ E ≤ eZ E + x.toNat by omega), hL, ho, hk.tl.tl.tl⟩
theorem zi_zast (C : zCX p s m args meth c E k) (hd : decode (zby k) pc = .ok (.bastore, 1)) (hs : zo_ast 0 3 (fun v => 0 ≤ v ∧ v ≤ 1) (fun _ => inferInstance) (pc + 1) lo st T V = some (.inl (pc', lo', st', T', V'))) (S : zSt E s T V H locs ls lo st) (kk : zK p l e R s m args below meth c Q E pc' lo' st' T T' V' cells slots) : W p l e R s m args below meth c H locs cells slots Q (F0 m pc ls (st.map (rv E))) := by
  obtain ⟨hx, hb, hml, hown, hts, hKK, hini⟩ := C
  obtain ⟨hR, hV, hL, ho, hk⟩ := S
  obtain ⟨y, i, x, s0, rfl, hx0, hi, hg, rfl, rfl, rfl, rfl, rfl⟩ := zv_ast hs
  have hA := zarr_at (t := 3) (by decide) hR hx0
  obtain ⟨hi32, hlt⟩ := zix hA hi
  obtain ⟨q1, q2, q3, q4⟩ := hA
  have hin := zin (n := (zl T' x).toNat) hi32 hi.1 (by omega)
  rw [List.map_cons, List.map_cons, List.map_cons, show rv E (2, x) = .ref (eZ E + x.toNat) from zrr_pos hx0.1, show rv E (0, i) = .int (Int32.ofInt i) from rfl, show rv E (0, y) = .int (Int32.ofInt y) from rfl]
  refine W.zast hx hb q1 ((hKK.2.1 3 (by decide)).1 _ _) (fun q => by cases q) (by rw [arrV_size]; exact hin) rfl rfl hd (fun H1 e1 e2 e3 => ?_)
  rw [(zbool_fit hg).1, znat hi32 hi.1, arrV_store] at e1
  refine kk _ _ _ _ _ rfl rfl ⟨hR.setV hx0.1 hx0.2.1 e2 e3 (zast_c (t := 3) (by decide) (by decide) hx0.2.2 hi.1 ⟨q2, q3⟩ q4 (hg) e1), hV.put e2 e3 (show eZ E ≤ eZ E + x.toNat by omega), hL, ho, hk.tl.tl.tl⟩
theorem zi_aast (C : zCX p s m args meth c E k) (hd : decode (zby k) pc = .ok (.aastore, 1)) (hs : z_step (67, pc + 1, a, b, ts) lo st T V = some (.inl (pc', lo', st', T', V'))) (S : zSt E s T V H locs ls lo st) (kk : zK p l e R s m args below meth c Q E pc' lo' st' T T' V' cells slots) : W p l e R s m args below meth c H locs cells slots Q (F0 m pc ls (st.map (rv E))) := by
  obtain ⟨hx, hb, hml, hown, hts, hKK, hini⟩ := C
  obtain ⟨hR, hV, hL, ho, hk⟩ := S
  simp only [z_step] at hs
  obtain ⟨y, i, x, s0, rfl, hy0, hx0, hi, rfl, rfl, rfl, rfl, rfl⟩ := zv_qst hs
  have hA := zarr_at (t := 4) (by decide) hR hx0
  obtain ⟨hi32, hlt⟩ := zix hA hi
  obtain ⟨q1, q2, q3, q4⟩ := hA
  obtain ⟨⟨cellV, g1, g2, g3, -⟩, -⟩ := (hR.cell hy0.1 hy0.2.1).2 6 (by decide) hy0.2.2
  have hcls := (hKK.1 6 (by decide)).2
  obtain ⟨kA, comp, k1, k2, k3, -⟩ := (hKK.2.1 4 (by decide)).2
  have hcomp : comp = eC E 6 := Option.some.inj (k3.symm.trans hcls.1)
  subst hcomp
  obtain ⟨kC, hkC, -⟩ := hcls.2
  rw [List.map_cons, List.map_cons, List.map_cons, show rv E (2, x) = .ref (eZ E + x.toNat) from zrr_pos hx0.1, show rv E (0, i) = .int (Int32.ofInt i) from rfl, show rv E (2, y) = .ref (eZ E + y.toNat) from zrr_pos hy0.1]
  refine W.aast hx hb q1 (fun q h => by cases h) (fun h => by cases h) k1 k2 rfl hkC ⟨znn hi32 hi.1, by rw [arrV_size, znat hi32 hi.1]; exact hlt⟩ g1 (fun q h => by rw [g3] at h; cases h) (by rw [g2]; exact hkC) (by rw [g2]; exact va_assign hcls) rfl rfl hd fun H1 e1 e2 e3 => ?_
  rw [znat hi32 hi.1, arrV_store] at e1
  refine kk _ _ _ _ _ rfl rfl ⟨hR.setP hx0.1 hx0.2.1 e2 e3 ⟨fun u hu e4 => ?_, fun cj hcj e4 => by omega⟩, hV.put e2 e3 (show eZ E ≤ eZ E + x.toNat by omega), hL, ho, hk.tl.tl.tl⟩
  have e5 : u = 4 := by omega
  subst e5
  refine ⟨?_, q2, q3, q4⟩
  rw [e1]
  congr 2
  funext j
  by_cases e6 : j = i.toNat
  · subst e6
    rw [updV, if_pos rfl, Int.toNat_of_nonneg hi.1, zu_at]
    exact (zrr_pos hy0.1).symm
  · rw [updV, if_neg e6, zu_ne _ _ (by omega)]
end ZSN3
