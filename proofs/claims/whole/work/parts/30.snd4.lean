/-! lengths, new cells, the JDK's own -/
theorem z_len7 : ∀ i : Fin 7, ((z_str (i.val : Int)).length : Int) = ((zlens.getD i.val 0 : Nat) : Int) ∧ (z_str (i.val : Int)).length ≤ 6 := by decide +kernel
theorem z_byt7 : ∀ i : Fin 7, ∀ j : Fin 6, Int32.ofInt ((z_str (i.val : Int)).getD j.val 0) = (zbyts.getD i.val []).getD j.val 0 ∧ (0 ≤ (z_str (i.val : Int)).getD j.val 0 ∧ (z_str (i.val : Int)).getD j.val 0 ≤ 127) := by decide +kernel
section ZSN4
variable {p : Program} {l : Launch} {e : Env} {R : Room} {s : State} {m : MethodId} {args : Array Value} {below : List Frame} {meth : Method} {c : Code} {H : Heap} {locs : List Loc} {cells slots : Nat} {Q : State → Prop} {E : zEn} {k pc pc' a : Nat} {b : Int} {ts : List Nat} {ls : Array Slot} {lo st lo' st' : List zV} {T T' : zT} {V V' : zM}
theorem zi_slen (C : zCX p s m args meth c E k) (hd : decode (zby k) pc = .ok (.arraylength, 1)) {j : Int} {s0 : List zV} (S : zSt E s T V H locs ls lo ((4, j) :: s0)) (kk : zK p l e R s m args below meth c Q E (pc + 1) lo ((0, zl T (-2)) :: s0) T T V cells slots) : W p l e R s m args below meth c H locs cells slots Q (F0 m pc ls (((4, j) :: s0).map (rv E))) := by
  obtain ⟨hx, hb, hml, hown, hts, hKK, hini⟩ := C
  obtain ⟨hR, hV, hL, ho, hk⟩ := S
  obtain ⟨hX, hbl⟩ := hKK.2.2.2.2.2.1
  have hz := hKK.2.2.2.2.2.2.2.2
  have e1 := hR.2.2.1
  have e2 := hR.2.2.2.1
  refine va_slen (A := zA E) hx hb hX (by omega) (by show ¬ eZ E ≤ eB E; omega) hV hd ?_
  have K := kk H locs ls cells slots rfl rfl ⟨hR, hV, hL, ho, hk.tl.cons (zok0 (by rw [e1]; exact ⟨by omega, by omega⟩))⟩
  rw [List.map_cons, show rv E (0, zl T (-2)) = .int (Int32.ofInt (zl T (-2))) from rfl, e1] at K
  exact K
theorem zi_sld (C : zCX p s m args meth c E k) (hd : decode (zby k) pc = .ok (.iaload, 1)) {i j : Int} {s0 : List zV} (hi : 0 ≤ i ∧ i < zl T (-2)) (S : zSt E s T V H locs ls lo ((0, i) :: (4, j) :: s0)) (kk : zK p l e R s m args below meth c Q E (pc + 1) lo ((0, V (-2) i) :: s0) T T V cells slots) : W p l e R s m args below meth c H locs cells slots Q (F0 m pc ls (((0, i) :: (4, j) :: s0).map (rv E))) := by
  obtain ⟨hx, hb, hml, hown, hts, hKK, hini⟩ := C
  obtain ⟨hR, hV, hL, ho, hk⟩ := S
  obtain ⟨hX, hbl⟩ := hKK.2.2.2.2.2.1
  have hz := hKK.2.2.2.2.2.2.2.2
  have e1 := hR.2.2.1
  have e2 := hR.2.2.2.1
  have hi32 : z32 i := ⟨by omega, by omega⟩
  have hv := hR.2.2.2.2 i.toNat (by omega)
  rw [Int.toNat_of_nonneg hi.1] at hv
  refine va_sld (A := zA E) (i := Int32.ofInt i) hx hb hX (by omega) (by show ¬ eZ E ≤ eB E; omega) hV (zin hi32 hi.1 (by omega)) hd ?_
  have K := kk H locs ls cells slots rfl rfl ⟨hR, hV, hL, ho, hk.tl.tl.cons (zok0 (by rw [hv]; exact zi32 _))⟩
  rw [List.map_cons, show rv E (0, V (-2) i) = .int (Int32.ofInt (V (-2) i)) from rfl, hv, Int32.ofInt_toInt] at K
  rw [znat hi32 hi.1]
  exact K
theorem zi_clen (C : zCX p s m args meth c E k) (hd : decode (zby k) pc = .ok (.arraylength, 1)) {j : Int} {s0 : List zV} (hj : 0 ≤ j ∧ j < 7) (S : zSt E s T V H locs ls lo ((5, j) :: s0)) (kk : zK p l e R s m args below meth c Q E (pc + 1) lo ((0, ((z_str j).length : Int)) :: s0) T T V cells slots) : W p l e R s m args below meth c H locs cells slots Q (F0 m pc ls (((5, j) :: s0).map (rv E))) := by
  obtain ⟨hx, hb, hml, hown, hts, hKK, hini⟩ := C
  obtain ⟨hR, hV, hL, ho, hk⟩ := S
  obtain ⟨g1, g2, g3, g4⟩ := hKK.2.2.2.2.1.1 j.toNat (by omega)
  have h7 := z_len7 ⟨j.toNat, by omega⟩
  rw [show (((⟨j.toNat, by omega⟩ : Fin 7).val : Nat) : Int) = j from by show ((j.toNat : Nat) : Int) = j; omega] at h7
  obtain ⟨cell, q1, q2, q3, q4, q5, -⟩ := g4.kept hV.2.1
  have K := kk H locs ls cells slots rfl rfl ⟨hR, hV, hL, ho, hk.tl.cons (zok0 ⟨by omega, by omega⟩)⟩
  rw [List.map_cons, show rv E (0, ((z_str j).length : Int)) = .int (Int32.ofInt ((z_str j).length : Int)) from rfl, h7.1] at K
  exact W.alen (n := Int32.ofInt ((zlens.getD j.toNat 0 : Nat) : Int)) hx hb q1 q2 (by rw [q5]; rfl) rfl rfl hd K
theorem zi_cld (C : zCX p s m args meth c E k) (hd : decode (zby k) pc = .ok (.baload, 1)) {i j : Int} {s0 : List zV} (hj : 0 ≤ j ∧ j < 7) (hi : 0 ≤ i ∧ i < ((z_str j).length : Int)) (S : zSt E s T V H locs ls lo ((0, i) :: (5, j) :: s0)) (kk : zK p l e R s m args below meth c Q E (pc + 1) lo ((0, (z_str j).getD i.toNat 0) :: s0) T T V cells slots) : W p l e R s m args below meth c H locs cells slots Q (F0 m pc ls (((0, i) :: (5, j) :: s0).map (rv E))) := by
  obtain ⟨hx, hb, hml, hown, hts, hKK, hini⟩ := C
  obtain ⟨hR, hV, hL, ho, hk⟩ := S
  obtain ⟨g1, g2, g3, g4⟩ := hKK.2.2.2.2.1.1 j.toNat (by omega)
  have h7 := z_len7 ⟨j.toNat, by omega⟩
  rw [show (((⟨j.toNat, by omega⟩ : Fin 7).val : Nat) : Int) = j from by show ((j.toNat : Nat) : Int) = j; omega] at h7
  have h8 := z_byt7 ⟨j.toNat, by omega⟩ ⟨i.toNat, by omega⟩
  rw [show (((⟨j.toNat, by omega⟩ : Fin 7).val : Nat) : Int) = j from by show ((j.toNat : Nat) : Int) = j; omega] at h8
  obtain ⟨h8a, h8b⟩ := h8
  have h8a : Int32.ofInt ((z_str j).getD i.toNat 0) = (zbyts.getD j.toNat []).getD i.toNat 0 := h8a
  have h8b : 0 ≤ (z_str j).getD i.toNat 0 ∧ (z_str j).getD i.toNat 0 ≤ 127 := h8b
  obtain ⟨cell, q1, q2, q3, q4, q5, q6, -⟩ := g4.kept hV.2.1
  have hi32 : z32 i := ⟨by omega, by omega⟩
  have h7' : ((z_str j).length : Int) = ((zlens.getD j.toNat 0 : Nat) : Int) := h7.1
  have hlt : i.toNat < zlens.getD j.toNat 0 := by omega
  have K := kk H locs ls cells slots rfl rfl ⟨hR, hV, hL, ho, hk.tl.tl.cons (zok0 ⟨by omega, by omega⟩)⟩
  rw [List.map_cons, show rv E (0, (z_str j).getD i.toNat 0) = .int (Int32.ofInt ((z_str j).getD i.toNat 0)) from rfl, h8a] at K
  rw [List.map_cons, List.map_cons, show rv E (0, i) = .int (Int32.ofInt i) from rfl]
  refine W.bald (v := .int ((zbyts.getD j.toNat []).getD i.toNat 0)) hx hb q1 q2 q3 ?_ ?_ rfl rfl hd K
  · rintro (q | q)
    · exact znn hi32 hi.1 q
    · rw [znat hi32 hi.1] at q; omega
  · rw [znat hi32 hi.1]; exact q6 _ hlt
theorem zi_alen (C : zCX p s m args meth c E k) (hd : decode (zby k) pc = .ok (.arraylength, 1)) (hs : z_step (68, pc + 1, a, b, ts) lo st T V = some (.inl (pc', lo', st', T', V'))) (S : zSt E s T V H locs ls lo st) (kk : zK p l e R s m args below meth c Q E pc' lo' st' T T' V' cells slots) : W p l e R s m args below meth c H locs cells slots Q (F0 m pc ls (st.map (rv E))) := by
  simp only [z_step] at hs
  rcases zv_len hs with ⟨j, s0, rfl, rfl, rfl, rfl, rfl, rfl⟩ | ⟨j, s0, rfl, hj, rfl, rfl, rfl, rfl, rfl⟩ | ⟨x, s0, rfl, hx0, hc0, rfl, rfl, rfl, rfl, rfl⟩
  · exact zi_slen C hd S kk
  · exact zi_clen C hd hj S kk
  · obtain ⟨hx, hb, hml, hown, hts, hKK, hini⟩ := C
    obtain ⟨hR, hV, hL, ho, hk⟩ := S
    have hA := zarr_at (t := (zc T' x).toNat) (by omega) hR ⟨hx0.1, hx0.2, by omega⟩
    obtain ⟨q1, q2, q3, q4⟩ := hA
    have K := kk H locs ls cells slots rfl rfl ⟨hR, hV, hL, ho, hk.tl.cons (zok0 ⟨by omega, by omega⟩)⟩
    rw [List.map_cons, show rv E (2, x) = .ref (eZ E + x.toNat) from zrr_pos hx0.1]
    refine W.alen (n := Int32.ofInt (zl T' x)) hx hb q1 ((hKK.2.1 (zc T' x).toNat (by omega)).1 _ _) ?_ rfl rfl hd K
    rw [arrV_size]
    have h9 : Int32.ofInt (((zl T' x).toNat : Nat) : Int) = Int32.ofNat (zl T' x).toNat := rfl
    rw [Int.toNat_of_nonneg q2] at h9
    exact h9.symm
theorem zi_new (C : zCX p s m args meth c E k) {ix : Nat} (hcl : Jvm.Cond.classLink (zCn (zown k)) ix (zCn a) ∈ zWS) (hd : decode (zby k) pc = .ok (.new ix, 3)) (hs : z_step (69, pc + 3, a, b, ts) lo st T V = some (.inl (pc', lo', st', T', V'))) (hcc : cells + T'.1 ≤ R.cells + T.1) (hss : slots + T'.2.1 ≤ R.slots + T.2.1) (S : zSt E s T V H locs ls lo st) (kk : zK p l e R s m args below meth c Q E pc' lo' st' T T' V' cells slots) : W p l e R s m args below meth c H locs cells slots Q (F0 m pc ls (st.map (rv E))) := by
  obtain ⟨hx, hb, hml, hown, hts, hKK, hini⟩ := C
  obtain ⟨hR, hV, hL, ho, hk⟩ := S
  simp only [z_step] at hs
  obtain ⟨ha, rfl, rfl, rfl, rfl, rfl⟩ := zv_new hs
  have hins : Jvm.Cond.instantiable (zCn a) (zfN a) ∈ zWS ∧ Jvm.Cond.initialized (zCn a) ∈ zWS := by
    have h1 : ∀ a, a < 13 → z_ins.any (fun q => q.1 == a) = true := by decide +kernel
    obtain ⟨q, hq, h2⟩ := List.any_eq_true.mp (h1 a ha)
    have h3 := List.all_eq_true.mp zins_ok q hq
    rw [Bool.and_eq_true] at h3
    rw [beq_iff_eq.mp h2] at h3
    exact ⟨zw_mem h3.1, zw_mem h3.2⟩
  have hKn := hKK.1 a ha
  have ec : cells + (T.1 + 1) ≤ R.cells + T.1 := hcc
  have es : slots + (T.2.1 + ((zfN a : Nat) : Int).toNat) ≤ R.slots + T.2.1 := hss
  refine W.newcK hx hb hown (hts _ hcl) (hts _ hins.1) (hts _ hins.2) rfl hd (by omega) (by omega) hKn.2.1 rfl fun H1 kC hkC e1 z1 o1 => ?_
  have hz := hR.1
  rw [show ({ F0 m pc ls (st.map (rv E)) with pc := pc + 3, stack := .ref H.size :: (F0 m pc ls (st.map (rv E))).stack } : JFrame) = F0 m (pc + 3) ls (((2, zsz T) :: st).map (rv E)) by
    rw [List.map_cons, show rv E (2, zsz T) = .ref (eZ E + (zsz T).toNat) from zrr_pos (by show (0 : Int) ≤ (T.1 : Int); omega), hz]
    show _ = F0 m (pc + 3) ls (.ref (eZ E + ((T.1 : Nat) : Int).toNat) :: _)
    rfl]
  refine kk _ _ _ _ _ (by show cells + 1 + T.1 = cells + (T.1 + 1); omega) (by show slots + zfN a + T.2.1 = slots + (T.2.1 + ((zfN a : Nat) : Int).toNat); omega) ⟨hR.push z1 o1 ⟨fun t ht e2 => by omega, fun cj hcj e2 => ?_⟩, ⟨Nat.le_trans hV.1 (by omega), fun q h1 h2 => (o1 q (Nat.lt_of_lt_of_le h1 hV.1)).trans (hV.2.1 q h1 h2), hV.2.2⟩, hL, ho, hk.cons (zokr (by decide))⟩
  have e3 : cj = a := by omega
  subst e3
  obtain ⟨cell, g1, g2, g3, g4⟩ := u_born (zTy cj) hts (zuws ha) hKn hkC e1 (zty_ok cj ha)
  refine ⟨⟨cell, g1, g2, g3, fun j hj => ?_⟩, fun j hj => by show z32 0; decide⟩
  rw [g4 j hj]
  congr 1
  show defaultValue (zTy cj j) = _
  unfold zfv
  rcases ztk_ok cj ha j hj with h | h | h
  · rw [if_pos h]
    show _ = zrr E (-1)
    rw [zrr, if_pos (by decide)]
    cases hq : zTy cj j <;> rw [hq] at h <;> simp [z_isR] at h <;> rfl
  · rw [h]; rfl
  · rw [h]; rfl
theorem zi_narr (C : zCX p s m args meth c E k) {t : ArrayType} (hta : a = z_ai t) (ha : a < 4) (hd : decode (zby k) pc = .ok (.newarray t, 2)) (hs : z_step (70, pc + 2, a, b, ts) lo st T V = some (.inl (pc', lo', st', T', V'))) (hcc : cells + T'.1 ≤ R.cells + T.1) (hss : slots + T'.2.1 ≤ R.slots + T.2.1) (S : zSt E s T V H locs ls lo st) (kk : zK p l e R s m args below meth c Q E pc' lo' st' T T' V' cells slots) : W p l e R s m args below meth c H locs cells slots Q (F0 m pc ls (st.map (rv E))) := by
  obtain ⟨hx, hb, hml, hown, hts, hKK, hini⟩ := C
  obtain ⟨hR, hV, hL, ho, hk⟩ := S
  simp only [z_step] at hs
  obtain ⟨x, s0, rfl, hx0, rfl, rfl, rfl, rfl, rfl⟩ := zv_nar hs
  have hx32 : z32 x := hk.hd.1 rfl
  have hq := zarr_ok
  simp only [Bool.and_eq_true] at hq
  have hty : newarray.typeOf t = zaty a ∧ Jvm.Cond.arrayClass (newarray.typeOf t) ∈ zWS ∧ componentBytes (newarray.typeOf t) ≤ 8 ∧ (∀ v : Int, zav E a (-1) v = .int (Int32.ofInt v) ∨ zav E a (-1) v = .long (Int64.ofInt v)) ∧ defaultValue (newarray.typeOf t) = zav E a (-1) 0 ∧ zrg a 0 := by
    cases t <;> simp only [z_ai] at hta <;> subst hta <;> first | omega | skip
    · exact ⟨rfl, zw_mem hq.2.2.2, by decide, fun v => Or.inl rfl, rfl, ⟨by decide, by decide⟩⟩
    · exact ⟨rfl, zw_mem hq.2.2.1, by decide, fun v => Or.inl rfl, rfl, ⟨by decide, by decide⟩⟩
    · exact ⟨rfl, zw_mem hq.1, by decide, fun v => Or.inl rfl, rfl, ⟨by decide, by decide⟩⟩
    · exact ⟨rfl, zw_mem hq.2.1, by decide, fun v => Or.inr rfl, rfl, ⟨by decide, by decide⟩⟩
  obtain ⟨t1, t2, t3, t4, t5, t6⟩ := hty
  have ec : cells + (T.1 + 1) ≤ R.cells + T.1 := hcc
  have es : slots + (T.2.1 + x.toNat) ≤ R.slots + T.2.1 := hss
  have hbytes : x.toNat * componentBytes (newarray.typeOf t) ≤ 536870912 := by
    have h1 : x.toNat * componentBytes (newarray.typeOf t) ≤ x.toNat * 8 := Nat.mul_le_mul_left _ t3
    omega
  refine va_newaK hx hb (hts _ t2) rfl hd (n := Int32.ofInt x) (N := x.toNat) rfl (znn hx32 hx0.1) (znat hx32 hx0.1) hbytes (by omega) (by omega) rfl fun H1 cA e1 z1 o1 hAr hNm => ?_
  have hz := hR.1
  have hcA : cA = eA E a := by
    have h2 := (hKK.2.1 a (by omega)).2
    rw [← t1] at h2
    have h3 : s.vm.findClass ("[" ++ (newarray.typeOf t).toString) = some (eA E a) := by
      cases t <;> exact h2
    exact Option.some.inj (hNm.symm.trans h3)
  subst hcA
  rw [show ({ F0 m pc ls (.int (Int32.ofInt x) :: s0.map (rv E)) with pc := pc + 2, stack := .ref H.size :: s0.map (rv E) } : JFrame) = F0 m (pc + 2) ls (((2, zsz T) :: s0).map (rv E)) by
    rw [List.map_cons, show rv E (2, zsz T) = .ref (eZ E + (zsz T).toNat) from zrr_pos (by show (0 : Int) ≤ (T.1 : Int); omega), hz]
    show _ = F0 m (pc + 2) ls (.ref (eZ E + ((T.1 : Nat) : Int).toNat) :: _)
    rfl]
  refine kk _ _ _ _ _ (by show cells + 1 + T.1 = cells + (T.1 + 1); omega) (by show slots + x.toNat + T.2.1 = slots + (T.2.1 + x.toNat); omega) ⟨hR.push z1 o1 ⟨fun u hu e2 => ?_, fun cj hcj e2 => by omega⟩, ⟨Nat.le_trans hV.1 (by omega), fun q h1 h2 => (o1 q (Nat.lt_of_lt_of_le h1 hV.1)).trans (hV.2.1 q h1 h2), hV.2.2⟩, hL, ho, hk.tl.cons (zokr (by decide))⟩
  have e3 : u = a := by omega
  subst e3
  refine ⟨?_, hx0.1, hx0.2, fun j hj => t6⟩
  rw [e1, t5]
theorem zi_anew (C : zCX p s m args meth c E k) {ix : Nat} (hcl : Jvm.Cond.classLink (zCn (zown k)) ix (zCn 6) ∈ zWS) (hd : decode (zby k) pc = .ok (.anewarray ix, 3)) (hs : z_step (71, pc + 3, a, b, ts) lo st T V = some (.inl (pc', lo', st', T', V'))) (hcc : cells + T'.1 ≤ R.cells + T.1) (hss : slots + T'.2.1 ≤ R.slots + T.2.1) (S : zSt E s T V H locs ls lo st) (kk : zK p l e R s m args below meth c Q E pc' lo' st' T T' V' cells slots) : W p l e R s m args below meth c H locs cells slots Q (F0 m pc ls (st.map (rv E))) := by
  obtain ⟨hx, hb, hml, hown, hts, hKK, hini⟩ := C
  obtain ⟨hR, hV, hL, ho, hk⟩ := S
  simp only [z_step] at hs
  obtain ⟨x, s0, rfl, hx0, rfl, rfl, rfl, rfl, rfl⟩ := zv_nar hs
  have hx32 : z32 x := hk.hd.1 rfl
  have ec : cells + (T.1 + 1) ≤ R.cells + T.1 := hcc
  have es : slots + (T.2.1 + x.toNat) ≤ R.slots + T.2.1 := hss
  have hn := znat hx32 hx0.1
  refine W.anew hx hb hown (hts _ hcl) (va_AO.use hKK.2.2.2.2.2.2.2.1) rfl hd (n := Int32.ofInt x) rfl (znn hx32 hx0.1) (by rw [hn]; omega) (by omega) (by rw [hn]; omega) fun cA kA comp f1 f2 f3 f4 => ?_
  rw [hn]
  generalize hH1 : H.push ({ cls := cA, slots := Array.replicate x.toNat .null, vm := .none } : Cell) = H1
  have z1 : H1.size = H.size + 1 := by rw [← hH1, Array.size_push]
  have e1 : H1[H.size]? = some (arrV cA x.toNat (fun _ => .null)) := by rw [← hH1, Array.getElem?_push_size, ← arrV_new]
  have o1 : ∀ q : Nat, q < H.size → H1[q]? = H[q]? := fun q hq => by rw [← hH1, Array.getElem?_push, if_neg (Nat.ne_of_lt hq)]
  have hz := hR.1
  have hcA : cA = eA E 4 := by
    obtain ⟨kA', comp', k1, k2, k3, k4⟩ := (hKK.2.1 4 (by decide)).2
    exact Option.some.inj (f1.symm.trans k4)
  subst hcA
  rw [show ({ F0 m pc ls (.int (Int32.ofInt x) :: s0.map (rv E)) with pc := pc + 3, stack := .ref H.size :: s0.map (rv E) } : JFrame) = F0 m (pc + 3) ls (((2, zsz T) :: s0).map (rv E)) by
    rw [List.map_cons, show rv E (2, zsz T) = .ref (eZ E + (zsz T).toNat) from zrr_pos (by show (0 : Int) ≤ (T.1 : Int); omega), hz]
    show _ = F0 m (pc + 3) ls (.ref (eZ E + ((T.1 : Nat) : Int).toNat) :: _)
    rfl]
  refine kk _ _ _ _ _ (by show cells + 1 + T.1 = cells + (T.1 + 1); omega) (by show slots + x.toNat + T.2.1 = slots + (T.2.1 + x.toNat); omega) ⟨hR.push z1 o1 ⟨fun u hu e2 => ?_, fun cj hcj e2 => by omega⟩, ⟨Nat.le_trans hV.1 (by omega), fun q h1 h2 => (o1 q (Nat.lt_of_lt_of_le h1 hV.1)).trans (hV.2.1 q h1 h2), hV.2.2⟩, hL, ho, hk.tl.cons (zokr (by decide))⟩
  have e3 : u = 4 := by omega
  subst e3
  refine ⟨?_, hx0.1, hx0.2, fun j hj => trivial⟩
  rw [e1]
  rfl
end ZSN4
