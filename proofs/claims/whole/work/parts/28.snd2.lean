/-! AM's instructions on the heap are what the machine does -/
theorem zly_any : ∀ ci, ci < 13 → ∀ k, k < zfN ci → z_ly.any (fun q => q.1 == ci && q.2.1 == k) = true := by decide +kernel
theorem zlay {ci k : Nat} (h1 : ci < 13) (h2 : k < zfN ci) : u_lay (zCn ci) (zTX ci) k ∈ zWS := by
  obtain ⟨q, hq, h3⟩ := List.any_eq_true.mp (zly_any ci h1 k h2)
  simp only [Bool.and_eq_true, beq_iff_eq] at h3
  have h4 := zw_mem (List.all_eq_true.mp zly_ok q hq)
  rwa [h3.1, h3.2] at h4
theorem zuws {ci : Nat} (h1 : ci < 13) : ∀ w ∈ u_ws (zCn ci) (zTX ci) (zfN ci), w ∈ zWS := by
  intro w hw
  obtain ⟨k, hk, rfl⟩ := List.mem_map.mp hw
  exact zlay h1 (List.mem_range.mp hk)
theorem zty_ok : ∀ ci, ci < 13 → ∀ k, k < zfN ci → parseFieldDescriptor (zTX ci k).2.2.1 = some (zTy ci k) := by decide +kernel
theorem znm_ok : ∀ ci, ci < 13 → ∀ a, a < zfN ci → ∀ b, b < zfN ci → a ≠ b → (zTX ci a).2.1 ≠ (zTX ci b).2.1 := by decide +kernel
theorem zdc_ok : ∀ ci, ci < 13 → ∀ k, k < zfN ci → (zTX ci k).1 = zCn ci := by decide +kernel
theorem ztk_ok : ∀ ci, ci < 13 → ∀ k, k < zfN ci → (z_isR (zTy ci k) = true ∨ zTy ci k = .int ∨ zTy ci k = .boolean) := by decide +kernel
theorem zapart {E : zEn} {s : State} {args : Array Value} (hts : ∀ w ∈ zWS, w.before args s = true) (hKK : zKK E s) {ci : Nat} (hci : ci < 13) : ∀ x y, x < zfN ci → y < zfN ci → x ≠ y → eI E ci x ≠ eI E ci y := by
  intro x y hx hy hne
  obtain ⟨hS, -⟩ := hKK.1 ci hci
  obtain ⟨_, _, _, fa, hia, ea⟩ := hS x hx
  obtain ⟨_, _, _, fb, hib, eb⟩ := hS y hy
  rw [← ea, ← eb]
  refine u_apart (u_lays hts (zuws hci) hx) (u_lays hts (zuws hci) hy) hia hib ?_
  rw [(State.fieldFound?_type hia (zty_ok ci hci x hx)).1, (State.fieldFound?_type hib (zty_ok ci hci y hy)).1]
  exact znm_ok ci hci x hx y hy hne
theorem zrr_fit (E : zEn) (x : Int) {ty : FieldType} (h : z_isR ty = true) : narrow ty (zrr E x) = zrr E x ∧ fits ty (zrr E x) = true := by
  unfold zrr
  cases ty <;> simp [z_isR] at h <;> split <;> exact ⟨rfl, rfl⟩
theorem zbool_fit {y : Int} (h : 0 ≤ y ∧ y ≤ 1) : narrow .boolean (.int (Int32.ofInt y)) = .int (Int32.ofInt y) ∧ fits .boolean (.int (Int32.ofInt y)) = true := by
  have : y = 0 ∨ y = 1 := by omega
  rcases this with rfl | rfl <;> exact ⟨by decide, by decide⟩
theorem zbyte_nar : ∀ n : Fin 256, narrow .byte (.int (Int32.ofInt ((n.val : Int) - 128))) = .int (Int32.ofInt ((n.val : Int) - 128)) := by decide +kernel
theorem zbyte_fit {y : Int} (h : -128 ≤ y ∧ y ≤ 127) : narrow .byte (.int (Int32.ofInt y)) = .int (Int32.ofInt y) := by
  have h1 := zbyte_nar ⟨(y + 128).toNat, by omega⟩
  have h2 : (((⟨(y + 128).toNat, by omega⟩ : Fin 256).val : Nat) : Int) - 128 = y := by show (((y + 128).toNat : Nat) : Int) - 128 = y; omega
  rwa [h2] at h1
section ZSN2
variable {p : Program} {l : Launch} {e : Env} {R : Room} {s : State} {m : MethodId} {args : Array Value} {below : List Frame} {meth : Method} {c : Code} {H : Heap} {locs : List Loc} {cells slots : Nat} {Q : State → Prop} {E : zEn} {k pc pc' a : Nat} {b : Int} {ts : List Nat} {ls : Array Slot} {lo st lo' st' : List zV} {T T' : zT} {V V' : zM}
theorem zi_goto (C : zCX p s m args meth c E k) {off : Int} (ht : (pc : Int) + off = (a : Int)) {nx : Nat} (hd : decode (zby k) pc = .ok (.goto off, 3)) (hs : z_step (53, nx, a, b, ts) lo st T V = some (.inl (pc', lo', st', T', V'))) (S : zSt E s T V H locs ls lo st) (kk : zK p l e R s m args below meth c Q E pc' lo' st' T T' V' cells slots) : W p l e R s m args below meth c H locs cells slots Q (F0 m pc ls (st.map (rv E))) := by
  obtain ⟨hx, hb, -⟩ := C
  simp only [z_step] at hs
  obtain ⟨rfl, rfl, rfl, rfl, rfl⟩ := zgo_inv hs
  exact lv_goto hx hb hd ht (kk _ _ _ _ _ rfl rfl S)
theorem zi_tsw (C : zCX p s m args meth c E k) {d hi : Int} {offs : Array Int} {n nx : Nat} (hhi : hi = b + (offs.size : Int) - 1) (hts : ts.map (fun t => ((t : Nat) : Int)) = (d :: offs.toList).map (fun t => (pc : Int) + t)) (hd : decode (zby k) pc = .ok (.tableswitch d b hi offs, n)) (hs : z_step (54, nx, a, b, ts) lo st T V = some (.inl (pc', lo', st', T', V'))) (S : zSt E s T V H locs ls lo st) (kk : zK p l e R s m args below meth c Q E pc' lo' st' T T' V' cells slots) : W p l e R s m args below meth c H locs cells slots Q (F0 m pc ls (st.map (rv E))) := by
  obtain ⟨hx, hb, -⟩ := C
  obtain ⟨hR, hV, hL, ho, hk⟩ := S
  simp only [z_step] at hs
  obtain ⟨x, s0, rfl, hg, rfl, rfl, rfl, rfl⟩ := zv_sw hs
  have hxx := hk.hd.1 rfl
  have hlen : ts.length = offs.size + 1 := by
    have := congrArg List.length hts
    simpa using this
  have hat : ∀ (i : Nat) (t : Nat), ts[i]? = some t → ∃ o : Int, (d :: offs.toList)[i]? = some o ∧ (pc : Int) + o = (t : Int) := by
    intro i t ht
    have h1 : (ts.map (fun t => ((t : Nat) : Int)))[i]? = some (t : Int) := by rw [List.getElem?_map, ht]; rfl
    rw [hts, List.getElem?_map] at h1
    cases hq : (d :: offs.toList)[i]? with
    | none => rw [hq] at h1; cases h1
    | some o => rw [hq] at h1; exact ⟨o, rfl, Option.some.inj h1⟩
  rcases hg with ⟨g1, rfl⟩ | ⟨g1, rfl⟩
  · have hi2 : (x - b).toNat + 1 < ts.length := by omega
    obtain ⟨t, ht⟩ : ∃ t, ts[(x - b).toNat + 1]? = some t := ⟨_, List.getElem?_eq_getElem hi2⟩
    obtain ⟨o, ho1, ho2⟩ := hat _ _ ht
    have e1 : ts.getD ((x - b).toNat + 1) 0 = t := by rw [List.getD_eq_getElem?_getD, ht]; rfl
    rw [e1] at kk
    rw [List.getElem?_cons_succ, Array.getElem?_toList] at ho1
    refine lv_tableIn (x := Int32.ofInt x) (off := o) (tgt := t) hx hb hd ?_ ?_ ?_ ho2 (kk _ _ _ _ _ rfl rfl ⟨hR, hV, hL, ho, hk.tl⟩)
    · rw [zt32 hxx]; omega
    · rw [zt32 hxx]; omega
    · rw [zt32 hxx]; exact ho1
  · obtain ⟨t, ht⟩ : ∃ t, ts[0]? = some t := ⟨_, List.getElem?_eq_getElem (by omega)⟩
    obtain ⟨o, ho1, ho2⟩ := hat _ _ ht
    have e1 : ts.getD 0 0 = t := by rw [List.getD_eq_getElem?_getD, ht]; rfl
    rw [e1] at kk
    rw [List.getElem?_cons_zero] at ho1
    cases ho1
    refine lv_tableOut (x := Int32.ofInt x) (tgt := t) hx hb hd ?_ ho2 (kk _ _ _ _ _ rfl rfl ⟨hR, hV, hL, ho, hk.tl⟩)
    rw [zt32 hxx]; omega
/-- what getfield finds -/
theorem zi_getf (C : zCX p s m args meth c E k) {ix : Nat} (hv : Jvm.Cond.fieldLink (zCn (zown k)) ix (zCn a) (zTX a b.toNat).2.1 (zTX a b.toNat).2.2.1 ∈ zWS) (hb0 : 0 ≤ b ∧ b < (zfN a : Int) ∧ a < 13) (hd : decode (zby k) pc = .ok (.getfield ix, 3)) {x : Int} {s0 : List zV} {v : Value} (hR : zRel E T V H) (hx0 : 0 ≤ x ∧ x < zsz T ∧ zc T x = (a : Int) + 10) (he : v = zfv E a b.toNat (zp T x) (V x)) (kk : W p l e R s m args below meth c H locs cells slots Q (F0 m (pc + 3) ls (v :: s0.map (rv E)))) : W p l e R s m args below meth c H locs cells slots Q (F0 m pc ls (((2, x) :: s0).map (rv E))) := by
  obtain ⟨hx, hb, hml, hown, hts, hKK, hini⟩ := C
  have hkN : b.toNat < zfN a := by omega
  obtain ⟨⟨cell, q1, q2, q3, q4⟩, q5⟩ := (hR.cell hx0.1 hx0.2.1).2 a hb0.2.2 hx0.2.2
  obtain ⟨hS, hfc, kC, hkC, hkind⟩ := hKK.1 a hb0.2.2
  obtain ⟨cf, kf, fi, f, hi, hsl⟩ := hS b.toNat hkN
  rw [zdc_ok a hb0.2.2 _ hkN] at hi
  have hi0 : s.fieldFound? (zTX a b.toNat).1 (zTX a b.toNat).2.1 (zTX a b.toNat).2.2.1 = some (cf, kf, fi, f) := by rw [zdc_ok a hb0.2.2 _ hkN]; exact hi
  rw [List.map_cons, show rv E (2, x) = .ref (eZ E + x.toNat) from zrr_pos hx0.1]
  refine W.getf hx hb hown (hts _ hv) hi (u_facts hfc hkC (u_lays hts (zuws hb0.2.2) hkN) hi0).1 q1 (by rw [q3]; exact fun h => by cases h) (v := v) ?_ rfl rfl hd kk
  rw [hsl, q4 _ hkN, he]
theorem zi_geti (C : zCX p s m args meth c E k) {ix : Nat} (hv : Jvm.Cond.fieldLink (zCn (zown k)) ix (zCn a) (zTX a b.toNat).2.1 (zTX a b.toNat).2.2.1 ∈ zWS) (hb0 : 0 ≤ b ∧ b < (zfN a : Int) ∧ a < 13) (hty : zTy a b.toNat = .int ∨ zTy a b.toNat = .boolean) (hd : decode (zby k) pc = .ok (.getfield ix, 3)) (hs : z_step (55, pc + 3, a, b, ts) lo st T V = some (.inl (pc', lo', st', T', V'))) (S : zSt E s T V H locs ls lo st) (kk : zK p l e R s m args below meth c Q E pc' lo' st' T T' V' cells slots) : W p l e R s m args below meth c H locs cells slots Q (F0 m pc ls (st.map (rv E))) := by
  obtain ⟨hR, hV, hL, ho, hk⟩ := S
  simp only [z_step] at hs
  obtain ⟨x, s0, rfl, hx0, rfl, rfl, rfl, rfl, rfl⟩ := zv_get hs
  have hkN : b.toNat < zfN a := by omega
  obtain ⟨-, q5⟩ := (hR.cell hx0.1 hx0.2.1).2 a hb0.2.2 hx0.2.2
  have h5 := q5 _ hkN
  rw [Int.toNat_of_nonneg hb0.1] at h5
  refine zi_getf C hv hb0 hd (v := .int (Int32.ofInt (V' x b))) hR hx0 ?_ (kk _ _ _ _ _ rfl rfl ⟨hR, hV, hL, ho, hk.tl.cons (zok0 h5)⟩)
  rw [zfv, if_neg, Int.toNat_of_nonneg hb0.1]
  rcases hty with h | h <;> rw [h] <;> decide
theorem zi_getr (C : zCX p s m args meth c E k) {ix : Nat} (hv : Jvm.Cond.fieldLink (zCn (zown k)) ix (zCn a) (zTX a b.toNat).2.1 (zTX a b.toNat).2.2.1 ∈ zWS) (hb0 : 0 ≤ b ∧ b < (zfN a : Int) ∧ a < 13) (hty : z_isR (zTy a b.toNat) = true) (hd : decode (zby k) pc = .ok (.getfield ix, 3)) (hs : z_step (56, pc + 3, a, b, ts) lo st T V = some (.inl (pc', lo', st', T', V'))) (S : zSt E s T V H locs ls lo st) (kk : zK p l e R s m args below meth c Q E pc' lo' st' T T' V' cells slots) : W p l e R s m args below meth c H locs cells slots Q (F0 m pc ls (st.map (rv E))) := by
  obtain ⟨hR, hV, hL, ho, hk⟩ := S
  simp only [z_step] at hs
  obtain ⟨x, s0, rfl, hx0, rfl, rfl, rfl, rfl, rfl⟩ := zv_get hs
  refine zi_getf C hv hb0 hd (v := zrr E (zp T' x b)) hR hx0 ?_ (kk _ _ _ _ _ rfl rfl ⟨hR, hV, hL, ho, hk.tl.cons (zokr (by decide))⟩)
  rw [zfv, if_pos hty, Int.toNat_of_nonneg hb0.1]
/-- what putfield does: the cell's slot is written, nothing else -/
theorem zi_putf (C : zCX p s m args meth c E k) {ix : Nat} (hv : Jvm.Cond.fieldLink (zCn (zown k)) ix (zCn a) (zTX a b.toNat).2.1 (zTX a b.toNat).2.2.1 ∈ zWS) (hb0 : 0 ≤ b ∧ b < (zfN a : Int) ∧ a < 13) (hfin : (zTX a b.toNat).2.2.2 = false ∨ ((zy k).name = "<init>" ∧ (zTX a b.toNat).1 = zCn (zown k))) (hd : decode (zby k) pc = .ok (.putfield ix, 3)) {x : Int} {s0 : List zV} {v : Value} (hR : zRel E T V H) (hV : va_S (zA E) s.heap H locs) (hx0 : 0 ≤ x ∧ x < zsz T ∧ zc T x = (a : Int) + 10) (hn : narrow (zTy a b.toNat) v = v) (hfit : fits (zTy a b.toNat) v = true)
    (kk : ∀ (H1 : Heap) (locs1 : List Loc), H1.size = H.size → (∀ q : Nat, q ≠ eZ E + x.toNat → H1[q]? = H[q]?) → va_S (zA E) s.heap H1 locs1 → (∃ cell : Cell, H1[eZ E + x.toNat]? = some cell ∧ cell.cls = eC E a ∧ cell.vm = .none ∧ ∀ j, j < zfN a → cell.slots[eI E a j]? = some (updV (fun j => zfv E a j (zp T x) (V x)) b.toNat v j)) → W p l e R s m args below meth c H1 locs1 cells slots Q (F0 m (pc + 3) ls (s0.map (rv E)))) : W p l e R s m args below meth c H locs cells slots Q (F0 m pc ls (v :: rv E (2, x) :: s0.map (rv E))) := by
  obtain ⟨hx, hb, hml, hown, hts, hKK, hini⟩ := C
  have hkN : b.toNat < zfN a := by omega
  have hap := zapart hts hKK hb0.2.2
  obtain ⟨⟨cell, q1, q2, q3, q4⟩, q5⟩ := (hR.cell hx0.1 hx0.2.1).2 a hb0.2.2 hx0.2.2
  obtain ⟨hS, hfc, kC, hkC, hkind⟩ := hKK.1 a hb0.2.2
  obtain ⟨cf, kf, fi, f, hi0, hsl⟩ := hS b.toNat hkN
  have hi : s.fieldFound? (zCn a) (zTX a b.toNat).2.1 (zTX a b.toNat).2.2.1 = some (cf, kf, fi, f) := by rw [← zdc_ok a hb0.2.2 _ hkN]; exact hi0
  have hlays := u_lays hts (zuws hb0.2.2) hkN
  have hst := (u_facts hfc hkC hlays hi0).1
  have hlay := hts _ (zlay hb0.2.2 hkN)
  unfold u_lay at hlay
  have hput : ∀ {V0 H1 : Heap} {locs1 : List Loc}, va_S (zA E) s.heap H locs → H1.size = H.size → (∀ q : Nat, q ≠ eZ E + x.toNat → H1[q]? = H[q]?) → va_S (zA E) s.heap H1 (locs ++ [⟨eZ E + x.toNat, f.slot⟩]) := by
    intro V0 H1 locs1 h1 h2 h3
    exact h1.put h2 h3 (show eZ E ≤ eZ E + x.toNat by omega)
  rw [show rv E (2, x) = .ref (eZ E + x.toNat) from zrr_pos hx0.1]
  by_cases hfl : (zTX a b.toNat).2.2.2 = true
  rotate_left
  · rw [if_neg hfl] at hlay
    have h6 := u_store hfc hkC hkind hlay hi0 (zty_ok a hb0.2.2 _ hkN) hn hfit
    refine W.putK hx hb (f := f) ⟨hown, hts _ hv, ⟨_, _, _, hi⟩, hst⟩ (by rw [q2]; exact h6) q1 q3 (by rw [hsl]; exact k2_hasslot (q4 _ hkN)) rfl rfl hd fun H' e1 e2 e3 => ?_
    refine kk H' _ e2 e3 (hput (V0 := H) (locs1 := locs) hV e2 e3) ⟨_, e1, q2, q3, ?_⟩
    rw [hsl]
    exact t_set q4 hap hkN v
  · obtain ⟨hf1, hf2⟩ : (zy k).name = "<init>" ∧ (zTX a b.toNat).1 = zCn (zown k) := by
      rcases hfin with h | h
      · rw [h] at hfl; cases hfl
      · exact h
    have hcf : m.cls = cf := by
      rw [if_pos hfl] at hlay
      obtain ⟨_, _, c', _, _, _, -, -, hf', -, -, -, hown2, -⟩ := Cond.laysFinal_spec hlay
      have e1 : c' = cf := by have := hi0.symm.trans hf'; simp at this; exact this.1.symm
      rw [hf2] at hown2
      rw [← e1]; exact Option.some.inj (hown.symm.trans hown2)
    have h6 := u_fits hfc hkC hkind hlays hi0 (zty_ok a hb0.2.2 _ hkN) hn hfit
    refine W.putFinK hx hb hown (hts _ hv) hi hst hcf (hini hf1) (by rw [q2]; exact h6) q1 q3 (by rw [hsl]; exact k2_hasslot (q4 _ hkN)) rfl rfl hd fun H' e1 e2 e3 => ?_
    refine kk H' _ e2 e3 (hput (V0 := H) (locs1 := locs) hV e2 e3) ⟨_, e1, q2, q3, ?_⟩
    rw [hsl]
    exact t_set q4 hap hkN v
end ZSN2
