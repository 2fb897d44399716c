/-! calls, ends, and the whole: what AM computes the machine does -/
theorem zall_ok : ∀ k, k < 245 → zmL k = (z_all.getD k zM0).2.2.1 ∧ 1 ≤ zlv k := by decide +kernel
theorem zcal_lt : z_cal.all (fun q => decide (1 ≤ q.1 ∧ q.1 < 245)) = true := by decide +kernel
theorem zml_le : z_cal.all (fun q => decide (zmL q.1 + 19 ≤ 36)) = true := by decide +kernel
def zrO (E : zEn) (r : zV) : Option Value := if r.1 = 9 then none else some (rv E r)
def zwk (k : Nat) : List Jvm.Cond := Jvm.Cond.code (zy k) (zby k) (zmL k) (zret k) :: zWS
theorem zcode_in {k : Nat} (h1 : 1 ≤ k) (h2 : k < 245) : Jvm.Cond.code (zy k) (zby k) (zmL k) (zret k) ∈ zWS := by
  have hl : z_ms.length = 244 := by decide +kernel
  have h3 : z_all.getD k zM0 = z_ms.getD (k - 1) zM0 := by
    obtain ⟨j, rfl⟩ : ∃ j, k = j + 1 := ⟨k - 1, by omega⟩
    rfl
  have h4 : z_ms[k - 1]? = some (z_all.getD k zM0) := by
    rw [h3, List.getD_eq_getElem?_getD, List.getElem?_eq_getElem (by omega)]
    rfl
  have h5 : Jvm.Cond.code (zy k) (zby k) (zmL k) (zret k) ∈ z_ms.map (fun q => Jvm.Cond.code q.1 q.2.1 q.2.2.1 q.2.2.2) := by
    refine List.mem_map.mpr ⟨z_all.getD k zM0, List.mem_of_getElem? h4, ?_⟩
    rw [(zall_ok k h2).1]
    rfl
  rw [← z_codes] at h5
  exact List.mem_filter.mpr ⟨(List.mem_filter.mp h5).1, rfl⟩
theorem zgoodk {k : Nat} (h1 : 1 ≤ k) (h2 : k < 245) : GoodIn zWS (zwk k) := fun w hw => by
  rcases List.mem_cons.mp hw with rfl | h
  · exact ⟨zcode_in h1 h2, good_of_word rfl⟩
  · exact zWS_good w h
def zRm (k : Nat) (T T' : zT) : Room := { frames := zlv k, cells := T'.1 - T.1, slots := T'.2.1 - T.2.1, locals := 36 * zlv k }
def zPc (E : zEn) (as : List zV) (T : zT) (V : zM) : Array Value → State → Prop := fun a U => a = (as.map (rv E)).toArray ∧ zRel E T V U.heap ∧ zKK E U
def zQc (E : zEn) (r : zV) (T' : zT) (V' : zM) : Array Value → State → Outcome → State → Prop := fun _ st o t => o = .returned (zrO E r) ∧ zRel E T' V' t.heap ∧ va_F (zA E) st t ∧ zVok r
def zMet (l : Launch) (E : zEn) (k : Nat) (as : List zV) (T : zT) (V : zM) (r : zV) (T' : zT) (V' : zM) : Prop := Met l (zy k) (zwk k) (zRm k T T') (zPc E as T V) (zQc E r T' V') (T'.1 - T.1) (T'.2.1 - T.2.1) (zA E)
theorem zPc_blind (E : zEn) (as : List zV) (T : zT) (V : zM) : FrameBlind (zPc E as T V) := fun _ _ _ _ h => ⟨h.1, h.2.1, h.2.2.same rfl rfl⟩
section ZCA
variable {p : Program} {l : Launch} {e : Env} {R : Room} {s : State} {m : MethodId} {args : Array Value} {below : List Frame} {meth : Method} {c : Code} {H : Heap} {locs : List Loc} {cells slots mc ms : Nat} {Q : State → Prop} {E : zEn} {k pc : Nat} {ls : Array Slot} {rest st0 : List Value} {A : Array Value} {r : zV} {T' : zT} {V' : zM}
theorem z_after (hr : va_Run p l e R s m args below meth c H locs cells slots mc ms (F0 m pc ls st0) rest (zQc E r T' V' A) (zA E)) (hV : va_S (zA E) s.heap H locs)
    (kk : ∀ (H1 : Heap) (locs1 : List Loc), zRel E T' V' H1 → va_S (zA E) s.heap H1 locs1 → zVok r → W p l e R s m args below meth c H1 locs1 (cells + mc) (slots + ms) Q (F0 m (pc + 3) ls ((zrO E r).toList ++ rest))) : W p l e R s m args below meth c H locs cells slots Q (F0 m pc ls st0) := by
  intro T hT X
  obtain ⟨v, st₀, t, T', L, h0, X', hL, e1, e2, ⟨hv, hRel, ⟨hz, hk⟩, hok⟩, st⟩ := hr T hT X
  have hv : v = zrO E r := Outcome.returned.inj hv
  subst hv
  rw [h0] at hz hk
  obtain ⟨t2, a1, b1⟩ := kk T'.heap (locs ++ L) (by rw [e1]; exact hRel)
    ⟨Nat.le_trans hV.1 (by rw [e1]; exact hz), fun q h1 h2 => by rw [e1, hk q (Nat.lt_of_lt_of_le h1 hV.1) h2]; exact hV.2.1 q h1 h2, fun q hq => by
      rcases List.mem_append.mp hq with h | h
      · exact hV.2.2 q h
      · exact hL q h⟩ hok T' rfl X'
  exact ⟨t2, st t2 a1, b1⟩
end ZCA
theorem z_cal_spec {a kd : Nat} {f : Nat → Int} {b : Int} (h : z_cal.any (fun q => q.1 == a && (q.2.1 == kd && f q.2.2.1 == b)) = true) : ∃ np : Nat, f np = b ∧ (1 ≤ a ∧ a < 245) ∧ zmL a + 19 ≤ 36 ∧ Jvm.Cond.initialized (zy a).cls ∈ zWS ∧ ((zy a).cls ≠ "java/lang/invoke/MethodHandle" ∧ (zy a).cls ≠ "java/lang/invoke/VarHandle" ∧ (parseMethodDescriptor (zy a).desc).map (fun d => d.parameters.length) = some np) ∧ zCn (zown a) = (zy a).cls ∧ Jvm.plainName (zy a).cls = true ∧
    (if kd = 0 then Jvm.Cond.static (zy a) ∈ zWS else if kd = 1 then Jvm.Cond.instanceMethod (zy a) ∈ zWS ∧ (zy a).name = "<init>" ∧ zret a = none else Jvm.Cond.instanceMethod (zy a) ∈ zWS ∧ Jvm.Cond.selects (zy a).cls (zy a) (zy a) ∈ zWS) := by
  obtain ⟨q, hq, h1⟩ := List.any_eq_true.mp h
  simp only [Bool.and_eq_true, beq_iff_eq] at h1
  obtain ⟨h2, h3, h4⟩ := h1
  have h5 := List.all_eq_true.mp zcal_ok q hq
  have h6 := of_decide_eq_true (List.all_eq_true.mp zcal_lt q hq)
  have h7 := of_decide_eq_true (List.all_eq_true.mp zml_le q hq)
  unfold z_calq at h5
  rw [Bool.and_eq_true, Bool.and_eq_true, Bool.and_eq_true, Bool.and_eq_true, decide_eq_true_eq, decide_eq_true_eq] at h5
  obtain ⟨g1, g2, g3, g4, g5⟩ := h5
  rw [h2] at g1 g2 g3 g4 g5 h6 h7
  refine ⟨q.2.2.1, h4, h6, h7, zw_mem g1, g2, g3, g4, ?_⟩
  rw [h3] at g5
  split
  · rename_i hk
    rw [if_pos hk] at g5
    exact zw_mem g5
  · rename_i hk
    rw [if_neg hk] at g5
    split
    · rename_i hk2
      rw [if_pos hk2, Bool.and_eq_true, Bool.and_eq_true, decide_eq_true_eq, decide_eq_true_eq] at g5
      exact ⟨zw_mem g5.1, g5.2.1, g5.2.2⟩
    · rename_i hk2
      rw [if_neg hk2, Bool.and_eq_true] at g5
      exact ⟨zw_mem g5.1, zw_mem g5.2⟩
theorem zlk_ml {o ix a : Nat} (h : z_ml.any (fun q => q.1 == o && (q.2.1 == ix && q.2.2.1 == a)) = true) : Jvm.Cond.methodLink (zCn o) ix (zy a) ∈ zWS := by
  obtain ⟨q, hq, h1⟩ := List.any_eq_true.mp h
  simp only [Bool.and_eq_true, beq_iff_eq] at h1
  obtain ⟨h2, h3, h4⟩ := h1
  have h6 := zw_mem (List.all_eq_true.mp zml_ok q hq)
  rw [h2, h3, h4] at h6
  exact h6
theorem znp {n np : Nat} {b : Int} (h : n + 1 = b.toNat) (h2 : ((np : Nat) : Int) + 1 = b) : n = np := by omega
section ZCB
variable {p : Program} {l : Launch} {e : Env} {R : Room} {s : State} {m : MethodId} {args : Array Value} {below : List Frame} {meth : Method} {c : Code} {H : Heap} {locs : List Loc} {cells slots : Nat} {Q : State → Prop} {E : zEn} {k pc : Nat} {ls : Array Slot} {lo st : List zV} {T : zT} {V : zM} {r : zV} {T2 : zT} {V2 : zM}
set_option maxHeartbeats 2000000 in
/-- a call -/
theorem z_callW {I : zI} {i : Instr} {n : Nat} {k' nx : Nat} {as l' st' : List zV} {T1 : zT} {V1 : zM} (C : zCX p s m args meth c E k) (hlen : lo.length = zmL k) (hd : decode (zby k) pc = .ok (i, n)) (hv : z_vi (zown k) k pc i n I = true) (hs : z_step I lo st T V = some (.inr (.inl (k', as, nx, l', st', T1, V1)))) (hlv : zlv k' < zlv k) (hM : 1 ≤ k' → k' < 245 → zCn (zown k') = (zy k').cls → Jvm.plainName (zy k').cls = true → zMet l E k' as T V r T2 V2) (hRf : zlv k ≤ R.frames) (hRl : 36 * zlv k ≤ R.locals) (hcc : cells + (T2.1 - T.1) ≤ R.cells) (hss : slots + (T2.2.1 - T.2.1) ≤ R.slots) (S : zSt E s T V H locs ls lo st)
    (kk : ∀ (H1 : Heap) (locs1 : List Loc), zSt E s T2 V2 H1 locs1 ls lo (z_push r st') → W p l e R s m args below meth c H1 locs1 (cells + (T2.1 - T.1)) (slots + (T2.2.1 - T.2.1)) Q (F0 m nx ls ((z_push r st').map (rv E)))) : W p l e R s m args below meth c H locs cells slots Q (F0 m pc ls (st.map (rv E))) := by
  obtain ⟨hx, hb, hml, hown, hts, hKK, hini⟩ := C
  obtain ⟨hR, hV, hL, ho, hk⟩ := S
  have hF := hKK.2.2.2.2.2.2.1.2.2
  obtain ⟨⟨e1, e2, e3, e4, e5, e6, e7⟩, ⟨g1, g2⟩, g3⟩ := z_step_calls hs
  obtain ⟨op, nx0, a, b, ts⟩ := I
  have e1 : k' = a := e1
  have e2 : as = (st.take b.toNat).reverse := e2
  have e3 : nx = nx0 := e3
  have e5 : st' = st.drop b.toNat := e5
  have g1 : b.toNat ≤ st.length := g1
  have g2 : zcat (st.drop b.toNat) ≤ 8 := g2
  subst e1; subst e3; subst e4; subst e6; subst e7
  rw [← e5] at g2
  have hst : st = as.reverse ++ st' := by rw [e2, e5, List.reverse_reverse, List.take_append_drop]
  have hasl : as.length = b.toNat := by rw [e2, List.length_reverse, List.length_take]; exact Nat.min_eq_left g1
  have hstk : st.map (rv E) = (as.map (rv E)).reverse ++ st'.map (rv E) := by rw [hst, List.map_append, List.map_reverse]
  have hok' : zoks st' := fun w hw => hk w (by rw [hst]; exact List.mem_append_right _ hw)
  have hW : 2 * (F0 m pc ls (st.map (rv E))).monitorRoom + ((st'.map (rv E)).map fun v => v.category).sum ≤ 8 := by
    rw [zrv_cats hF]; show 2 * 0 + _ ≤ 8; omega
  have hsize : (F0 m pc ls (st.map (rv E))).locals.size = zmL k := by rw [← hlen]; exact hL.1
  have S0 : CallFix p m c (zby k) (zmL k) s args zWS (zCn (zown k)) := ⟨hx, hb, hml, hown, hts⟩
  have fin : ∀ {A : Array Value}, va_Run p l e R s m args below meth c H locs cells slots (T2.1 - T1.1) (T2.2.1 - T1.2.1) (F0 m pc ls (st.map (rv E))) (st'.map (rv E)) (zQc E r T2 V2 A) (zA E) → nx = pc + 3 → W p l e R s m args below meth c H locs cells slots Q (F0 m pc ls (st.map (rv E))) := by
    intro A hr hnx
    refine z_after hr hV fun H1 locs1 hR1 hV1 hok => ?_
    have K := kk H1 locs1 ⟨hR1, hV1, hL, ho, by
      unfold z_push
      split
      · exact hok'
      · exact hok'.cons hok⟩
    rw [hnx] at K
    have e9 : (z_push r st').map (rv E) = (zrO E r).toList ++ st'.map (rv E) := by
      unfold z_push zrO
      split <;> rfl
    rw [e9] at K
    exact K
  have hPc : ∀ U : State, U.heap = H → s.WarmedH U.vm → zPc E as T1 V1 (as.map (rv E)).toArray U := fun U hU hW => ⟨rfl, by rw [hU]; exact hR, hKK.to hW (by rw [hU]; exact hV.2.1) (by rw [hU]; exact hV.1)⟩
  cases i with
  | invokestatic ix =>
    have hv : ((n == 3 && nx == pc + 3) && ((op == 74 && (z_cal.any (fun q => q.1 == k' && (q.2.1 == 0 && ((q.2.2.1 : Nat) : Int) == b)) && (z_ml.any (fun q => q.1 == zown k && (q.2.1 == ix && q.2.2.1 == k')) || z_mn.any (fun q => q.1 == zown k && (q.2.1 == ix && q.2.2.1 == k'))))) || ((op == 79 && z_cp.any (fun q => q.1 == zown k && q.2.1 == ix)) || (decide (84 ≤ op ∧ op ≤ 86) && z_mm.any (fun q => q.1 == zown k && (q.2.1 == ix && q.2.2.1 == op)))))) = true := hv
    rw [Bool.and_eq_true, Bool.and_eq_true, beq_iff_eq, beq_iff_eq, Bool.or_eq_true, Bool.or_eq_true] at hv
    obtain ⟨⟨hn, hnx⟩, h1 | h1 | h1⟩ := hv
    · rw [Bool.and_eq_true, Bool.and_eq_true, Bool.or_eq_true, beq_iff_eq] at h1
      obtain ⟨h0, h2, h3⟩ := h1
      subst hn
      obtain ⟨np, f1, f2, f3, f4, f5, f6, f7, f8⟩ := z_cal_spec (kd := 0) (f := fun np => ((np : Nat) : Int)) h2
      rw [if_pos rfl] at f8
      have f1 : ((np : Nat) : Int) = b := f1
      have hal : (as.map (rv E)).length = np := by rw [List.length_map, hasl, ← f1]; rfl
      have hMM := hM f2.1 f2.2 f6 f7
      have hRR : (zRm k' T1 T2).frames + 1 ≤ R.frames ∧ 8 + (zmL k' + 11) + (zRm k' T1 T2).locals ≤ R.locals := by
        constructor
        · show zlv k' + 1 ≤ _; omega
        · show _ + 36 * zlv k' ≤ _; omega
      rcases h3 with h3 | h3
      · exact fin (va_runS S0 hMM ⟨callB_of np hts (zgoodk f2.1 f2.2) rfl rfl rfl (hts _ f4) (hts _ (zlk_ml h3)) f5 hRR, hts _ f8⟩ ⟨zPc_blind _ _ _ _, hPc⟩ rfl hal hsize hstk hW hd ⟨hcc, hss⟩) hnx
      · obtain ⟨q, hq, h4⟩ := List.any_eq_true.mp h3
        simp only [Bool.and_eq_true, beq_iff_eq] at h4
        have hN := hKK.2.2.1 q hq
        rw [h4.1, h4.2.1, h4.2.2] at hN
        exact fin (va_runSN S0 hMM ⟨va_cnB np hts (zgoodk f2.1 f2.2) rfl rfl rfl hN (hts _ f4) f5 hRR, hts _ f8, trivial⟩ ⟨zPc_blind _ _ _ _, hPc⟩ rfl hal hsize hstk hW hd ⟨hcc, hss⟩) hnx
    · rw [Bool.and_eq_true, beq_iff_eq] at h1
      have : op = 79 := h1.1
      rcases g3 with h | ⟨h, -⟩ | ⟨h, -⟩ | ⟨h, -⟩ <;> (have h : op = _ := h; omega)
    · rw [Bool.and_eq_true, decide_eq_true_eq] at h1
      have := h1.1
      rcases g3 with h | ⟨h, -⟩ | ⟨h, -⟩ | ⟨h, -⟩ <;> (have h : op = _ := h; omega)
  | invokespecial ix =>
    have hv : ((n == 3 && nx == pc + 3) && ((op == 75 && (z_cal.any (fun q => q.1 == k' && (q.2.1 == 1 && ((q.2.2.1 : Nat) : Int) + 1 == b)) && (z_ml.any (fun q => q.1 == zown k && (q.2.1 == ix && q.2.2.1 == k')) || z_mn.any (fun q => q.1 == zown k && (q.2.1 == ix && q.2.2.1 == k'))))) || (op == 78 && z_oi.any (fun q => q.1 == zown k && q.2.1 == ix)))) = true := hv
    rw [Bool.and_eq_true, Bool.and_eq_true, beq_iff_eq, beq_iff_eq, Bool.or_eq_true] at hv
    obtain ⟨⟨hn, hnx⟩, h1 | h1⟩ := hv
    · rw [Bool.and_eq_true, Bool.and_eq_true, Bool.or_eq_true, beq_iff_eq] at h1
      obtain ⟨h0, h2, h3⟩ := h1
      subst hn
      obtain ⟨np, f1, f2, f3, f4, f5, f6, f7, f8⟩ := z_cal_spec (kd := 1) (f := fun np => ((np : Nat) : Int) + 1) h2
      rw [if_neg (by decide), if_pos rfl] at f8
      obtain ⟨f8, f9, f10⟩ := f8
      have f1 : ((np : Nat) : Int) + 1 = b := f1
      obtain ⟨x, q, hq, hx0⟩ : ∃ (x : Int) (q : List zV), as = (2, x) :: q ∧ 0 ≤ x := by
        rcases g3 with h | ⟨h, g⟩ | ⟨h, -⟩ | ⟨h, -⟩
        · have h : op = _ := h; omega
        · exact g
        · have h : op = _ := h; omega
        · have h : op = _ := h; omega
      have hal : (q.map (rv E)).length = np := by rw [List.length_map]; exact znp (by rw [← hasl, hq]; rfl) f1
      have hMM := hM f2.1 f2.2 f6 f7
      have hRR : (zRm k' T1 T2).frames + 1 ≤ R.frames ∧ 8 + (zmL k' + 11) + (zRm k' T1 T2).locals ≤ R.locals := by
        constructor
        · show zlv k' + 1 ≤ _; omega
        · show _ + 36 * zlv k' ≤ _; omega
      have e8 : as.map (rv E) = .ref (eZ E + x.toNat) :: q.map (rv E) := by rw [hq, List.map_cons, show rv E (2, x) = _ from zrr_pos hx0]
      rw [e8] at hstk hPc
      rw [List.reverse_cons, List.append_assoc] at hstk
      have hwk : zwk k' = Jvm.Cond.code (zy k') (zby k') (zmL k') none :: zWS := by unfold zwk; rw [f10]
      rcases h3 with h3 | h3
      · exact fin (va_runI S0 hMM ⟨callB_of np hts (zgoodk f2.1 f2.2) hwk rfl rfl (hts _ f4) (hts _ (zlk_ml h3)) f5 hRR, f9, hts _ f8⟩ ⟨zPc_blind _ _ _ _, hPc⟩ rfl hal hsize hstk hW hd ⟨hcc, hss⟩) hnx
      · obtain ⟨q9, hq9, h4⟩ := List.any_eq_true.mp h3
        simp only [Bool.and_eq_true, beq_iff_eq] at h4
        have hN := hKK.2.2.1 q9 hq9
        rw [h4.1, h4.2.1, h4.2.2] at hN
        exact fin (va_runIN S0 hMM ⟨va_cnB np hts (zgoodk f2.1 f2.2) hwk rfl rfl hN (hts _ f4) f5 hRR, f9, hts _ f8⟩ ⟨zPc_blind _ _ _ _, hPc⟩ rfl hal hsize hstk hW hd ⟨hcc, hss⟩) hnx
    · rw [Bool.and_eq_true, beq_iff_eq] at h1
      have : op = 78 := h1.1
      rcases g3 with h | ⟨h, -⟩ | ⟨h, -⟩ | ⟨h, -⟩ <;> (have h : op = _ := h; omega)
  | invokevirtual ix =>
    have hv : ((n == 3 && nx == pc + 3) && (z_cal.any (fun q => q.1 == k' && (q.2.1 == 2 && ((q.2.2.1 : Nat) : Int) + 1 == b)) && (z_ml.any (fun q => q.1 == zown k && (q.2.1 == ix && q.2.2.1 == k')) && ((op == 76 && (decide (ts = [zown k']) && decide (zown k' < 13))) || (op == 77 && zown k' == 16))))) = true := hv
    rw [Bool.and_eq_true, Bool.and_eq_true, Bool.and_eq_true, Bool.and_eq_true, Bool.or_eq_true, beq_iff_eq, beq_iff_eq] at hv
    obtain ⟨⟨hn, hnx⟩, h2, h3, h1⟩ := hv
    subst hn
    obtain ⟨np, f1, f2, f3, f4, f5, f6, f7, f8⟩ := z_cal_spec (kd := 2) (f := fun np => ((np : Nat) : Int) + 1) h2
    rw [if_neg (by decide), if_neg (by decide)] at f8
    obtain ⟨f8, f9⟩ := f8
    have f1 : ((np : Nat) : Int) + 1 = b := f1
    have hMM := hM f2.1 f2.2 f6 f7
    have hRR : (zRm k' T1 T2).frames + 1 ≤ R.frames ∧ 8 + (zmL k' + 11) + (zRm k' T1 T2).locals ≤ R.locals := by
      constructor
      · show zlv k' + 1 ≤ _; omega
      · show _ + 36 * zlv k' ≤ _; omega
    have cw : CallW R s args (zCn (zown k)) (zy k').cls ix (zy k') (zby k') (zmL k') (zret k') (zwk k') (zRm k' T1 T2) (T2.1 - T1.1) (T2.2.1 - T1.2.1) np := ⟨callB_of np hts (zgoodk f2.1 f2.2) rfl rfl rfl (hts _ f4) (hts _ (zlk_ml h3)) f5 hRR, hts _ f8, hts _ f9⟩
    rcases h1 with h1 | h1
    · rw [Bool.and_eq_true, Bool.and_eq_true, beq_iff_eq, decide_eq_true_eq, decide_eq_true_eq] at h1
      obtain ⟨h0, h4, h5⟩ := h1
      obtain ⟨x, q, hq, hx0⟩ : ∃ (x : Int) (q : List zV), as = (2, x) :: q ∧ (0 ≤ x ∧ x < zsz T1 ∧ zc T1 x = ((ts.getD 0 0 : Nat) : Int) + 10) := by
        rcases g3 with h | ⟨h, -⟩ | ⟨h, g⟩ | ⟨h, -⟩
        · have h : op = _ := h; omega
        · have h : op = _ := h; omega
        · exact g
        · have h : op = _ := h; omega
      have hal : (q.map (rv E)).length = np := by rw [List.length_map]; exact znp (by rw [← hasl, hq]; rfl) f1
      have e8 : as.map (rv E) = .ref (eZ E + x.toNat) :: q.map (rv E) := by rw [hq, List.map_cons, show rv E (2, x) = _ from zrr_pos hx0.1]
      rw [e8] at hstk hPc
      rw [List.reverse_cons, List.append_assoc] at hstk
      have hts2 : ts.getD 0 0 = zown k' := by rw [h4]; rfl
      rw [hts2] at hx0
      obtain ⟨⟨cell, q1, q2, q3, -⟩, -⟩ := (hR.cell hx0.1 hx0.2.1).2 (zown k') h5 hx0.2.2
      have hrec : ∃ cellB : Cell, H[eZ E + x.toNat]? = some cellB ∧ cellB.vm.isStatics = false ∧ s.vm.findClass (zy k').cls = some cellB.cls := ⟨cell, q1, by rw [q3]; rfl, by rw [q2, ← f6]; exact (hKK.1 (zown k') h5).2.1⟩
      exact fin (va_runV S0 hMM cw ⟨zPc_blind _ _ _ _, hrec, hPc⟩ rfl hal hsize hstk hW hd ⟨hcc, hss⟩) hnx
    · rw [Bool.and_eq_true, beq_iff_eq, beq_iff_eq] at h1
      obtain ⟨h0, h4⟩ := h1
      obtain ⟨x, q, hq, hx0⟩ : ∃ (x : Int) (q : List zV), as = (3, x) :: q ∧ (0 ≤ x ∧ x < 7) := by
        rcases g3 with h | ⟨h, -⟩ | ⟨h, -⟩ | ⟨h, g⟩
        · have h : op = _ := h; omega
        · have h : op = _ := h; omega
        · have h : op = _ := h; omega
        · exact g
      have hal : (q.map (rv E)).length = np := by rw [List.length_map]; exact znp (by rw [← hasl, hq]; rfl) f1
      have e8 : as.map (rv E) = .ref (eK E x.toNat) :: q.map (rv E) := by rw [hq, List.map_cons]; rfl
      rw [e8] at hstk hPc
      rw [List.reverse_cons, List.append_assoc] at hstk
      have hcls : (zy k').cls = "java/lang/String" := by rw [← f6, h4]; rfl
      have hrec : ∃ cellB : Cell, H[eK E x.toNat]? = some cellB ∧ cellB.vm.isStatics = false ∧ s.vm.findClass (zy k').cls = some cellB.cls := by
        rw [hcls]
        exact vk_recv hKK.2.2.2.2.1 (by omega) hV
      exact fin (va_runV S0 hMM cw ⟨zPc_blind _ _ _ _, hrec, hPc⟩ rfl hal hsize hstk hW hd ⟨hcc, hss⟩) hnx
  | ifCond cd off =>
    exfalso
    rcases g3 with h | ⟨h, -⟩ | ⟨h, -⟩ | ⟨h, -⟩ <;> (have h : op = _ := h; subst h; revert hv; cases cd <;> simp [z_vi, z_cc])
  | if_icmp cd off =>
    exfalso
    rcases g3 with h | ⟨h, -⟩ | ⟨h, -⟩ | ⟨h, -⟩ <;> (have h : op = _ := h; subst h; revert hv; cases cd <;> simp [z_vi, z_cc])
  | _ =>
    exfalso
    rcases g3 with h | ⟨h, -⟩ | ⟨h, -⟩ | ⟨h, -⟩ <;> (have h : op = _ := h; subst h; revert hv; simp [z_vi])
end ZCB
