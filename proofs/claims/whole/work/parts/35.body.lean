/-! the whole: what AM computes the machine does -/
def zretOK (k : Nat) (r : zV) (i : Instr) : Prop :=
  (i = .ireturn ∧ r.1 = 0 ∧ ∃ ty, zret k = some ty ∧ narrow ty (.int (Int32.ofInt r.2)) = .int (Int32.ofInt r.2)) ∨ (i = .lreturn ∧ r.1 = 1 ∧ zret k = some .long) ∨ (i = .areturn ∧ r.1 = 2 ∧ ∃ rt, zret k = some rt ∧ ((∃ n, rt = .object n) ∨ ∃ t, rt = .array t)) ∨ (i = .return_ ∧ r = (9, 0) ∧ zret k = none)
def zBody (l : Launch) (E : zEn) (n : Nat) : Prop := ∀ (k pc : Nat) (lo st : List zV) (T : zT) (V : zM) (r : zV) (T' : zT) (V' : zM), am n k pc lo st T V = some (r, T', V') → ∀ (p : Program) (e : Env) (R : Room) (s : State) (m : MethodId) (args : Array Value) (below : List Frame) (meth : Method) (c : Code) (H : Heap) (locs : List Loc) (cells slots fc fs : Nat) (Q : State → Prop) (ls : Array Slot),
  zCX p s m args meth c E k → lo.length = zmL k → zlv k ≤ R.frames → 36 * zlv k ≤ R.locals → 1 ≤ zlv k → cells + T'.1 = fc + T.1 → slots + T'.2.1 = fs + T.2.1 → fc ≤ R.cells → fs ≤ R.slots → zSt E s T V H locs ls lo st →
  (∀ (pc : Nat) (ls : Array Slot) (H : Heap) (locs : List Loc) (i : Instr), decode (zby k) pc = .ok (i, 1) → zretOK k r i → zRel E T' V' H → va_S (zA E) s.heap H locs → zVok r → W p l e R s m args below meth c H locs fc fs Q (F0 m pc ls (zrO E r).toList)) →
  W p l e R s m args below meth c H locs cells slots Q (F0 m pc ls (st.map (rv E)))
theorem zchar_nar {x : Int} (h0 : 0 ≤ x) (h1 : x ≤ 65535) : narrow .char (.int (Int32.ofInt x)) = .int (Int32.ofInt x) := by
  show Value.int _ = _
  congr 1
  exact zi2c ⟨by omega, by omega⟩ h0 h1
theorem z_sp_at (E : zEn) (hF : eF E = .null ∨ ∃ a, eF E = .ref a) : ∀ as : List zV, (lg_sl (as.map (rv E))).length = (z_sp as).length ∧ ∀ (i : Nat) (v : zV), (z_sp as)[i]? = some v → v.1 ≠ 9 → (lg_sl (as.map (rv E)))[i]? = some (.val (rv E v)) := by
  intro as
  induction as with
  | nil => exact ⟨rfl, fun i v h => by simp [z_sp] at h⟩
  | cons w as ih =>
    have hc := zrv_cat hF w
    have e1 : lg_sl ((w :: as).map (rv E)) = (if (rv E w).category = 2 then [.val (rv E w), .second] else [.val (rv E w)]) ++ lg_sl (as.map (rv E)) := rfl
    rw [e1, hc]
    unfold z_sp
    by_cases h1 : w.1 = 1
    · rw [if_pos h1, if_pos h1, if_pos rfl]
      refine ⟨by simp [ih.1], fun i v hi hv => ?_⟩
      match i, hi with
      | 0, hi => cases hi; rfl
      | 1, hi => cases hi; exact absurd rfl hv
      | i + 2, hi => exact ih.2 i v hi hv
    · rw [if_neg h1, if_neg h1, if_neg (by decide)]
      refine ⟨by simp [ih.1], fun i v hi hv => ?_⟩
      match i, hi with
      | 0, hi => cases hi; rfl
      | i + 1, hi => exact ih.2 i v hi hv
theorem z_ent_len {n : Nat} {as : List zV} (h : (z_sp as).length ≤ n) : (z_ent n as).length = n := by
  unfold z_ent
  rw [List.length_append, List.length_replicate]
  omega
theorem z_ent_loc {E : zEn} (hF : eF E = .null ∨ ∃ a, eF E = .ref a) {n : Nat} {as : List zV} (h : (z_sp as).length ≤ n) : zLoc E (lg_sl (as.map (rv E)) ++ List.replicate (n - (lg_sl (as.map (rv E))).length) Slot.unset).toArray (z_ent n as) := by
  obtain ⟨h1, h2⟩ := z_sp_at E hF as
  have hl := lv_entry (as.map (rv E)) (n := n) (by omega)
  refine ⟨by rw [z_ent_len h]; exact hl.1, hl.2.1, fun i v hi hv => ?_⟩
  unfold z_ent at hi
  rw [List.getElem?_append] at hi
  split at hi
  · rename_i h3
    have h4 := h2 i v hi hv
    rw [List.getElem?_toArray, List.getElem?_append_left (by omega)]
    exact h4
  · rw [List.getElem?_replicate] at hi
    split at hi
    · cases hi; exact absurd rfl hv
    · cases hi
theorem z_sp_ok : ∀ {as : List zV}, zoks as → zoks (z_sp as) := by
  intro as
  induction as with
  | nil => intro h; exact h
  | cons w as ih =>
    intro h
    unfold z_sp
    split
    · exact ((ih h.tl).cons (zokr (by decide))).cons h.hd
    · exact (ih h.tl).cons h.hd
theorem z_ent_ok {n : Nat} {as : List zV} (h : zoks as) : zoks (z_ent n as) := fun w hw => by
  rcases List.mem_append.mp hw with h1 | h1
  · exact z_sp_ok h w h1
  · rw [(List.mem_replicate.mp h1).2]; exact zokr (by decide)
theorem z_met {l : Launch} {E : zEn} {n : Nat} (hB : zBody l E n) {k : Nat} {as : List zV} {T : zT} {V : zM} {r : zV} {T' : zT} {V' : zM} (h : am n k 0 (z_ent (zmL k) as) [] T V = some (r, T', V')) (hk1 : 1 ≤ k) (hk2 : k < 245) (hn : zCn (zown k) = (zy k).cls) (hpl : Jvm.plainName (zy k).cls = true) (hsp : (z_sp as).length ≤ zmL k) (hok : zoks as) : zMet l E k as T V r T' V' := by
  have hg := am_grow _ _ _ _ _ _ _ _ _ _ h
  refine Met.ofW (cc := zby k) (maxL := zmL k) (ret := zret k) hpl rfl ?_
  intro p e s m args below meth c s₁ B hml hv
  obtain ⟨rfl, hR, hKK⟩ := hv
  have hF := hKK.2.2.2.2.2.2.1.2.2
  have hts0 := atoms_spec (ws := zwk k) B.pre
  have hts : ∀ w ∈ zWS, w.before (as.map (rv E)).toArray s = true := fun w hw => hts0 w (List.mem_cons_of_mem _ hw)
  have hown : s.vm.findClass (zCn (zown k)) = some m.cls := by rw [hn]; exact findClass_of_methodNamed B.named
  have hname : meth.name = (zy k).name := (name_of_methodNamed B.named B.method).1
  have hlocks := B.notSynchronized
  have hr := B.returns
  rw [lg_entry_eq]
  refine hB k 0 (z_ent (zmL k) as) [] T V r T' V' h p e _ s m _ below meth c s.heap [] 0 0 (T'.1 - T.1) (T'.2.1 - T.2.1) _ _ ⟨B.exec, B.bytes, hml, hown, hts, hKK, fun hi => by rw [hname]; exact hi⟩ (z_ent_len hsp) (Nat.le_refl _) (Nat.le_refl _) (zall_ok k hk2).2 (by omega) (by omega) (Nat.le_refl _) (Nat.le_refl _) ⟨hR, va_S.rf, z_ent_loc hF hsp, z_ent_ok hok, fun w hw => by cases hw⟩ ?_
  intro pc ls H locs i hd hret hR' hV hvr
  have hq : ∀ v, zrO E r = v → ∀ t : State, t.heap = H → s.WarmedH t.vm → zQc E r T' V' (as.map (rv E)).toArray s (.returned v) t := fun v hv t ht _ => ⟨by rw [hv], by rw [ht]; exact hR', hV.F ht, hvr⟩
  obtain ⟨tg, x⟩ := r
  rcases hret with ⟨rfl, h1, ty, h2, h3⟩ | ⟨rfl, h1, h2⟩ | ⟨rfl, h1, rt, h2, h3⟩ | ⟨rfl, h1, h2⟩
  · have h1 : tg = 0 := h1
    subst h1
    exact W.zret (v := Int32.ofInt x) (ty := ty) B.exec B.bytes (by rw [hr]; exact h2) h3 (hq _ rfl) hV.2.2 hd hlocks
  · have h1 : tg = 1 := h1
    subst h1
    exact W.lret (v := Int64.ofInt x) B.exec B.bytes (by rw [hr]; exact h2) (hq _ rfl) hV.2.2 hd hlocks
  · have h1 : tg = 2 := h1
    subst h1
    exact W.aret (v := zrr E x) B.exec B.bytes (by rw [hr]; exact h2) h3 (zrv_ref hF (v := (2, x)) ⟨show 2 ≤ 2 by decide, show 2 ≤ 6 by decide⟩) (hq _ rfl) hV.2.2 hd hlocks
  · cases h1
    exact W.vret B.exec B.bytes (by rw [hr]; exact h2) (hq _ rfl) hV.2.2 hd hlocks
theorem z_at_mem : ∀ {L : List (Nat × zI)} {pc : Nat} {I : zI}, z_at L pc = some I → (pc, I) ∈ L := by
  intro L
  induction L with
  | nil => intro pc I h; simp [z_at] at h
  | cons q L ih =>
    intro pc I h
    unfold z_at at h
    split at h
    · rename_i h1
      cases h
      rw [← h1]
      exact List.mem_cons_self
    · exact List.mem_cons_of_mem _ (ih h)
theorem z_body (l : Launch) (E : zEn) : ∀ n, zBody l E n := by
  intro n
  induction n with
  | zero => intro k pc lo st T V r T' V' h; simp [am] at h
  | succ n ih =>
    intro k pc lo st T V r T' V' h p e R s m args below meth c H locs cells slots fc fs Q ls C hlen hRf hRl hlv hc0 hs0 hfc hfs S hQ
    have hgr := am_grow _ _ _ _ _ _ _ _ _ _ h
    unfold am at h
    cases hc : zcode k pc with
    | none => rw [hc] at h; simp at h
    | some I =>
      rw [hc] at h
      simp only at h
      have hvl := List.all_eq_true.mp (zV_all k) _ (z_at_mem hc)
      obtain ⟨i, n0, hd, hv⟩ : ∃ (i : Instr) (n0 : Nat), decode (zby k) pc = .ok (i, n0) ∧ z_vi (zown k) k pc i n0 I = true := by
        unfold z_vl at hvl
        split at hvl
        · rename_i i n0 hd
          exact ⟨i, n0, hd, hvl⟩
        · cases hvl
      cases hs : z_step I lo st T V with
      | none => rw [hs] at h; simp at h
      | some q =>
        rw [hs] at h
        rcases q with ⟨pc', l', st', T1, V1⟩ | ⟨k', as, nx, l', st', T1, V1⟩ | ⟨y, T1, V1⟩
        · simp only at h
          have hg1 := am_grow _ _ _ _ _ _ _ _ _ _ h
          obtain ⟨e1, e2, e3⟩ : l'.length = lo.length ∧ T.1 ≤ T1.1 ∧ T.2.1 ≤ T1.2.1 := by
            rcases z_step_kind hs with h1 | ⟨-, h1⟩ | ⟨-, -, h1⟩ | ⟨h0, h1⟩ | ⟨h0, h1⟩ | ⟨h0, h1⟩ | ⟨h0, h1⟩
            · obtain ⟨_, _, _, T3, _, h3, h6, h4, h5⟩ := h1
              simp only [Sum.inl.injEq, Prod.mk.injEq] at h3
              obtain ⟨-, rfl, -, rfl, -⟩ := h3
              exact ⟨h6, h4, h5⟩
            · obtain ⟨_, -, -, h3⟩ := zv_ret h1
              cases h3
            · cases h1
            · cases (zv_call h1).2
            · cases (zv_call (zv_callI h1).2).2
            · cases (zv_call (zv_callV h1).2).2
            · cases (zv_call (zv_callS h1).2).2
          refine z_go C hlen hd hv hs ⟨by omega, by omega⟩ ⟨by omega, by omega⟩ (by omega) (by omega) S ?_
          intro H' locs' ls' cells' slots' g1 g2 S'
          exact ih k pc' l' st' T1 V1 r T' V' h p e R s m args below meth c H' locs' cells' slots' fc fs Q ls' C (e1.trans hlen) hRf hRl hlv (by omega) (by omega) hfc hfs S' hQ
        · simp only at h
          obtain ⟨⟨d1, d2, d3, d4, d5, d6, d7⟩, -⟩ := z_step_calls hs
          by_cases hl : zlv k' < zlv k ∧ (z_sp as).length ≤ zmL k'
          · rw [if_pos hl] at h
            cases ha : am n k' 0 (z_ent (zmL k') as) [] T1 V1 with
            | none => rw [ha] at h; simp at h
            | some z =>
              obtain ⟨r2, T2, V2⟩ := z
              rw [ha] at h
              simp only at h
              rw [d6, d7] at ha
              have hg1 := am_grow _ _ _ _ _ _ _ _ _ _ ha
              have hg2 := am_grow _ _ _ _ _ _ _ _ _ _ h
              have hoka : zoks as := fun w hw => by
                rw [d2] at hw
                exact S.2.2.2.2 w (List.mem_of_mem_take (List.mem_reverse.mp hw))
              refine z_callW (r := r2) (T2 := T2) (V2 := V2) C hlen hd hv hs hl.1 (fun f1 f2 f3 f4 => z_met ih ha f1 f2 f3 f4 hl.2 hoka) hRf hRl (by omega) (by omega) S ?_
              intro H1 locs1 S1
              rw [d4] at h
              exact ih k nx lo (z_push r2 st') T2 V2 r T' V' h p e R s m args below meth c H1 locs1 _ _ fc fs Q ls C hlen hRf hRl hlv (by omega) (by omega) hfc hfs S1 hQ
          · rw [if_neg hl] at h; simp at h
        · simp only at h
          obtain ⟨e1, e2, e3⟩ := z_step_ends hs
          cases h
          subst e1
          subst e2
          obtain ⟨hR, hV, hL, ho, hk⟩ := S
          have ec : cells = fc := by omega
          have es : slots = fs := by omega
          subst ec
          subst es
          obtain ⟨op, nx, a, b, ts⟩ := I
          rcases e3 with ⟨h72, hst, hkind⟩ | ⟨h73, hst, hr9⟩
          · have h72 : op = 72 := h72
            subst h72
            subst hst
            have hvr : zVok r := hk r List.mem_cons_self
            have hst2 : ([r] : List zV).map (rv E) = (zrO E r).toList := by
              unfold zrO
              rw [if_neg]
              · rfl
              · rcases hkind with ⟨-, h⟩ | ⟨-, h⟩ | ⟨-, h⟩ | ⟨-, h, -⟩ | ⟨-, h, -⟩ | ⟨-, h, -⟩ <;> omega
            rw [hst2]
            have hkind : (a = 0 ∧ r.1 = 0) ∨ (a = 1 ∧ r.1 = 1) ∨ (a = 2 ∧ r.1 = 2) ∨ (a = 3 ∧ r.1 = 0 ∧ 0 ≤ r.2 ∧ r.2 ≤ 1) ∨ (a = 4 ∧ r.1 = 0 ∧ -128 ≤ r.2 ∧ r.2 ≤ 127) ∨ (a = 5 ∧ r.1 = 0 ∧ 0 ≤ r.2 ∧ r.2 ≤ 65535) := hkind
            cases i with
            | ireturn =>
              simp only [z_vi, Bool.and_eq_true, Bool.or_eq_true, beq_iff_eq, decide_eq_true_eq] at hv
              obtain ⟨-, rfl, hv⟩ := hv
              refine hQ pc ls H locs _ hd (Or.inl ⟨rfl, ?_⟩) hR hV hvr
              rcases hv with ⟨q1, q2⟩ | ⟨q1, q2⟩ | ⟨q1, q2⟩ | ⟨q1, q2⟩
              · exact ⟨by omega, _, q2, rfl⟩
              · exact ⟨by omega, _, q2, (zbool_fit (by omega)).1⟩
              · exact ⟨by omega, _, q2, zbyte_fit (by omega)⟩
              · exact ⟨by omega, _, q2, zchar_nar (by omega) (by omega)⟩
            | lreturn =>
              simp only [z_vi, Bool.and_eq_true, beq_iff_eq, decide_eq_true_eq] at hv
              obtain ⟨-, rfl, q1, q2⟩ := hv
              exact hQ pc ls H locs _ hd (Or.inr (Or.inl ⟨rfl, by omega, q2⟩)) hR hV hvr
            | areturn =>
              simp only [z_vi, Bool.and_eq_true, beq_iff_eq] at hv
              obtain ⟨-, rfl, q1, q2⟩ := hv
              refine hQ pc ls H locs _ hd (Or.inr (Or.inr (Or.inl ⟨rfl, by omega, ?_⟩))) hR hV hvr
              cases hz : zret k with
              | none => rw [hz] at q2; cases q2
              | some rt =>
                rw [hz] at q2
                have q2 : z_isR rt = true := q2
                refine ⟨rt, rfl, ?_⟩
                cases rt <;> simp [z_isR] at q2
                · exact Or.inl ⟨_, rfl⟩
                · exact Or.inr ⟨_, rfl⟩
            | ifCond cd off => revert hv; cases cd <;> simp [z_vi, z_cc]
            | if_icmp cd off => revert hv; cases cd <;> simp [z_vi, z_cc]
            | _ => revert hv; simp [z_vi]
          · have h73 : op = 73 := h73
            subst h73
            subst hst
            subst hr9
            cases i with
            | return_ =>
              simp only [z_vi, Bool.and_eq_true, beq_iff_eq, decide_eq_true_eq] at hv
              obtain ⟨-, rfl, q2⟩ := hv
              exact hQ pc ls H locs _ hd (Or.inr (Or.inr (Or.inr ⟨rfl, rfl, q2⟩))) hR hV (zokr (by decide))
            | ifCond cd off => revert hv; cases cd <;> simp [z_vi, z_cc]
            | if_icmp cd off => revert hv; cases cd <;> simp [z_vi, z_cc]
            | _ => revert hv; simp [z_vi]
