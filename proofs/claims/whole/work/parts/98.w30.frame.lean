/-! a run writes nothing at the cells below 0: the script stays -/
def zFrx (T : zT) (V : zM) (H : zH) : Prop := (∀ x, x < 0 → H.2 x = V x) ∧ T.1 ≤ H.1.1 ∧ ∀ x, x < (T.1 : Int) → zl H.1 x = zl T x ∧ zc H.1 x = zc T x
def zHof : zR → zH
  | .inl q => q.2.2.2
  | .inr (.inl q) => q.2.2.2.2.2
  | .inr (.inr q) => q.2
def zFox (T : zT) (V : zM) (o : Option zR) : Prop := ∀ r, o = some r → zFrx T V (zHof r)
section FRM
variable {T : zT} {V : zM} {nx a : Nat} {b : Int} {l st : List zV}
theorem zFrx_rfl : zFrx T V (T, V) := ⟨fun _ _ => rfl, Nat.le_refl _, fun _ _ => ⟨rfl, rfl⟩⟩
theorem zFrx_tr {H : zH} {H2 : zH} (h : zFrx T V H) (h2 : zFrx H.1 H.2 H2) : zFrx T V H2 := ⟨fun x hx => (h2.1 x hx).trans (h.1 x hx), Nat.le_trans h.2.1 h2.2.1, fun x hx => by
  have a := h.2.2 x hx
  have q := h.2.1
  have b := h2.2.2 x (by omega)
  exact ⟨b.1.trans a.1, b.2.trans a.2⟩⟩
theorem zFox_none : zFox T V none := fun r h => by cases h
theorem zFox_g {T' : zT} {V' : zM} (h : zFrx T V (T', V')) : zFox T V (zgo nx l st T' V') := fun r hr => by
  unfold zgo at hr
  cases hr
  exact h
theorem zFox_go : zFox T V (zgo nx l st T V) := zFox_g zFrx_rfl
theorem zFox_c {x : Nat × List zV × Nat × List zV × List zV × zH} (h : zFrx T V x.2.2.2.2.2) : zFox T V (some (.inr (.inl x))) := fun r hr => by
  cases hr
  exact h
theorem zFox_e {x : zV × zH} (h : zFrx T V x.2) : zFox T V (some (.inr (.inr x))) := fun r hr => by
  cases hr
  exact h
theorem zFox_ite {c : Prop} [Decidable c] {x y : Option zR} (h1 : c → zFox T V x) (h2 : ¬ c → zFox T V y) : zFox T V (if c then x else y) := by
  by_cases h : c
  · rw [if_pos h]; exact h1 h
  · rw [if_neg h]; exact h2 h
theorem zFrx_s {x : Int} {f : Int → Int} (hx : 0 ≤ x) : zFrx T V (T, zs V x f) := ⟨fun y hy => by
  show zs V x f y = V y
  unfold zs
  rw [if_neg (by omega)], Nat.le_refl _, fun _ _ => ⟨rfl, rfl⟩⟩
theorem zFrx_q {x : Int} {f : Int → Int} : zFrx T V (zq T x f, V) := ⟨fun _ _ => rfl, Nat.le_refl _, fun _ _ => ⟨rfl, rfl⟩⟩
theorem zFrx_n {c m : Int} : zFrx T V (zn T c m, zs V (zsz T) (fun _ => 0)) := by
  have h0 : (0 : Int) ≤ (T.1 : Int) := Int.natCast_nonneg _
  refine ⟨fun y hy => ?_, Nat.le_succ _, fun y hy => ⟨?_, ?_⟩⟩
  · show zs V (zsz T) (fun _ => 0) y = V y
    unfold zs zsz
    rw [if_neg (by omega)]
  · show zu T.2.2.2.1 (T.1 : Int) m y = T.2.2.2.1 y
    unfold zu
    rw [if_neg (by omega)]
  · show zu T.2.2.1 (T.1 : Int) c y = T.2.2.1 y
    unfold zu
    rw [if_neg (by omega)]
theorem fr_ld {t : Nat} : zFox T V (zo_ld t nx a l st T V) := by unfold zo_ld; repeat' (first | exact zFox_go | exact zFox_none | refine zFox_ite (fun _ => ?_) (fun _ => ?_) | split)
theorem fr_lda : zFox T V (zo_lda nx a l st T V) := by unfold zo_lda; repeat' (first | exact zFox_go | exact zFox_none | refine zFox_ite (fun _ => ?_) (fun _ => ?_) | split)
theorem fr_st1 {p : Nat → Bool} : zFox T V (zo_st1 p nx a l st T V) := by unfold zo_st1; repeat' (first | exact zFox_go | exact zFox_none | refine zFox_ite (fun _ => ?_) (fun _ => ?_) | split)
theorem fr_st2 : zFox T V (zo_st2 nx a l st T V) := by unfold zo_st2; repeat' (first | exact zFox_go | exact zFox_none | refine zFox_ite (fun _ => ?_) (fun _ => ?_) | split)
theorem fr_inc : zFox T V (zo_inc nx a b l st T V) := by unfold zo_inc; repeat' (first | exact zFox_go | exact zFox_none | refine zFox_ite (fun _ => ?_) (fun _ => ?_) | split)
theorem fr_bin {t : Nat} {g : Int → Int → Prop} {dg : ∀ x y, Decidable (g x y)} {f : Int → Int → Int} : zFox T V (zo_bin t g dg f nx l st T V) := by unfold zo_bin; repeat' (first | exact zFox_go | exact zFox_none | refine zFox_ite (fun _ => ?_) (fun _ => ?_) | split)
theorem fr_lsh {g : Int → Int → Prop} {dg : ∀ x y, Decidable (g x y)} {f : Int → Int → Int} : zFox T V (zo_lsh g dg f nx l st T V) := by unfold zo_lsh; repeat' (first | exact zFox_go | exact zFox_none | refine zFox_ite (fun _ => ?_) (fun _ => ?_) | split)
theorem fr_cmp : zFox T V (zo_cmp nx l st T V) := by unfold zo_cmp; repeat' (first | exact zFox_go | exact zFox_none | refine zFox_ite (fun _ => ?_) (fun _ => ?_) | split)
theorem fr_un {t u : Nat} {g : Int → Prop} {dg : ∀ x, Decidable (g x)} {f : Int → Int} : zFox T V (zo_un t u g dg f nx l st T V) := by unfold zo_un; repeat' (first | exact zFox_go | exact zFox_none | refine zFox_ite (fun _ => ?_) (fun _ => ?_) | split)
theorem fr_if1 {g : Int → Prop} {dg : ∀ x, Decidable (g x)} : zFox T V (zo_if1 g dg nx a l st T V) := by unfold zo_if1; repeat' (first | exact zFox_go | exact zFox_none | refine zFox_ite (fun _ => ?_) (fun _ => ?_) | split)
theorem fr_if2 {g : Int → Int → Prop} {dg : ∀ x y, Decidable (g x y)} : zFox T V (zo_if2 g dg nx a l st T V) := by unfold zo_if2; repeat' (first | exact zFox_go | exact zFox_none | refine zFox_ite (fun _ => ?_) (fun _ => ?_) | split)
theorem fr_nn : zFox T V (zo_nn nx a l st T V) := by unfold zo_nn; repeat' (first | exact zFox_go | exact zFox_none | refine zFox_ite (fun _ => ?_) (fun _ => ?_) | split)
theorem fr_sw {ts : List Nat} : zFox T V (zo_sw b ts l st T V) := by unfold zo_sw; repeat' (first | exact zFox_go | exact zFox_none | refine zFox_ite (fun _ => ?_) (fun _ => ?_) | split)
theorem fr_dup : zFox T V (zo_dup nx l st T V) := by unfold zo_dup; repeat' (first | exact zFox_go | exact zFox_none | refine zFox_ite (fun _ => ?_) (fun _ => ?_) | split)
theorem fr_pop : zFox T V (zo_pop nx l st T V) := by unfold zo_pop; repeat' (first | exact zFox_go | exact zFox_none | refine zFox_ite (fun _ => ?_) (fun _ => ?_) | split)
theorem fr_dup2 : zFox T V (zo_dup2 nx l st T V) := by unfold zo_dup2; repeat' (first | exact zFox_go | exact zFox_none | refine zFox_ite (fun _ => ?_) (fun _ => ?_) | split)
theorem fr_get {t : Nat} {M : Int → Int → Int} : zFox T V (zo_get t M nx a b l st T V) := by unfold zo_get; repeat' (first | exact zFox_go | exact zFox_none | refine zFox_ite (fun _ => ?_) (fun _ => ?_) | split)
theorem fr_put {g : Int → Prop} {dg : ∀ x, Decidable (g x)} : zFox T V (zo_put g dg nx a b l st T V) := by
  unfold zo_put
  split
  · refine zFox_ite (fun h => zFox_ite (fun _ => zFox_g (zFrx_s h.2.1)) (fun _ => zFox_none)) (fun _ => zFox_none)
  · exact zFox_none
theorem fr_putr : zFox T V (zo_putr nx a b l st T V) := by
  unfold zo_putr
  split
  · exact zFox_ite (fun _ => zFox_g zFrx_q) (fun _ => zFox_none)
  · exact zFox_none
theorem fr_ald {t : Nat} {M : Int → Int → Int} {c : Int} : zFox T V (zo_ald t M c nx l st T V) := by unfold zo_ald; repeat' (first | exact zFox_go | exact zFox_none | refine zFox_ite (fun _ => ?_) (fun _ => ?_) | split)
theorem fr_ild : zFox T V (zo_ild nx l st T V) := by
  unfold zo_ild
  split
  · exact zFox_ite (fun _ => zFox_ite (fun _ => zFox_go) (fun _ => zFox_none)) (fun _ => fr_ald)
  · exact zFox_none
theorem fr_bld : zFox T V (zo_bld nx l st T V) := by
  unfold zo_bld
  split
  · exact zFox_ite (fun _ => zFox_ite (fun _ => zFox_go) (fun _ => zFox_none)) (fun _ => zFox_ite (fun _ => fr_ald) (fun _ => fr_ald))
  · exact zFox_none
theorem fr_ast {t : Nat} {c : Int} {g : Int → Prop} {dg : ∀ x, Decidable (g x)} : zFox T V (zo_ast t c g dg nx l st T V) := by
  unfold zo_ast
  split
  · exact zFox_ite (fun h => zFox_ite (fun _ => zFox_g (zFrx_s h.2.1.1)) (fun _ => zFox_none)) (fun _ => zFox_none)
  · exact zFox_none
theorem fr_bst : zFox T V (zo_bst nx l st T V) := by
  unfold zo_bst
  split
  · exact zFox_ite (fun _ => fr_ast) (fun _ => fr_ast)
  · exact zFox_none
theorem fr_qst : zFox T V (zo_qst nx l st T V) := by
  unfold zo_qst
  split
  · exact zFox_ite (fun _ => zFox_g zFrx_q) (fun _ => zFox_none)
  · exact zFox_none
theorem fr_len : zFox T V (zo_len nx l st T V) := by unfold zo_len; repeat' (first | exact zFox_go | exact zFox_none | refine zFox_ite (fun _ => ?_) (fun _ => ?_) | split)
theorem fr_new : zFox T V (zo_new nx a l st T V) := by
  unfold zo_new
  exact zFox_ite (fun _ => zFox_g zFrx_n) (fun _ => zFox_none)
theorem fr_nar {c : Int} : zFox T V (zo_nar c nx l st T V) := by
  unfold zo_nar
  split
  · exact zFox_ite (fun _ => zFox_g zFrx_n) (fun _ => zFox_none)
  · exact zFox_none
theorem fr_ret : zFox T V (zo_ret a st T V) := by
  unfold zo_ret
  split
  · exact zFox_ite (fun _ => zFox_e zFrx_rfl) (fun _ => zFox_none)
  · exact zFox_none
theorem fr_call : zFox T V (zo_call nx a b l st T V) := by
  unfold zo_call
  exact zFox_ite (fun _ => zFox_c zFrx_rfl) (fun _ => zFox_none)
theorem fr_callI : zFox T V (zo_callI nx a b l st T V) := by
  unfold zo_callI
  split
  · exact zFox_ite (fun _ => fr_call) (fun _ => zFox_none)
  · exact zFox_none
theorem fr_callV {ts : List Nat} : zFox T V (zo_callV nx a b ts l st T V) := by
  unfold zo_callV
  split
  · exact zFox_ite (fun _ => fr_call) (fun _ => zFox_none)
  · exact zFox_none
theorem fr_callS : zFox T V (zo_callS nx a b l st T V) := by
  unfold zo_callS
  split
  · exact zFox_ite (fun _ => fr_call) (fun _ => zFox_none)
  · exact zFox_none
theorem fr_obj : zFox T V (zo_obj nx l st T V) := by unfold zo_obj; repeat' (first | exact zFox_go | exact zFox_none | refine zFox_ite (fun _ => ?_) (fun _ => ?_) | split)
theorem fr_cpy : zFox T V (zo_cpy nx l st T V) := by
  unfold zo_cpy
  split
  · exact zFox_ite (fun h => zFox_g (zFrx_s h.2.1.2.2.1)) (fun _ => zFox_none)
  · exact zFox_none
theorem fr_strv : zFox T V (zo_strv nx l st T V) := by unfold zo_strv; repeat' (first | exact zFox_go | exact zFox_none | refine zFox_ite (fun _ => ?_) (fun _ => ?_) | split)
theorem fr_strc : zFox T V (zo_strc nx l st T V) := by unfold zo_strc; repeat' (first | exact zFox_go | exact zFox_none | refine zFox_ite (fun _ => ?_) (fun _ => ?_) | split)
theorem fr_mm {t : Nat} {f : Int → Int → Int} : zFox T V (zo_mm t f nx l st T V) := by unfold zo_mm; repeat' (first | exact zFox_go | exact zFox_none | refine zFox_ite (fun _ => ?_) (fun _ => ?_) | split)
theorem fr_vret : zFox T V (match st with | [] => some (.inr (.inr ((9, 0), T, V))) | _ => none) := by
  split
  · exact zFox_e zFrx_rfl
  · exact zFox_none
theorem fr_step {I : zI} : zFox T V (z_step I l st T V) := by
  obtain ⟨k, nx, a, b, ts⟩ := I
  unfold z_step
  dsimp only
  split
  all_goals first | exact zFox_go | exact zFox_none | exact zFox_ite (fun _ => zFox_go) (fun _ => zFox_none) | exact fr_ld | exact fr_lda | exact fr_st1 | exact fr_st2 | exact fr_inc | exact fr_bin | exact fr_lsh | exact fr_cmp | exact fr_un | exact fr_if1 | exact fr_if2 | exact fr_nn | exact fr_sw | exact fr_dup | exact fr_pop | exact fr_dup2 | exact fr_get | exact fr_put | exact fr_putr | exact fr_ald | exact fr_ild | exact fr_bld | exact fr_ast | exact fr_bst | exact fr_qst | exact fr_len | exact fr_new | exact fr_nar | exact fr_ret | exact fr_call | exact fr_callI | exact fr_callV | exact fr_callS | exact fr_obj | exact fr_cpy | exact fr_strv | exact fr_strc | exact fr_mm | exact fr_vret
end FRM
theorem fr_am : ∀ (n k pc : Nat) (l st : List zV) (T : zT) (V : zM) (x : zV × zH), am n k pc l st T V = some x → zFrx T V x.2 := by
  intro n
  induction n with
  | zero => intro k pc l st T V x h; simp [am] at h
  | succ n ih =>
    intro k pc l st T V x h
    unfold am at h
    cases hc : zcode k pc with
    | none => rw [hc] at h; simp at h
    | some I =>
      rw [hc] at h
      simp only at h
      cases hs : z_step I l st T V with
      | none => rw [hs] at h; simp at h
      | some r =>
        have hf := fr_step (I := I) (l := l) (st := st) (T := T) (V := V) r hs
        rw [hs] at h
        rcases r with ⟨pc', l', st', T', V'⟩ | ⟨k', args, nx, l', st', T', V'⟩ | y
        · simp only at h
          exact zFrx_tr hf (ih _ _ _ _ _ _ _ h)
        · simp only at h
          by_cases hl : zlv k' < zlv k ∧ (z_sp args).length ≤ zmL k'
          · rw [if_pos hl] at h
            cases ha : am n k' 0 (z_ent (zmL k') args) [] T' V' with
            | none => rw [ha] at h; simp at h
            | some z =>
              obtain ⟨r, T2, V2⟩ := z
              rw [ha] at h
              simp only at h
              exact zFrx_tr hf (zFrx_tr (ih _ _ _ _ _ _ _ ha) (ih _ _ _ _ _ _ _ h))
          · rw [if_neg hl] at h; simp at h
        · simp only at h
          cases h
          exact hf
theorem fr_zcall {k : Nat} {args : List zV} {T : zT} {V : zM} {r : zV} {T' : zT} {V' : zM} (h : zcall k args T V = some (r, T', V')) : zFrx T V (T', V') := by
  obtain ⟨n, hn⟩ := ev_to h
  exact fr_am n _ _ _ _ _ _ _ hn
theorem zwp_fr {k : Nat} {args : List zV} {T : zT} {V : zM} {Q : zV → zT → zM → Prop} (h : zwp (zcall k args T V) Q) : zwp (zcall k args T V) fun r T' V' => Q r T' V' ∧ zFrx T V (T', V') := by
  obtain ⟨r, T', V', he, hq⟩ := h
  exact ⟨r, T', V', he, hq, fr_zcall he⟩
