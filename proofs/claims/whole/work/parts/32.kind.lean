/-! what a step does to lengths and sizes; which steps call, which end -/
def zPr (lo : List zV) (T : zT) (r : zR) : Prop := ∃ (pc' : Nat) (lo' st' : List zV) (T' : zT) (V' : zM), r = .inl (pc', lo', st', T', V') ∧ lo'.length = lo.length ∧ T.1 ≤ T'.1 ∧ T.2.1 ≤ T'.2.1
theorem zPr_go {nx : Nat} {lo l1 st : List zV} {T T1 : zT} {V : zM} {r : zR} (h : zgo nx l1 st T1 V = some r) (h1 : l1.length = lo.length) (h2 : T.1 ≤ T1.1) (h3 : T.2.1 ≤ T1.2.1) : zPr lo T r := ⟨_, _, _, _, _, (Option.some.inj h).symm, h1, h2, h3⟩
theorem zr_ld {nx a : Nat} {lo st : List zV} {T : zT} {V : zM} {r : zR} {t : Nat} (h : zo_ld t nx a lo st T V = some r) : zPr lo T r := by
  unfold zo_ld at h
  repeat' split at h
  all_goals first | exact zPr_go h (by simp) (Nat.le_refl _) (Nat.le_refl _) | cases h
theorem zr_lda {nx a : Nat} {lo st : List zV} {T : zT} {V : zM} {r : zR} (h : zo_lda nx a lo st T V = some r) : zPr lo T r := by
  unfold zo_lda at h
  repeat' split at h
  all_goals first | exact zPr_go h (by simp) (Nat.le_refl _) (Nat.le_refl _) | cases h
theorem zr_st1 {nx a : Nat} {lo st : List zV} {T : zT} {V : zM} {r : zR} {q : Nat → Bool} (h : zo_st1 q nx a lo st T V = some r) : zPr lo T r := by
  unfold zo_st1 at h
  repeat' split at h
  all_goals first | exact zPr_go h (by simp) (Nat.le_refl _) (Nat.le_refl _) | cases h
theorem zr_st2 {nx a : Nat} {lo st : List zV} {T : zT} {V : zM} {r : zR} (h : zo_st2 nx a lo st T V = some r) : zPr lo T r := by
  unfold zo_st2 at h
  repeat' split at h
  all_goals first | exact zPr_go h (by simp) (Nat.le_refl _) (Nat.le_refl _) | cases h
theorem zr_inc {nx a : Nat} {b : Int} {lo st : List zV} {T : zT} {V : zM} {r : zR} (h : zo_inc nx a b lo st T V = some r) : zPr lo T r := by
  unfold zo_inc at h
  repeat' split at h
  all_goals first | exact zPr_go h (by simp) (Nat.le_refl _) (Nat.le_refl _) | cases h
theorem zr_bin {nx : Nat} {lo st : List zV} {T : zT} {V : zM} {r : zR} {t : Nat} {g : Int → Int → Prop} {dg : ∀ x y, Decidable (g x y)} {f : Int → Int → Int} (h : zo_bin t g dg f nx lo st T V = some r) : zPr lo T r := by
  unfold zo_bin at h
  repeat' split at h
  all_goals first | exact zPr_go h (by simp) (Nat.le_refl _) (Nat.le_refl _) | cases h
theorem zr_lsh {nx : Nat} {lo st : List zV} {T : zT} {V : zM} {r : zR} {g : Int → Int → Prop} {dg : ∀ x y, Decidable (g x y)} {f : Int → Int → Int} (h : zo_lsh g dg f nx lo st T V = some r) : zPr lo T r := by
  unfold zo_lsh at h
  repeat' split at h
  all_goals first | exact zPr_go h (by simp) (Nat.le_refl _) (Nat.le_refl _) | cases h
theorem zr_cmp {nx : Nat} {lo st : List zV} {T : zT} {V : zM} {r : zR} (h : zo_cmp nx lo st T V = some r) : zPr lo T r := by
  unfold zo_cmp at h
  repeat' split at h
  all_goals first | exact zPr_go h (by simp) (Nat.le_refl _) (Nat.le_refl _) | cases h
theorem zr_mm {nx : Nat} {lo st : List zV} {T : zT} {V : zM} {r : zR} {t : Nat} {f : Int → Int → Int} (h : zo_mm t f nx lo st T V = some r) : zPr lo T r := by
  unfold zo_mm at h
  repeat' split at h
  all_goals first | exact zPr_go h (by simp) (Nat.le_refl _) (Nat.le_refl _) | cases h
theorem zr_un {nx : Nat} {lo st : List zV} {T : zT} {V : zM} {r : zR} {t u : Nat} {g : Int → Prop} {dg : ∀ x, Decidable (g x)} {f : Int → Int} (h : zo_un t u g dg f nx lo st T V = some r) : zPr lo T r := by
  unfold zo_un at h
  repeat' split at h
  all_goals first | exact zPr_go h (by simp) (Nat.le_refl _) (Nat.le_refl _) | cases h
theorem zr_if1 {nx a : Nat} {lo st : List zV} {T : zT} {V : zM} {r : zR} {g : Int → Prop} {dg : ∀ x, Decidable (g x)} (h : zo_if1 g dg nx a lo st T V = some r) : zPr lo T r := by
  unfold zo_if1 at h
  repeat' split at h
  all_goals first | exact zPr_go h (by simp) (Nat.le_refl _) (Nat.le_refl _) | cases h
theorem zr_if2 {nx a : Nat} {lo st : List zV} {T : zT} {V : zM} {r : zR} {g : Int → Int → Prop} {dg : ∀ x y, Decidable (g x y)} (h : zo_if2 g dg nx a lo st T V = some r) : zPr lo T r := by
  unfold zo_if2 at h
  repeat' split at h
  all_goals first | exact zPr_go h (by simp) (Nat.le_refl _) (Nat.le_refl _) | cases h
theorem zr_nn {nx a : Nat} {lo st : List zV} {T : zT} {V : zM} {r : zR} (h : zo_nn nx a lo st T V = some r) : zPr lo T r := by
  unfold zo_nn at h
  repeat' split at h
  all_goals first | exact zPr_go h (by simp) (Nat.le_refl _) (Nat.le_refl _) | cases h
theorem zr_sw  {b : Int} {lo st : List zV} {T : zT} {V : zM} {r : zR} {ts : List Nat} (h : zo_sw b ts lo st T V = some r) : zPr lo T r := by
  unfold zo_sw at h
  repeat' split at h
  all_goals first | exact zPr_go h (by simp) (Nat.le_refl _) (Nat.le_refl _) | cases h
theorem zr_dup {nx : Nat} {lo st : List zV} {T : zT} {V : zM} {r : zR} (h : zo_dup nx lo st T V = some r) : zPr lo T r := by
  unfold zo_dup at h
  repeat' split at h
  all_goals first | exact zPr_go h (by simp) (Nat.le_refl _) (Nat.le_refl _) | cases h
theorem zr_pop {nx : Nat} {lo st : List zV} {T : zT} {V : zM} {r : zR} (h : zo_pop nx lo st T V = some r) : zPr lo T r := by
  unfold zo_pop at h
  repeat' split at h
  all_goals first | exact zPr_go h (by simp) (Nat.le_refl _) (Nat.le_refl _) | cases h
theorem zr_dup2 {nx : Nat} {lo st : List zV} {T : zT} {V : zM} {r : zR} (h : zo_dup2 nx lo st T V = some r) : zPr lo T r := by
  unfold zo_dup2 at h
  repeat' split at h
  all_goals first | exact zPr_go h (by simp) (Nat.le_refl _) (Nat.le_refl _) | cases h
theorem zr_get {nx a : Nat} {b : Int} {lo st : List zV} {T : zT} {V : zM} {r : zR} {t : Nat} {M : Int → Int → Int} (h : zo_get t M nx a b lo st T V = some r) : zPr lo T r := by
  unfold zo_get at h
  repeat' split at h
  all_goals first | exact zPr_go h (by simp) (Nat.le_refl _) (Nat.le_refl _) | cases h
theorem zr_put {nx a : Nat} {b : Int} {lo st : List zV} {T : zT} {V : zM} {r : zR} {g : Int → Prop} {dg : ∀ x, Decidable (g x)} (h : zo_put g dg nx a b lo st T V = some r) : zPr lo T r := by
  unfold zo_put at h
  repeat' split at h
  all_goals first | exact zPr_go h (by simp) (Nat.le_refl _) (Nat.le_refl _) | cases h
theorem zr_putr {nx a : Nat} {b : Int} {lo st : List zV} {T : zT} {V : zM} {r : zR} (h : zo_putr nx a b lo st T V = some r) : zPr lo T r := by
  unfold zo_putr at h
  repeat' split at h
  all_goals first | exact zPr_go h (by simp) (Nat.le_refl _) (Nat.le_refl _) | cases h
theorem zr_ald {nx : Nat} {lo st : List zV} {T : zT} {V : zM} {r : zR} {t : Nat} {M : Int → Int → Int} {c : Int} (h : zo_ald t M c nx lo st T V = some r) : zPr lo T r := by
  unfold zo_ald at h
  repeat' split at h
  all_goals first | exact zPr_go h (by simp) (Nat.le_refl _) (Nat.le_refl _) | cases h
theorem zr_ast {nx : Nat} {lo st : List zV} {T : zT} {V : zM} {r : zR} {t : Nat} {c : Int} {g : Int → Prop} {dg : ∀ x, Decidable (g x)} (h : zo_ast t c g dg nx lo st T V = some r) : zPr lo T r := by
  unfold zo_ast at h
  repeat' split at h
  all_goals first | exact zPr_go h (by simp) (Nat.le_refl _) (Nat.le_refl _) | cases h
theorem zr_qst {nx : Nat} {lo st : List zV} {T : zT} {V : zM} {r : zR} (h : zo_qst nx lo st T V = some r) : zPr lo T r := by
  unfold zo_qst at h
  repeat' split at h
  all_goals first | exact zPr_go h (by simp) (Nat.le_refl _) (Nat.le_refl _) | cases h
theorem zr_len {nx : Nat} {lo st : List zV} {T : zT} {V : zM} {r : zR} (h : zo_len nx lo st T V = some r) : zPr lo T r := by
  unfold zo_len at h
  repeat' split at h
  all_goals first | exact zPr_go h (by simp) (Nat.le_refl _) (Nat.le_refl _) | cases h
theorem zr_new {nx a : Nat} {lo st : List zV} {T : zT} {V : zM} {r : zR} (h : zo_new nx a lo st T V = some r) : zPr lo T r := by
  unfold zo_new at h
  repeat' split at h
  all_goals first | exact zPr_go h (by simp) (Nat.le_succ _) (Nat.le_add_right _ _) | cases h
theorem zr_nar {nx : Nat} {lo st : List zV} {T : zT} {V : zM} {r : zR} {c : Int} (h : zo_nar c nx lo st T V = some r) : zPr lo T r := by
  unfold zo_nar at h
  repeat' split at h
  all_goals first | exact zPr_go h (by simp) (Nat.le_succ _) (Nat.le_add_right _ _) | cases h
theorem zr_obj {nx : Nat} {lo st : List zV} {T : zT} {V : zM} {r : zR} (h : zo_obj nx lo st T V = some r) : zPr lo T r := by
  unfold zo_obj at h
  repeat' split at h
  all_goals first | exact zPr_go h (by simp) (Nat.le_refl _) (Nat.le_refl _) | cases h
theorem zr_cpy {nx : Nat} {lo st : List zV} {T : zT} {V : zM} {r : zR} (h : zo_cpy nx lo st T V = some r) : zPr lo T r := by
  unfold zo_cpy at h
  repeat' split at h
  all_goals first | exact zPr_go h (by simp) (Nat.le_refl _) (Nat.le_refl _) | cases h
theorem zr_strv {nx : Nat} {lo st : List zV} {T : zT} {V : zM} {r : zR} (h : zo_strv nx lo st T V = some r) : zPr lo T r := by
  unfold zo_strv at h
  repeat' split at h
  all_goals first | exact zPr_go h (by simp) (Nat.le_refl _) (Nat.le_refl _) | cases h
theorem zr_strc {nx : Nat} {lo st : List zV} {T : zT} {V : zM} {r : zR} (h : zo_strc nx lo st T V = some r) : zPr lo T r := by
  unfold zo_strc at h
  repeat' split at h
  all_goals first | exact zPr_go h (by simp) (Nat.le_refl _) (Nat.le_refl _) | cases h
theorem zr_ild {nx : Nat} {lo st : List zV} {T : zT} {V : zM} {r : zR} (h : zo_ild nx lo st T V = some r) : zPr lo T r := by
  unfold zo_ild at h
  repeat' split at h
  all_goals first | exact zPr_go h (by simp) (Nat.le_refl _) (Nat.le_refl _) | exact zr_ald h | cases h
theorem zr_bld {nx : Nat} {lo st : List zV} {T : zT} {V : zM} {r : zR} (h : zo_bld nx lo st T V = some r) : zPr lo T r := by
  unfold zo_bld at h
  repeat' split at h
  all_goals first | exact zPr_go h (by simp) (Nat.le_refl _) (Nat.le_refl _) | exact zr_ald h | cases h
theorem zr_bst {nx : Nat} {lo st : List zV} {T : zT} {V : zM} {r : zR} (h : zo_bst nx lo st T V = some r) : zPr lo T r := by
  unfold zo_bst at h
  repeat' split at h
  all_goals first | exact zr_ast h | cases h
theorem z_step_kind {I : zI} {lo st : List zV} {T : zT} {V : zM} {r : zR} (h : z_step I lo st T V = some r) : zPr lo T r ∨ (I.1 = 72 ∧ zo_ret I.2.2.1 st T V = some r) ∨ (I.1 = 73 ∧ st = [] ∧ r = .inr (.inr ((9, 0), T, V))) ∨ (I.1 = 74 ∧ zo_call I.2.1 I.2.2.1 I.2.2.2.1 lo st T V = some r) ∨ (I.1 = 75 ∧ zo_callI I.2.1 I.2.2.1 I.2.2.2.1 lo st T V = some r) ∨ (I.1 = 76 ∧ zo_callV I.2.1 I.2.2.1 I.2.2.2.1 I.2.2.2.2 lo st T V = some r) ∨ (I.1 = 77 ∧ zo_callS I.2.1 I.2.2.1 I.2.2.2.1 lo st T V = some r) := by
  obtain ⟨op, nx, a, b, ts⟩ := I
  unfold z_step at h
  simp only at h
  split at h
  all_goals first
    | (split at h <;> first | exact Or.inr (Or.inr (Or.inl ⟨rfl, rfl, (Option.some.inj h).symm⟩)) | (exfalso; cases h; done))
    | (left; first | exact zPr_go h rfl (Nat.le_refl _) (Nat.le_refl _) | exact zr_ld h | exact zr_lda h | exact zr_st1 h | exact zr_st2 h | exact zr_inc h | exact zr_bin h | exact zr_lsh h | exact zr_cmp h | exact zr_mm h | exact zr_un h | exact zr_if1 h | exact zr_if2 h | exact zr_nn h | exact zr_sw h | exact zr_dup h | exact zr_pop h | exact zr_dup2 h | exact zr_get h | exact zr_put h | exact zr_putr h | exact zr_ald h | exact zr_ast h | exact zr_qst h | exact zr_len h | exact zr_new h | exact zr_nar h | exact zr_obj h | exact zr_cpy h | exact zr_strv h | exact zr_strc h | exact zr_ild h | exact zr_bld h | exact zr_bst h | (split at h <;> first | exact zPr_go h rfl (Nat.le_refl _) (Nat.le_refl _) | (exfalso; cases h; done)))
    | exact Or.inr (Or.inl ⟨rfl, h⟩)
    | exact Or.inr (Or.inr (Or.inr (Or.inl ⟨rfl, h⟩)))
    | exact Or.inr (Or.inr (Or.inr (Or.inr (Or.inl ⟨rfl, h⟩))))
    | exact Or.inr (Or.inr (Or.inr (Or.inr (Or.inr (Or.inl ⟨rfl, h⟩)))))
    | exact Or.inr (Or.inr (Or.inr (Or.inr (Or.inr (Or.inr ⟨rfl, h⟩)))))
    | cases h
theorem zv_call {nx a : Nat} {b : Int} {lo st : List zV} {T : zT} {V : zM} {r : zR} (h : zo_call nx a b lo st T V = some r) : (b.toNat ≤ st.length ∧ zcat (st.drop b.toNat) ≤ 8) ∧ r = .inr (.inl (a, (st.take b.toNat).reverse, nx, lo, st.drop b.toNat, T, V)) := by
  unfold zo_call at h
  split at h
  · rename_i h1
    exact ⟨h1, (Option.some.inj h).symm⟩
  · cases h
theorem zv_callI {nx a : Nat} {b : Int} {lo st : List zV} {T : zT} {V : zM} {r : zR} (h : zo_callI nx a b lo st T V = some r) : (∃ (x : Int) (q : List zV), (st.take b.toNat).reverse = (2, x) :: q ∧ 0 ≤ x) ∧ zo_call nx a b lo st T V = some r := by
  unfold zo_callI at h
  split at h
  · rename_i x q he
    split at h
    · rename_i h1
      obtain ⟨t, x⟩ := x
      have h0 : t = 2 := h1.1
      subst h0
      exact ⟨⟨x, q, he, h1.2⟩, h⟩
    · cases h
  · cases h
theorem zv_callV {nx a : Nat} {b : Int} {ts : List Nat} {lo st : List zV} {T : zT} {V : zM} {r : zR} (h : zo_callV nx a b ts lo st T V = some r) : (∃ (x : Int) (q : List zV), (st.take b.toNat).reverse = (2, x) :: q ∧ (0 ≤ x ∧ x < zsz T ∧ zc T x = ((ts.getD 0 0 : Nat) : Int) + 10)) ∧ zo_call nx a b lo st T V = some r := by
  unfold zo_callV at h
  split at h
  · rename_i x q he
    split at h
    · rename_i h1
      obtain ⟨t, x⟩ := x
      have h0 : t = 2 := h1.1
      subst h0
      exact ⟨⟨x, q, he, h1.2⟩, h⟩
    · cases h
  · cases h
theorem zv_callS {nx a : Nat} {b : Int} {lo st : List zV} {T : zT} {V : zM} {r : zR} (h : zo_callS nx a b lo st T V = some r) : (∃ (x : Int) (q : List zV), (st.take b.toNat).reverse = (3, x) :: q ∧ (0 ≤ x ∧ x < 7)) ∧ zo_call nx a b lo st T V = some r := by
  unfold zo_callS at h
  split at h
  · rename_i x q he
    split at h
    · rename_i h1
      obtain ⟨t, x⟩ := x
      have h0 : t = 3 := h1.1
      subst h0
      exact ⟨⟨x, q, he, h1.2⟩, h⟩
    · cases h
  · cases h
theorem zv_ret {a : Nat} {st : List zV} {T : zT} {V : zM} {r : zR} (h : zo_ret a st T V = some r) : ∃ x : zV, st = [x] ∧ ((a = 0 ∧ x.1 = 0) ∨ (a = 1 ∧ x.1 = 1) ∨ (a = 2 ∧ x.1 = 2) ∨ (a = 3 ∧ x.1 = 0 ∧ 0 ≤ x.2 ∧ x.2 ≤ 1) ∨ (a = 4 ∧ x.1 = 0 ∧ -128 ≤ x.2 ∧ x.2 ≤ 127) ∨ (a = 5 ∧ x.1 = 0 ∧ 0 ≤ x.2 ∧ x.2 ≤ 65535)) ∧ r = .inr (.inr (x, T, V)) := by
  unfold zo_ret at h
  split at h
  · rename_i x
    split at h
    · rename_i h1
      exact ⟨x, rfl, h1, (Option.some.inj h).symm⟩
    · cases h
  · cases h
/-- a step that calls -/
theorem z_step_calls {I : zI} {lo st : List zV} {T : zT} {V : zM} {k' : Nat} {args : List zV} {nx : Nat} {l' st' : List zV} {T' : zT} {V' : zM} (h : z_step I lo st T V = some (.inr (.inl (k', args, nx, l', st', T', V')))) : (k' = I.2.2.1 ∧ args = (st.take I.2.2.2.1.toNat).reverse ∧ nx = I.2.1 ∧ l' = lo ∧ st' = st.drop I.2.2.2.1.toNat ∧ T' = T ∧ V' = V) ∧ (I.2.2.2.1.toNat ≤ st.length ∧ zcat (st.drop I.2.2.2.1.toNat) ≤ 8) ∧ (I.1 = 74 ∨ (I.1 = 75 ∧ ∃ (x : Int) (q : List zV), args = (2, x) :: q ∧ 0 ≤ x) ∨ (I.1 = 76 ∧ ∃ (x : Int) (q : List zV), args = (2, x) :: q ∧ (0 ≤ x ∧ x < zsz T ∧ zc T x = ((I.2.2.2.2.getD 0 0 : Nat) : Int) + 10)) ∨ (I.1 = 77 ∧ ∃ (x : Int) (q : List zV), args = (3, x) :: q ∧ (0 ≤ x ∧ x < 7))) := by
  rcases z_step_kind h with h1 | ⟨-, h1⟩ | ⟨-, -, h1⟩ | ⟨h0, h1⟩ | ⟨h0, h1⟩ | ⟨h0, h1⟩ | ⟨h0, h1⟩
  · obtain ⟨_, _, _, _, _, h2, -⟩ := h1
    cases h2
  · obtain ⟨_, -, -, h2⟩ := zv_ret h1
    cases h2
  · cases h1
  · obtain ⟨h2, h3⟩ := zv_call h1
    simp only [Sum.inr.injEq, Sum.inl.injEq, Prod.mk.injEq] at h3
    exact ⟨⟨h3.1, h3.2.1, h3.2.2.1, h3.2.2.2.1, h3.2.2.2.2.1, h3.2.2.2.2.2.1, h3.2.2.2.2.2.2⟩, h2, Or.inl h0⟩
  · obtain ⟨h4, h1⟩ := zv_callI h1
    obtain ⟨h2, h3⟩ := zv_call h1
    simp only [Sum.inr.injEq, Sum.inl.injEq, Prod.mk.injEq] at h3
    rw [← h3.2.1] at h4
    exact ⟨⟨h3.1, h3.2.1, h3.2.2.1, h3.2.2.2.1, h3.2.2.2.2.1, h3.2.2.2.2.2.1, h3.2.2.2.2.2.2⟩, h2, Or.inr (Or.inl ⟨h0, h4⟩)⟩
  · obtain ⟨h4, h1⟩ := zv_callV h1
    obtain ⟨h2, h3⟩ := zv_call h1
    simp only [Sum.inr.injEq, Sum.inl.injEq, Prod.mk.injEq] at h3
    rw [← h3.2.1] at h4
    exact ⟨⟨h3.1, h3.2.1, h3.2.2.1, h3.2.2.2.1, h3.2.2.2.2.1, h3.2.2.2.2.2.1, h3.2.2.2.2.2.2⟩, h2, Or.inr (Or.inr (Or.inl ⟨h0, h4⟩))⟩
  · obtain ⟨h4, h1⟩ := zv_callS h1
    obtain ⟨h2, h3⟩ := zv_call h1
    simp only [Sum.inr.injEq, Sum.inl.injEq, Prod.mk.injEq] at h3
    rw [← h3.2.1] at h4
    exact ⟨⟨h3.1, h3.2.1, h3.2.2.1, h3.2.2.2.1, h3.2.2.2.2.1, h3.2.2.2.2.2.1, h3.2.2.2.2.2.2⟩, h2, Or.inr (Or.inr (Or.inr ⟨h0, h4⟩))⟩
theorem z_step_ends {I : zI} {lo st : List zV} {T : zT} {V : zM} {x : zV} {T' : zT} {V' : zM} (h : z_step I lo st T V = some (.inr (.inr (x, T', V')))) : T' = T ∧ V' = V ∧ ((I.1 = 72 ∧ st = [x] ∧ ((I.2.2.1 = 0 ∧ x.1 = 0) ∨ (I.2.2.1 = 1 ∧ x.1 = 1) ∨ (I.2.2.1 = 2 ∧ x.1 = 2) ∨ (I.2.2.1 = 3 ∧ x.1 = 0 ∧ 0 ≤ x.2 ∧ x.2 ≤ 1) ∨ (I.2.2.1 = 4 ∧ x.1 = 0 ∧ -128 ≤ x.2 ∧ x.2 ≤ 127) ∨ (I.2.2.1 = 5 ∧ x.1 = 0 ∧ 0 ≤ x.2 ∧ x.2 ≤ 65535))) ∨ (I.1 = 73 ∧ st = [] ∧ x = (9, 0))) := by
  rcases z_step_kind h with h1 | ⟨h0, h1⟩ | ⟨h0, h2, h1⟩ | ⟨h0, h1⟩ | ⟨h0, h1⟩ | ⟨h0, h1⟩ | ⟨h0, h1⟩
  · obtain ⟨_, _, _, _, _, h2, -⟩ := h1
    cases h2
  · obtain ⟨y, h2, h3, h4⟩ := zv_ret h1
    simp only [Sum.inr.injEq, Prod.mk.injEq] at h4
    obtain ⟨rfl, rfl, rfl⟩ := h4
    exact ⟨rfl, rfl, Or.inl ⟨h0, h2, h3⟩⟩
  · simp only [Sum.inr.injEq, Prod.mk.injEq] at h1
    exact ⟨h1.2.1, h1.2.2, Or.inr ⟨h0, h2, h1.1⟩⟩
  · cases (zv_call h1).2
  · cases (zv_call (zv_callI h1).2).2
  · cases (zv_call (zv_callV h1).2).2
  · cases (zv_call (zv_callS h1).2).2
theorem am_grow : ∀ (n k pc : Nat) (l st : List zV) (T : zT) (V : zM) (r : zV) (T' : zT) (V' : zM), am n k pc l st T V = some (r, T', V') → T.1 ≤ T'.1 ∧ T.2.1 ≤ T'.2.1 := by
  intro n
  induction n with
  | zero => intro k pc l st T V r T' V' h; simp [am] at h
  | succ n ih =>
    intro k pc l st T V r T' V' h
    unfold am at h
    cases hc : zcode k pc with
    | none => rw [hc] at h; simp at h
    | some I =>
      rw [hc] at h
      simp only at h
      cases hs : z_step I l st T V with
      | none => rw [hs] at h; simp at h
      | some q =>
        rw [hs] at h
        rcases q with ⟨pc', l', st', T1, V1⟩ | ⟨k', args, nx, l', st', T1, V1⟩ | ⟨y, T1, V1⟩
        · simp only at h
          have h2 := ih _ _ _ _ _ _ _ _ _ h
          rcases z_step_kind hs with h1 | ⟨-, h1⟩ | ⟨-, -, h1⟩ | ⟨h0, h1⟩ | ⟨h0, h1⟩ | ⟨h0, h1⟩ | ⟨h0, h1⟩
          · obtain ⟨_, _, _, T3, _, h3, -, h4, h5⟩ := h1
            simp only [Sum.inl.injEq, Prod.mk.injEq] at h3
            obtain ⟨-, -, -, rfl, -⟩ := h3
            omega
          · obtain ⟨_, -, -, h3⟩ := zv_ret h1
            cases h3
          · cases h1
          · cases (zv_call h1).2
          · cases (zv_call (zv_callI h1).2).2
          · cases (zv_call (zv_callV h1).2).2
          · cases (zv_call (zv_callS h1).2).2
        · simp only at h
          obtain ⟨⟨-, -, -, -, -, e5, e6⟩, -⟩ := z_step_calls hs
          subst e5
          by_cases hl : zlv k' < zlv k ∧ (z_sp args).length ≤ zmL k'
          · rw [if_pos hl] at h
            cases ha : am n k' 0 (z_ent (zmL k') args) [] T1 V1 with
            | none => rw [ha] at h; simp at h
            | some z =>
              obtain ⟨r2, T2, V2⟩ := z
              rw [ha] at h
              simp only at h
              have h1 := ih _ _ _ _ _ _ _ _ _ ha
              have h2 := ih _ _ _ _ _ _ _ _ _ h
              omega
          · rw [if_neg hl] at h; simp at h
        · simp only at h
          obtain ⟨e1, e2, -⟩ := z_step_ends hs
          cases h
          subst e1
          exact ⟨Nat.le_refl _, Nat.le_refl _⟩
