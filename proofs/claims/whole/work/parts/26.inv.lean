/-! what a step that went on tells -/
section ZINV
variable {nx a : Nat} {b : Int} {lo st lo' st' : List zV} {T T' : zT} {V V' : zM} {pc' : Nat}
theorem zgo_inv {x : Nat} {l1 s1 : List zV} {T1 : zT} {V1 : zM} (h : zgo x l1 s1 T1 V1 = some (.inl (pc', lo', st', T', V'))) : pc' = x ∧ lo' = l1 ∧ st' = s1 ∧ T' = T1 ∧ V' = V1 := by
  have h := Sum.inl.inj (Option.some.inj h)
  simp only [Prod.mk.injEq] at h
  exact ⟨h.1.symm, h.2.1.symm, h.2.2.1.symm, h.2.2.2.1.symm, h.2.2.2.2.symm⟩
theorem zv_ld {t : Nat} (h : zo_ld t nx a lo st T V = some (.inl (pc', lo', st', T', V'))) : ∃ x, lo[a]? = some (t, x) ∧ pc' = nx ∧ lo' = lo ∧ st' = (t, x) :: st ∧ T' = T ∧ V' = V := by
  unfold zo_ld at h
  split at h
  · rename_i v hv
    split at h
    · rename_i ht
      exact ⟨v.2, by rw [hv, ← ht], by rw [← ht]; exact zgo_inv h⟩
    · cases h
  · cases h
theorem zv_lda (h : zo_lda nx a lo st T V = some (.inl (pc', lo', st', T', V'))) : ∃ v : zV, lo[a]? = some v ∧ (2 ≤ v.1 ∧ v.1 ≤ 6) ∧ pc' = nx ∧ lo' = lo ∧ st' = v :: st ∧ T' = T ∧ V' = V := by
  unfold zo_lda at h
  split at h
  · rename_i v hv
    split at h
    · rename_i ht
      exact ⟨v, hv, ht, zgo_inv h⟩
    · cases h
  · cases h
theorem zv_st1 {q : Nat → Bool} (h : zo_st1 q nx a lo st T V = some (.inl (pc', lo', st', T', V'))) : ∃ (v : zV) (s0 : List zV), st = v :: s0 ∧ q v.1 = true ∧ (a < lo.length ∧ (a = 0 ∨ (lo.getD (a - 1) (9, 0)).1 ≠ 1)) ∧ pc' = nx ∧ lo' = lo.set a v ∧ st' = s0 ∧ T' = T ∧ V' = V := by
  unfold zo_st1 at h
  split at h
  · rename_i v s0
    split at h
    · rename_i ht
      exact ⟨v, s0, rfl, ht.1, ht.2, zgo_inv h⟩
    · cases h
  · cases h
theorem zv_st2 (h : zo_st2 nx a lo st T V = some (.inl (pc', lo', st', T', V'))) : ∃ (x : Int) (s0 : List zV), st = (1, x) :: s0 ∧ (a + 1 < lo.length ∧ (a = 0 ∨ (lo.getD (a - 1) (9, 0)).1 ≠ 1)) ∧ pc' = nx ∧ lo' = (lo.set a (1, x)).set (a + 1) (9, 0) ∧ st' = s0 ∧ T' = T ∧ V' = V := by
  unfold zo_st2 at h
  split at h
  · rename_i v s0
    split at h
    · rename_i ht
      obtain ⟨t, x⟩ := v
      obtain ⟨h1, h2⟩ := ht
      have h1 : t = 1 := h1
      subst h1
      exact ⟨x, s0, rfl, h2, zgo_inv h⟩
    · cases h
  · cases h
theorem zv_inc (h : zo_inc nx a b lo st T V = some (.inl (pc', lo', st', T', V'))) : ∃ x : Int, lo[a]? = some (0, x) ∧ z32 (x + b) ∧ (a = 0 ∨ (lo.getD (a - 1) (9, 0)).1 ≠ 1) ∧ pc' = nx ∧ lo' = lo.set a (0, x + b) ∧ st' = st ∧ T' = T ∧ V' = V := by
  unfold zo_inc at h
  split at h
  · rename_i v hv
    split at h
    · rename_i ht
      obtain ⟨t, x⟩ := v
      obtain ⟨h1, h2, h3⟩ := ht
      have h1 : t = 0 := h1
      subst h1
      exact ⟨x, hv, h2, h3, zgo_inv h⟩
    · cases h
  · cases h
theorem zv_bin {t : Nat} {g : Int → Int → Prop} {dg : ∀ x y, Decidable (g x y)} {f : Int → Int → Int} (h : zo_bin t g dg f nx lo st T V = some (.inl (pc', lo', st', T', V'))) : ∃ (x y : Int) (s0 : List zV), st = (t, y) :: (t, x) :: s0 ∧ g x y ∧ pc' = nx ∧ lo' = lo ∧ st' = (t, f x y) :: s0 ∧ T' = T ∧ V' = V := by
  unfold zo_bin at h
  split at h
  · rename_i y x s0
    split at h
    · rename_i ht
      split at h
      · rename_i hg
        obtain ⟨t1, y⟩ := y
        obtain ⟨t2, x⟩ := x
        obtain ⟨h1, h2⟩ := ht
        have h1 : t1 = t := h1
        have h2 : t2 = t := h2
        subst h1; subst h2
        exact ⟨x, y, s0, rfl, hg, zgo_inv h⟩
      · cases h
    · cases h
  · cases h
theorem zv_lsh {g : Int → Int → Prop} {dg : ∀ x y, Decidable (g x y)} {f : Int → Int → Int} (h : zo_lsh g dg f nx lo st T V = some (.inl (pc', lo', st', T', V'))) : ∃ (x y : Int) (s0 : List zV), st = (0, y) :: (1, x) :: s0 ∧ g x y ∧ pc' = nx ∧ lo' = lo ∧ st' = (1, f x y) :: s0 ∧ T' = T ∧ V' = V := by
  unfold zo_lsh at h
  split at h
  · rename_i y x s0
    split at h
    · rename_i ht
      split at h
      · rename_i hg
        obtain ⟨t1, y⟩ := y
        obtain ⟨t2, x⟩ := x
        obtain ⟨h1, h2⟩ := ht
        have h1 : t1 = 0 := h1
        have h2 : t2 = 1 := h2
        subst h1; subst h2
        exact ⟨x, y, s0, rfl, hg, zgo_inv h⟩
      · cases h
    · cases h
  · cases h
theorem zv_cmp (h : zo_cmp nx lo st T V = some (.inl (pc', lo', st', T', V'))) : ∃ (x y : Int) (s0 : List zV), st = (1, y) :: (1, x) :: s0 ∧ pc' = nx ∧ lo' = lo ∧ st' = (0, if y < x then 1 else if x = y then 0 else -1) :: s0 ∧ T' = T ∧ V' = V := by
  unfold zo_cmp at h
  split at h
  · rename_i y x s0
    split at h
    · rename_i ht
      obtain ⟨t1, y⟩ := y
      obtain ⟨t2, x⟩ := x
      obtain ⟨h1, h2⟩ := ht
      have h1 : t1 = 1 := h1
      have h2 : t2 = 1 := h2
      subst h1; subst h2
      exact ⟨x, y, s0, rfl, zgo_inv h⟩
    · cases h
  · cases h
theorem zv_mm {t : Nat} {f : Int → Int → Int} (h : zo_mm t f nx lo st T V = some (.inl (pc', lo', st', T', V'))) : ∃ (x y : Int) (s0 : List zV), st = (t, y) :: (t, x) :: s0 ∧ zcat s0 ≤ 8 ∧ pc' = nx ∧ lo' = lo ∧ st' = (t, f x y) :: s0 ∧ T' = T ∧ V' = V := by
  unfold zo_mm at h
  split at h
  · rename_i y x s0
    split at h
    · rename_i ht
      obtain ⟨t1, y⟩ := y
      obtain ⟨t2, x⟩ := x
      obtain ⟨h1, h2, h3⟩ := ht
      have h1 : t1 = t := h1
      have h2 : t2 = t := h2
      subst h1; subst h2
      exact ⟨x, y, s0, rfl, h3, zgo_inv h⟩
    · cases h
  · cases h
theorem zv_un {t u : Nat} {g : Int → Prop} {dg : ∀ x, Decidable (g x)} {f : Int → Int} (h : zo_un t u g dg f nx lo st T V = some (.inl (pc', lo', st', T', V'))) : ∃ (x : Int) (s0 : List zV), st = (t, x) :: s0 ∧ g x ∧ pc' = nx ∧ lo' = lo ∧ st' = (u, f x) :: s0 ∧ T' = T ∧ V' = V := by
  unfold zo_un at h
  split at h
  · rename_i x s0
    split at h
    · rename_i ht
      split at h
      · rename_i hg
        obtain ⟨t1, x⟩ := x
        have h1 : t1 = t := ht
        subst h1
        exact ⟨x, s0, rfl, hg, zgo_inv h⟩
      · cases h
    · cases h
  · cases h
theorem zv_if1 {g : Int → Prop} {dg : ∀ x, Decidable (g x)} (h : zo_if1 g dg nx a lo st T V = some (.inl (pc', lo', st', T', V'))) : ∃ (x : Int) (s0 : List zV), st = (0, x) :: s0 ∧ ((g x ∧ pc' = a) ∨ (¬ g x ∧ pc' = nx)) ∧ lo' = lo ∧ st' = s0 ∧ T' = T ∧ V' = V := by
  unfold zo_if1 at h
  split at h
  · rename_i x s0
    split at h
    · rename_i ht
      obtain ⟨t1, x⟩ := x
      have h1 : t1 = 0 := ht
      subst h1
      split at h
      · rename_i hg
        have hz := zgo_inv h
        exact ⟨x, s0, rfl, Or.inl ⟨hg, hz.1⟩, hz.2⟩
      · rename_i hg
        have hz := zgo_inv h
        exact ⟨x, s0, rfl, Or.inr ⟨hg, hz.1⟩, hz.2⟩
    · cases h
  · cases h
theorem zv_if2 {g : Int → Int → Prop} {dg : ∀ x y, Decidable (g x y)} (h : zo_if2 g dg nx a lo st T V = some (.inl (pc', lo', st', T', V'))) : ∃ (x y : Int) (s0 : List zV), st = (0, y) :: (0, x) :: s0 ∧ ((g x y ∧ pc' = a) ∨ (¬ g x y ∧ pc' = nx)) ∧ lo' = lo ∧ st' = s0 ∧ T' = T ∧ V' = V := by
  unfold zo_if2 at h
  split at h
  · rename_i y x s0
    split at h
    · rename_i ht
      obtain ⟨t1, y⟩ := y
      obtain ⟨t2, x⟩ := x
      obtain ⟨h1, h2⟩ := ht
      have h1 : t1 = 0 := h1
      have h2 : t2 = 0 := h2
      subst h1; subst h2
      split at h
      · rename_i hg
        have hz := zgo_inv h
        exact ⟨x, y, s0, rfl, Or.inl ⟨hg, hz.1⟩, hz.2⟩
      · rename_i hg
        have hz := zgo_inv h
        exact ⟨x, y, s0, rfl, Or.inr ⟨hg, hz.1⟩, hz.2⟩
    · cases h
  · cases h
theorem zv_nn (h : zo_nn nx a lo st T V = some (.inl (pc', lo', st', T', V'))) : ∃ (x : Int) (s0 : List zV), st = (2, x) :: s0 ∧ ((0 ≤ x ∧ pc' = a) ∨ (¬ 0 ≤ x ∧ pc' = nx)) ∧ lo' = lo ∧ st' = s0 ∧ T' = T ∧ V' = V := by
  unfold zo_nn at h
  split at h
  · rename_i x s0
    split at h
    · rename_i ht
      obtain ⟨t1, x⟩ := x
      have h1 : t1 = 2 := ht
      subst h1
      split at h
      · rename_i hg
        have hz := zgo_inv h
        exact ⟨x, s0, rfl, Or.inl ⟨hg, hz.1⟩, hz.2⟩
      · rename_i hg
        have hz := zgo_inv h
        exact ⟨x, s0, rfl, Or.inr ⟨hg, hz.1⟩, hz.2⟩
    · cases h
  · cases h
theorem zv_sw {ts : List Nat} (h : zo_sw b ts lo st T V = some (.inl (pc', lo', st', T', V'))) : ∃ (x : Int) (s0 : List zV), st = (0, x) :: s0 ∧ (((b ≤ x ∧ x < b + (ts.length : Int) - 1) ∧ pc' = ts.getD ((x - b).toNat + 1) 0) ∨ (¬ (b ≤ x ∧ x < b + (ts.length : Int) - 1) ∧ pc' = ts.getD 0 0)) ∧ lo' = lo ∧ st' = s0 ∧ T' = T ∧ V' = V := by
  unfold zo_sw at h
  split at h
  · rename_i x s0
    split at h
    · rename_i ht
      obtain ⟨t1, x⟩ := x
      have h1 : t1 = 0 := ht
      subst h1
      split at h
      · rename_i hg
        have hz := zgo_inv h
        exact ⟨x, s0, rfl, Or.inl ⟨hg, hz.1⟩, hz.2⟩
      · rename_i hg
        have hz := zgo_inv h
        exact ⟨x, s0, rfl, Or.inr ⟨hg, hz.1⟩, hz.2⟩
    · cases h
  · cases h
theorem zv_dup (h : zo_dup nx lo st T V = some (.inl (pc', lo', st', T', V'))) : ∃ (v : zV) (s0 : List zV), st = v :: s0 ∧ (v.1 = 0 ∨ v.1 = 2) ∧ pc' = nx ∧ lo' = lo ∧ st' = v :: v :: s0 ∧ T' = T ∧ V' = V := by
  unfold zo_dup at h
  split at h
  · rename_i x s0
    split at h
    · rename_i ht
      exact ⟨x, s0, rfl, ht, zgo_inv h⟩
    · cases h
  · cases h
theorem zv_pop (h : zo_pop nx lo st T V = some (.inl (pc', lo', st', T', V'))) : ∃ (v : zV) (s0 : List zV), st = v :: s0 ∧ (v.1 = 0 ∨ v.1 = 2) ∧ pc' = nx ∧ lo' = lo ∧ st' = s0 ∧ T' = T ∧ V' = V := by
  unfold zo_pop at h
  split at h
  · rename_i x s0
    split at h
    · rename_i ht
      exact ⟨x, s0, rfl, ht, zgo_inv h⟩
    · cases h
  · cases h
theorem zv_dup2 (h : zo_dup2 nx lo st T V = some (.inl (pc', lo', st', T', V'))) : ∃ (v w : zV) (s0 : List zV), st = v :: w :: s0 ∧ ((v.1 = 0 ∨ v.1 = 2) ∧ (w.1 = 0 ∨ w.1 = 2)) ∧ pc' = nx ∧ lo' = lo ∧ st' = v :: w :: v :: w :: s0 ∧ T' = T ∧ V' = V := by
  unfold zo_dup2 at h
  split at h
  · rename_i x y s0
    split at h
    · rename_i ht
      exact ⟨x, y, s0, rfl, ht, zgo_inv h⟩
    · cases h
  · cases h
theorem zv_get {t : Nat} {M : Int → Int → Int} (h : zo_get t M nx a b lo st T V = some (.inl (pc', lo', st', T', V'))) : ∃ (x : Int) (s0 : List zV), st = (2, x) :: s0 ∧ (0 ≤ x ∧ x < zsz T ∧ zc T x = (a : Int) + 10) ∧ pc' = nx ∧ lo' = lo ∧ st' = (t, M x b) :: s0 ∧ T' = T ∧ V' = V := by
  unfold zo_get at h
  split at h
  · rename_i x s0
    split at h
    · rename_i ht
      obtain ⟨t1, x⟩ := x
      obtain ⟨h1, h2⟩ := ht
      have h1 : t1 = 2 := h1
      subst h1
      exact ⟨x, s0, rfl, h2, zgo_inv h⟩
    · cases h
  · cases h
theorem zv_put {g : Int → Prop} {dg : ∀ x, Decidable (g x)} (h : zo_put g dg nx a b lo st T V = some (.inl (pc', lo', st', T', V'))) : ∃ (y x : Int) (s0 : List zV), st = (0, y) :: (2, x) :: s0 ∧ (0 ≤ x ∧ x < zsz T ∧ zc T x = (a : Int) + 10) ∧ g y ∧ pc' = nx ∧ lo' = lo ∧ st' = s0 ∧ T' = T ∧ V' = zs V x (zu (V x) b y) := by
  unfold zo_put at h
  split at h
  · rename_i y x s0
    split at h
    · rename_i ht
      split at h
      · rename_i hg
        obtain ⟨t0, y⟩ := y
        obtain ⟨t1, x⟩ := x
        obtain ⟨⟨h0, h1⟩, h2⟩ := ht
        have h0 : t0 = 0 := h0
        have h1 : t1 = 2 := h1
        subst h0; subst h1
        exact ⟨y, x, s0, rfl, h2, hg, zgo_inv h⟩
      · cases h
    · cases h
  · cases h
theorem zv_putr (h : zo_putr nx a b lo st T V = some (.inl (pc', lo', st', T', V'))) : ∃ (y x : Int) (s0 : List zV), st = (2, y) :: (2, x) :: s0 ∧ (0 ≤ x ∧ x < zsz T ∧ zc T x = (a : Int) + 10) ∧ pc' = nx ∧ lo' = lo ∧ st' = s0 ∧ T' = zq T x (zu (zp T x) b y) ∧ V' = V := by
  unfold zo_putr at h
  split at h
  · rename_i y x s0
    split at h
    · rename_i ht
      obtain ⟨t0, y⟩ := y
      obtain ⟨t1, x⟩ := x
      obtain ⟨⟨h0, h1⟩, h2⟩ := ht
      have h0 : t0 = 2 := h0
      have h1 : t1 = 2 := h1
      subst h0; subst h1
      exact ⟨y, x, s0, rfl, h2, zgo_inv h⟩
    · cases h
  · cases h
theorem zv_ald {t : Nat} {M : Int → Int → Int} {c : Int} (h : zo_ald t M c nx lo st T V = some (.inl (pc', lo', st', T', V'))) : ∃ (i x : Int) (s0 : List zV), st = (0, i) :: (2, x) :: s0 ∧ (0 ≤ x ∧ x < zsz T ∧ zc T x = c) ∧ (0 ≤ i ∧ i < zl T x) ∧ pc' = nx ∧ lo' = lo ∧ st' = (t, M x i) :: s0 ∧ T' = T ∧ V' = V := by
  unfold zo_ald at h
  split at h
  · rename_i y x s0
    split at h
    · rename_i ht
      obtain ⟨t0, y⟩ := y
      obtain ⟨t1, x⟩ := x
      obtain ⟨⟨h0, h1⟩, h2, h3⟩ := ht
      have h0 : t0 = 0 := h0
      have h1 : t1 = 2 := h1
      subst h0; subst h1
      exact ⟨y, x, s0, rfl, h2, h3, zgo_inv h⟩
    · cases h
  · cases h
theorem zv_ild (h : zo_ild nx lo st T V = some (.inl (pc', lo', st', T', V'))) : (∃ (i j : Int) (s0 : List zV), st = (0, i) :: (4, j) :: s0 ∧ (0 ≤ i ∧ i < zl T (-2)) ∧ pc' = nx ∧ lo' = lo ∧ st' = (0, V (-2) i) :: s0 ∧ T' = T ∧ V' = V) ∨ zo_ald 0 V 0 nx lo st T V = some (.inl (pc', lo', st', T', V')) := by
  unfold zo_ild at h
  split at h
  · rename_i y x s0
    split at h
    · rename_i ht
      split at h
      · rename_i hg
        obtain ⟨t0, y⟩ := y
        obtain ⟨t1, x⟩ := x
        have h0 : t0 = 0 := hg.1
        have h1 : t1 = 4 := ht
        subst h0; subst h1
        exact Or.inl ⟨y, x, s0, rfl, hg.2, zgo_inv h⟩
      · cases h
    · exact Or.inr h
  · cases h
theorem zv_bld (h : zo_bld nx lo st T V = some (.inl (pc', lo', st', T', V'))) : (∃ (i j : Int) (s0 : List zV), st = (0, i) :: (5, j) :: s0 ∧ (0 ≤ j ∧ j < 7) ∧ (0 ≤ i ∧ i < ((z_str j).length : Int)) ∧ pc' = nx ∧ lo' = lo ∧ st' = (0, (z_str j).getD i.toNat 0) :: s0 ∧ T' = T ∧ V' = V) ∨ zo_ald 0 V 3 nx lo st T V = some (.inl (pc', lo', st', T', V')) ∨ zo_ald 0 V 2 nx lo st T V = some (.inl (pc', lo', st', T', V')) := by
  unfold zo_bld at h
  split at h
  · rename_i y x s0
    split at h
    · rename_i ht
      split at h
      · rename_i hg
        obtain ⟨t0, y⟩ := y
        obtain ⟨t1, x⟩ := x
        have h0 : t0 = 0 := hg.1
        have h1 : t1 = 5 := ht
        subst h0; subst h1
        exact Or.inl ⟨y, x, s0, rfl, hg.2.1, hg.2.2, zgo_inv h⟩
      · cases h
    · split at h
      · exact Or.inr (Or.inl h)
      · exact Or.inr (Or.inr h)
  · cases h
theorem zv_ast {t : Nat} {c : Int} {g : Int → Prop} {dg : ∀ x, Decidable (g x)} (h : zo_ast t c g dg nx lo st T V = some (.inl (pc', lo', st', T', V'))) : ∃ (y i x : Int) (s0 : List zV), st = (t, y) :: (0, i) :: (2, x) :: s0 ∧ (0 ≤ x ∧ x < zsz T ∧ zc T x = c) ∧ (0 ≤ i ∧ i < zl T x) ∧ g y ∧ pc' = nx ∧ lo' = lo ∧ st' = s0 ∧ T' = T ∧ V' = zs V x (zu (V x) i y) := by
  unfold zo_ast at h
  split at h
  · rename_i y i x s0
    split at h
    · rename_i ht
      split at h
      · rename_i hg
        obtain ⟨t0, y⟩ := y
        obtain ⟨t1, i⟩ := i
        obtain ⟨t2, x⟩ := x
        obtain ⟨⟨h0, h1, h2⟩, h3, h4⟩ := ht
        have h0 : t0 = t := h0
        have h1 : t1 = 0 := h1
        have h2 : t2 = 2 := h2
        subst h0; subst h1; subst h2
        exact ⟨y, i, x, s0, rfl, h3, h4, hg, zgo_inv h⟩
      · cases h
    · cases h
  · cases h
theorem zv_bst (h : zo_bst nx lo st T V = some (.inl (pc', lo', st', T', V'))) : zo_ast 0 3 (fun v => 0 ≤ v ∧ v ≤ 1) (fun _ => inferInstance) nx lo st T V = some (.inl (pc', lo', st', T', V')) ∨ zo_ast 0 2 (fun v => -128 ≤ v ∧ v ≤ 127) (fun _ => inferInstance) nx lo st T V = some (.inl (pc', lo', st', T', V')) := by
  unfold zo_bst at h
  split at h
  · split at h
    · exact Or.inl h
    · exact Or.inr h
  · cases h
theorem zv_qst (h : zo_qst nx lo st T V = some (.inl (pc', lo', st', T', V'))) : ∃ (y i x : Int) (s0 : List zV), st = (2, y) :: (0, i) :: (2, x) :: s0 ∧ (0 ≤ y ∧ y < zsz T ∧ zc T y = 16) ∧ (0 ≤ x ∧ x < zsz T ∧ zc T x = 4) ∧ (0 ≤ i ∧ i < zl T x) ∧ pc' = nx ∧ lo' = lo ∧ st' = s0 ∧ T' = zq T x (zu (zp T x) i y) ∧ V' = V := by
  unfold zo_qst at h
  split at h
  · rename_i y i x s0
    split at h
    · rename_i ht
      obtain ⟨t0, y⟩ := y
      obtain ⟨t1, i⟩ := i
      obtain ⟨t2, x⟩ := x
      obtain ⟨⟨h0, h1, h2⟩, h3, h4, h5⟩ := ht
      have h0 : t0 = 2 := h0
      have h1 : t1 = 0 := h1
      have h2 : t2 = 2 := h2
      subst h0; subst h1; subst h2
      exact ⟨y, i, x, s0, rfl, h3, h4, h5, zgo_inv h⟩
    · cases h
  · cases h
theorem zv_len (h : zo_len nx lo st T V = some (.inl (pc', lo', st', T', V'))) : (∃ (j : Int) (s0 : List zV), st = (4, j) :: s0 ∧ pc' = nx ∧ lo' = lo ∧ st' = (0, zl T (-2)) :: s0 ∧ T' = T ∧ V' = V) ∨ (∃ (j : Int) (s0 : List zV), st = (5, j) :: s0 ∧ (0 ≤ j ∧ j < 7) ∧ pc' = nx ∧ lo' = lo ∧ st' = (0, ((z_str j).length : Int)) :: s0 ∧ T' = T ∧ V' = V) ∨ (∃ (x : Int) (s0 : List zV), st = (2, x) :: s0 ∧ (0 ≤ x ∧ x < zsz T) ∧ (0 ≤ zc T x ∧ zc T x ≤ 4) ∧ pc' = nx ∧ lo' = lo ∧ st' = (0, zl T x) :: s0 ∧ T' = T ∧ V' = V) := by
  unfold zo_len at h
  split at h
  · rename_i x s0
    obtain ⟨t, x⟩ := x
    split at h
    · rename_i ht
      have h0 : t = 4 := ht
      subst h0
      exact Or.inl ⟨x, s0, rfl, zgo_inv h⟩
    · split at h
      · rename_i ht
        have h0 : t = 5 := ht
        subst h0
        split at h
        · rename_i hg
          exact Or.inr (Or.inl ⟨x, s0, rfl, hg, zgo_inv h⟩)
        · cases h
      · split at h
        · rename_i ht
          obtain ⟨h0, h1, h2⟩ := ht
          have h0 : t = 2 := h0
          subst h0
          exact Or.inr (Or.inr ⟨x, s0, rfl, h1, h2, zgo_inv h⟩)
        · cases h
  · cases h
theorem zv_new (h : zo_new nx a lo st T V = some (.inl (pc', lo', st', T', V'))) : a < 13 ∧ pc' = nx ∧ lo' = lo ∧ st' = (2, zsz T) :: st ∧ T' = zn T ((a : Int) + 10) (zfN a : Int) ∧ V' = zs V (zsz T) (fun _ => 0) := by
  unfold zo_new at h
  split at h
  · rename_i ht
    exact ⟨ht, zgo_inv h⟩
  · cases h
theorem zv_nar {c : Int} (h : zo_nar c nx lo st T V = some (.inl (pc', lo', st', T', V'))) : ∃ (x : Int) (s0 : List zV), st = (0, x) :: s0 ∧ (0 ≤ x ∧ x ≤ 1000000) ∧ pc' = nx ∧ lo' = lo ∧ st' = (2, zsz T) :: s0 ∧ T' = zn T c x ∧ V' = zs V (zsz T) (fun _ => 0) := by
  unfold zo_nar at h
  split at h
  · rename_i x s0
    split at h
    · rename_i ht
      obtain ⟨t, x⟩ := x
      have h0 : t = 0 := ht.1
      subst h0
      exact ⟨x, s0, rfl, ht.2, zgo_inv h⟩
    · cases h
  · cases h
theorem zv_obj (h : zo_obj nx lo st T V = some (.inl (pc', lo', st', T', V'))) : ∃ (x : Int) (s0 : List zV), st = (2, x) :: s0 ∧ (0 ≤ x ∧ zcat s0 ≤ 8) ∧ pc' = nx ∧ lo' = lo ∧ st' = s0 ∧ T' = T ∧ V' = V := by
  unfold zo_obj at h
  split at h
  · rename_i x s0
    split at h
    · rename_i ht
      obtain ⟨t, x⟩ := x
      have h0 : t = 2 := ht.1
      subst h0
      exact ⟨x, s0, rfl, ht.2, zgo_inv h⟩
    · cases h
  · cases h
theorem zv_cpy (h : zo_cpy nx lo st T V = some (.inl (pc', lo', st', T', V'))) : ∃ (n dp d sp s : Int) (s0 : List zV), st = (0, n) :: (0, dp) :: (2, d) :: (0, sp) :: (2, s) :: s0 ∧ ((0 ≤ s ∧ s < zsz T ∧ 0 ≤ d ∧ d < zsz T) ∧ (zc T s = zc T d ∧ (zc T s = 0 ∨ zc T s = 1)) ∧ s ≠ d ∧ (0 ≤ n ∧ 0 ≤ sp ∧ 0 ≤ dp ∧ sp + n ≤ zl T s ∧ dp + n ≤ zl T d) ∧ zcat s0 ≤ 8) ∧ pc' = nx ∧ lo' = lo ∧ st' = s0 ∧ T' = T ∧ V' = zs V d (zcpy (V s) (V d) sp dp n) := by
  unfold zo_cpy at h
  split at h
  · rename_i n dp d sp s s0
    split at h
    · rename_i ht
      obtain ⟨t0, n⟩ := n
      obtain ⟨t1, dp⟩ := dp
      obtain ⟨t2, d⟩ := d
      obtain ⟨t3, sp⟩ := sp
      obtain ⟨t4, s⟩ := s
      obtain ⟨⟨h0, h1, h2, h3, h4⟩, h5⟩ := ht
      have h0 : t0 = 0 := h0
      have h1 : t1 = 0 := h1
      have h2 : t2 = 2 := h2
      have h3 : t3 = 0 := h3
      have h4 : t4 = 2 := h4
      subst h0; subst h1; subst h2; subst h3; subst h4
      exact ⟨n, dp, d, sp, s, s0, rfl, h5, zgo_inv h⟩
    · cases h
  · cases h
theorem zv_strv (h : zo_strv nx lo st T V = some (.inl (pc', lo', st', T', V'))) : ∃ (x : Int) (s0 : List zV), st = (3, x) :: s0 ∧ (0 ≤ x ∧ x < 7) ∧ pc' = nx ∧ lo' = lo ∧ st' = (5, x) :: s0 ∧ T' = T ∧ V' = V := by
  unfold zo_strv at h
  split at h
  · rename_i x s0
    split at h
    · rename_i ht
      obtain ⟨t, x⟩ := x
      have h0 : t = 3 := ht.1
      subst h0
      exact ⟨x, s0, rfl, ht.2, zgo_inv h⟩
    · cases h
  · cases h
theorem zv_strc (h : zo_strc nx lo st T V = some (.inl (pc', lo', st', T', V'))) : ∃ (x : Int) (s0 : List zV), st = (3, x) :: s0 ∧ (0 ≤ x ∧ x < 7) ∧ pc' = nx ∧ lo' = lo ∧ st' = (0, 0) :: s0 ∧ T' = T ∧ V' = V := by
  unfold zo_strc at h
  split at h
  · rename_i x s0
    split at h
    · rename_i ht
      obtain ⟨t, x⟩ := x
      have h0 : t = 3 := ht.1
      subst h0
      exact ⟨x, s0, rfl, ht.2, zgo_inv h⟩
    · cases h
  · cases h
end ZINV
