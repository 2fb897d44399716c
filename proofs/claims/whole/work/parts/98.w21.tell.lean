/-! a text of clauses: what it tells; the class -/
section TELL
variable {b K : Int → Int} {m : Int} {t : Nat}
theorem zStw_p (hB : zBy b m) (h : zKd b m (zS b m t) = 2 ∨ zKd b m (zS b m t) = 1) : zS b m t < m ∧ zS b m t < zF b m (zS b m t) ∧ ∀ x, zS b m t ≤ x → x < zF b m (zS b m t) → zkb (b x) = zKd b m (zS b m t) := by
  have sr := zS_r (b := b) hB.1.1 t
  by_cases cs : zS b m t < m
  · have e : zKd b m (zS b m t) = zkb (b (zS b m t)) := if_pos cs
    rw [e]
    exact ⟨cs, (zF_r (b := b) sr.2).2.1 cs, (zF_r (b := b) sr.2).2.2.1 cs⟩
  · have e : zKd b m (zS b m t) = 0 := if_neg cs
    rw [e] at h
    exact absurd h (by decide)
theorem zStw_r {x : Int} (hB : zBy b m) (h : zStw b m t x) : 0 < zSx b m t ∧ zSx b m t < 128 := by
  obtain ⟨p1, p2, p3⟩ := zStw_p hB (Or.inl h.1)
  obtain ⟨r, g⟩ := zsb_r (b := b) (s := zS b m t) (zF b m (zS b m t) - zS b m t).toNat (fun i hi => zsv_d h.2 (by omega))
  refine ⟨?_, r.2⟩
  have d := zsv_d h.2 (i := 0) (by omega)
  have z := (g (b (zS b m t + (0 : Nat)) - 49).toNat (by omega)).2 ⟨0, by omega, rfl⟩
  show 0 < zsb b (zS b m t) (zF b m (zS b m t) - zS b m t).toNat
  by_cases c0 : zsb b (zS b m t) (zF b m (zS b m t) - zS b m t).toNat = 0
  · rw [c0] at z; exact absurd z zbt_z
  · omega
theorem zOl_r (hB : zBy b m) (h : zOl b m t) : 0 ≤ b (zS b m t) - 97 ∧ b (zS b m t) - 97 < 26 := by
  obtain ⟨p1, p2, p3⟩ := zStw_p hB (Or.inr h.1)
  have := p3 (zS b m t) (Int.le_refl _) p2
  rw [h.1] at this
  have := zkb_1.1 this
  omega
theorem zNx_r (hB : zBy b m) (h : zKd b m (zS b m t) = 2) : 0 ≤ zNx b m t := by
  obtain ⟨p1, p2, p3⟩ := zStw_p hB (Or.inl h)
  refine znv_0 _ (fun i hi => ?_)
  have := p3 (zS b m t + i) (by omega) (by omega)
  rw [h] at this
  exact (zkb_2.1 this).1
theorem zLet_ok {g : Int} (hB : zBy b m) (h : zKok K) (hg : g = 0 ∨ g = 1) (f : (zLet b m K g t).1 = -1) : zKok (zLet b m K g t).2.2 := by
  have s0 : ∀ t, ¬ zS b m t = -1 := fun t => by have := (zS_r (b := b) hB.1.1 t).1; omega
  unfold zLet at f ⊢
  by_cases c1 : zOl b m t
  · rw [zfi_t c1] at f ⊢
    by_cases c2 : zStw b m (t + 1) 0
    · rw [zfi_t c2] at f ⊢
      have x := zStw_r hB c2
      by_cases c3 : zNa b m (t + 2) 6
      · rw [zfi_t c3] at f ⊢
        by_cases c4 : zStw b m (t + 3) (zSx b m (t + 1))
        · rw [zfi_t c4] at f ⊢
          have y := zStw_r hB c4
          exact zok_let h hg (zOl_r hB c1) x (by omega) ((zsv_but (by omega) (zsv_0 c4.2)).2 c4.2)
        · rw [zfi_f c4] at f; exact absurd f (s0 _)
      · rw [zfi_f c3] at f ⊢
        exact zok_let h hg (zOl_r hB c1) x (by decide) (by rw [zand_c]; exact zand_z _)
    · rw [zfi_f c2] at f; exact absurd f (s0 _)
  · rw [zfi_f c1] at f; exact absurd f (s0 _)
theorem zWr2_ok {g : Int} (hB : zBy b m) (h : zKok K) (hg : g = 0 ∨ g = 1) (f : (zWr2 b m K g t).1 = -1) : zKok (zWr2 b m K g t).2.2 := by
  have s0 : ∀ t, ¬ zS b m t = -1 := fun t => by have := (zS_r (b := b) hB.1.1 t).1; omega
  unfold zWr2 at f ⊢
  by_cases c1 : K (284 + g) = 8
  · rw [zfi_t c1] at f; exact absurd f (s0 _)
  · rw [zfi_f c1] at f ⊢
    by_cases c2 : zKd b m (zS b m (t + 2)) = 2 ∧ zNx b m (t + 2) ≤ 7
    · rw [zfi_t c2] at f ⊢
      by_cases c3 : zKd b m (zS b m (t + 3)) = 1 ∧ zF b m (zS b m (t + 3)) - zS b m (t + 3) ≤ 6
      · rw [zfi_t c3] at f ⊢
        obtain ⟨p1, p2, p3⟩ := zStw_p hB (Or.inr c3.1)
        refine zok_wrd h hg c1 ⟨zNx_r hB c2.1, c2.2⟩ (by omega) (fun i i1 i2 => ?_)
        have := p3 (zS b m (t + 3) + i) (by omega) (by omega)
        rw [c3.1] at this
        exact zkb_1.1 this
      · rw [zfi_f c3] at f; exact absurd f (s0 _)
    · rw [zfi_f c2] at f; exact absurd f (s0 _)
theorem zDr2_ok {g : Int} (hB : zBy b m) (h : zKok K) (hg : g = 0 ∨ g = 1) (f : (zDr2 b m K g t).1 = -1) : zKok (zDr2 b m K g t).2.2 := by
  have s0 : ∀ t, ¬ zS b m t = -1 := fun t => by have := (zS_r (b := b) hB.1.1 t).1; omega
  unfold zDr2 at f ⊢
  by_cases c1 : zOl b m (t + 2)
  · rw [zfi_t c1] at f ⊢
    exact zok_dro h hg (zOl_r hB c1)
  · rw [zfi_f c1] at f; exact absurd f (s0 _)
theorem zCla_ok (hB : zBy b m) (h : zKok K) (f : (zCla b m K t).1 = -1) : zKok (zCla b m K t).2.2 := by
  have s0 : ∀ t, ¬ zS b m t = -1 := fun t => by have := (zS_r (b := b) hB.1.1 t).1; omega
  unfold zCla at f ⊢
  by_cases c0 : zNa b m t 0
  · rw [zfi_t c0] at f ⊢; exact zLet_ok hB h (Or.inl rfl) f
  rw [zfi_f c0] at f ⊢
  by_cases c1 : zNa b m t 1
  · rw [zfi_t c1] at f ⊢; exact zLet_ok hB h (Or.inr rfl) f
  rw [zfi_f c1] at f ⊢
  by_cases c2 : zNa b m t 2
  · rw [zfi_t c2] at f ⊢
    unfold zWrd at f ⊢
    by_cases d0 : zNa b m (t + 1) 0
    · rw [zfi_t d0] at f ⊢; exact zWr2_ok hB h (Or.inl rfl) f
    rw [zfi_f d0] at f ⊢
    by_cases d1 : zNa b m (t + 1) 1
    · rw [zfi_t d1] at f ⊢; exact zWr2_ok hB h (Or.inr rfl) f
    rw [zfi_f d1] at f; exact absurd f (s0 _)
  rw [zfi_f c2] at f ⊢
  by_cases c3 : zNa b m t 3
  · rw [zfi_t c3] at f ⊢
    unfold zMir at f ⊢
    by_cases d : zStw b m (t + 1) 0 ∧ zF b m (zS b m (t + 1)) - zS b m (t + 1) = 7
    · rw [zfi_t d] at f ⊢
      refine zok_mir h (fun i i1 i2 => ?_)
      have := zsv_d d.1.2 (i := i.toNat) (by omega)
      rw [show ((i.toNat : Nat) : Int) = i by omega] at this
      exact this
    · rw [zfi_f d] at f; exact absurd f (s0 _)
  rw [zfi_f c3] at f ⊢
  by_cases c4 : zNa b m t 4
  · rw [zfi_t c4] at f ⊢
    unfold zCos at f ⊢
    by_cases d : zKd b m (zS b m (t + 1)) = 2 ∧ 1 ≤ zNx b m (t + 1) ∧ zNx b m (t + 1) ≤ 7
    · rw [zfi_t d] at f ⊢
      by_cases d2 : zKd b m (zS b m (t + 2)) = 2 ∧ zNx b m (t + 2) ≤ 99
      · rw [zfi_t d2] at f ⊢
        exact zok_cos h (by omega) ⟨zNx_r hB d2.1, d2.2⟩
      · rw [zfi_f d2] at f; exact absurd f (s0 _)
    · rw [zfi_f d] at f; exact absurd f (s0 _)
  rw [zfi_f c4] at f ⊢
  by_cases c5 : zNa b m t 5
  · rw [zfi_t c5] at f ⊢
    unfold zDro at f ⊢
    by_cases d0 : zNa b m (t + 1) 0
    · rw [zfi_t d0] at f ⊢; exact zDr2_ok hB h (Or.inl rfl) f
    rw [zfi_f d0] at f ⊢
    by_cases d1 : zNa b m (t + 1) 1
    · rw [zfi_t d1] at f ⊢; exact zDr2_ok hB h (Or.inr rfl) f
    rw [zfi_f d1] at f; exact absurd f (s0 _)
  rw [zfi_f c5] at f; exact absurd f (s0 _)
end TELL
/-- all clauses: fault, how many, the tables -/
noncomputable def zTel (b : Int → Int) (m : Int) : Nat → Int → Nat → (Int → Int) → Int × Int × (Int → Int)
  | 0, c, t, K => (zS b m t, c, K)
  | n + 1, c, t, K => zfi ((zCla b m K t).1 = -1) (zfi (zS b m (zCla b m K t).2.1 = m) (-1, c + 1, (zCla b m K t).2.2) (zfi (zKd b m (zS b m (zCla b m K t).2.1) = 3 ∧ b (zS b m (zCla b m K t).2.1) = 59) (zTel b m n (c + 1) ((zCla b m K t).2.1 + 1) (zCla b m K t).2.2) (zS b m (zCla b m K t).2.1, c + 1, (zCla b m K t).2.2))) ((zCla b m K t).1, c, K)
theorem zTel_ok {b : Int → Int} {m : Int} (hB : zBy b m) : ∀ (n : Nat) (c : Int) (t : Nat) (K : Int → Int), zKok K → (zTel b m n c t K).1 = -1 → zKok (zTel b m n c t K).2.2
  | 0, c, t, K, h, f => by
    rw [zTel] at f
    have := (zS_r (b := b) hB.1.1 t).1
    have f' : zS b m t = -1 := f
    omega
  | n + 1, c, t, K, h, f => by
    have s0 : ∀ t, ¬ zS b m t = -1 := fun t => by have := (zS_r (b := b) hB.1.1 t).1; omega
    rw [zTel] at f ⊢
    by_cases c1 : (zCla b m K t).1 = -1
    · rw [zfi_t c1] at f ⊢
      have ok := zCla_ok hB h c1
      by_cases c2 : zS b m (zCla b m K t).2.1 = m
      · rw [zfi_t c2] at f ⊢; exact ok
      · rw [zfi_f c2] at f ⊢
        by_cases c3 : zKd b m (zS b m (zCla b m K t).2.1) = 3 ∧ b (zS b m (zCla b m K t).2.1) = 59
        · rw [zfi_t c3] at f ⊢; exact zTel_ok hB n _ _ _ ok f
        · rw [zfi_f c3] at f; exact absurd f (s0 _)
    · rw [zfi_f c1] at f; exact absurd f c1
section TELL2
variable {T : zT} {V : zM} {b K : Int → Int} {m : Int}
theorem c42 (hS : zStr T) (hB : zBy b m) (hb : V 57 = b) (hm : V 56 1 = m) (hs : zSR V 28 K) (hK : zKok K) : zwp (zcall 42 [(2, 58)] T V) fun r T' V' => T' = T ∧ zFrm V V' ∧ ∃ y, r = (0, y) ∧ (((zTel b m 24 0 0 K).1 = -1 ∧ y = (zTel b m 24 0 0 K).2.1 ∧ zSR V' 28 (zTel b m 24 0 0 K).2.2 ∧ V' 58 5 = -1 ∧ 1 ≤ y ∧ y ≤ 24) ∨ ((zTel b m 24 0 0 K).1 ≠ -1 ∧ y = -1 ∧ V' 58 5 = (zTel b m 24 0 0 K).1)) := by
  have s0 : ∀ t, 0 ≤ zS b m t := fun t => (zS_r hB.1.1 t).1
  rw [e42, b42_0 hS]
  obtain ⟨r, T1, V1, a1, a2, a3, a4, a5, a6, a7, a8⟩ := c43i (V := zwr (zwr V 58 3 0) 58 5 (-1)) (i := 0) hS hB (by rw [zwr_ne (by decide), zwr_ne (by decide), hb]) (by rw [zwr_ne (by decide), zwr_ne (by decide), hm]) ⟨by rw [zwr_same, if_neg (by decide), zwr_same, if_pos rfl], by decide, hB.1.1⟩
  subst a2
  rw [a3] at a1
  rw [a1]
  simp only [Option.bind_some, zpush9]
  rw [b42_14]
  have k1 : ∀ r, r ≠ 58 → V1 r = V r := fun r hr => by rw [a4 r hr, zwr_ne hr, zwr_ne hr]
  have rt : zRt V1 b m 0 := ⟨by rw [k1 57 (by decide), hb], by rw [k1 56 (by decide), hm], a6, a7, a8⟩
  have e5 : V1 58 5 = -1 := by rw [a5, zwr_same, if_pos rfl]
  refine zup (α := zM × Nat × (Int → Int)) (fun c s => zFrm V s.1 ∧ zRt s.1 b m s.2.1 ∧ zSR s.1 28 s.2.2 ∧ zKok s.2.2 ∧ s.1 58 5 = -1 ∧ zTel b m (24 - c).toNat c s.2.1 s.2.2 = zTel b m 24 0 0 K) (fun c s => zwp (ev 42 16 [(2, 58), (0, c)] [] T s.1) fun r T' V' => T' = T ∧ zFrm V V' ∧ ∃ y, r = (0, y) ∧ (((zTel b m 24 0 0 K).1 = -1 ∧ y = (zTel b m 24 0 0 K).2.1 ∧ zSR V' 28 (zTel b m 24 0 0 K).2.2 ∧ V' 58 5 = -1 ∧ 1 ≤ y ∧ y ≤ 24) ∨ ((zTel b m 24 0 0 K).1 ≠ -1 ∧ y = -1 ∧ V' 58 5 = (zTel b m 24 0 0 K).1))) (lo := 0) (hi := 24) (by decide) ?_ ?_ (V1, 0, K) ⟨zFrm_58 k1, rt, zSR_congr (fun d d1 d2 => k1 _ (by omega)) hs, hK, e5, rfl⟩
  · rintro ⟨W, t, K1⟩ ⟨w1, w2, w3, w4, w5, w6⟩
    show zwp (ev 42 16 [(2, 58), (0, 24)] [] T W) _
    replace w1 : zFrm V W := w1
    replace w2 : zRt W b m t := w2
    replace w6 : zTel b m ((24 : Int) - 24).toNat 24 t K1 = zTel b m 24 0 0 K := w6
    rw [show ((24 : Int) - 24).toNat = 0 by decide, zTel] at w6
    have st := s0 t
    rw [b42_16, if_pos (by decide), b42_72 hS, c60 hS, w2.2.2.1]
    simp only [Option.bind_some, zpush0]
    rw [b42_80, ← w6]
    exact zwp_ret ⟨rfl, zFrm_w w1 (Or.inl rfl), -1, rfl, Or.inr ⟨by show zS b m t ≠ -1; omega, rfl, by rw [zwr_same, if_pos rfl]⟩⟩
  · rintro c ⟨W, t, K1⟩ c1 c2 ⟨w1, w2, w3, w4, w5, w6⟩ next
    show zwp (ev 42 16 [(2, 58), (0, c)] [] T W) _
    replace w1 : zFrm V W := w1
    replace w2 : zRt W b m t := w2
    replace w3 : zSR W 28 K1 := w3
    replace w4 : zKok K1 := w4
    replace w5 : W 58 5 = -1 := w5
    replace w6 : zTel b m (24 - c).toNat c t K1 = zTel b m 24 0 0 K := w6
    rw [show (24 - c).toNat = (24 - (c + 1)).toNat + 1 by omega, zTel] at w6
    rw [b42_16, if_neg (by omega), b42_22 hS]
    refine zwp_seq (c45 hS hB w2 w3 (fun g hg => (w4.many (by omega) (by omega)).1)) ?_
    rintro r T2 V2 ⟨rfl, f2, y, rfl, f3⟩
    simp only [zpush0]
    rw [b42_26]
    rcases f3 with ⟨g1, rfl, g3, g4, g5⟩ | ⟨g1, rfl, g3⟩
    · rw [zfi_t g1] at w6
      obtain ⟨R, hR⟩ : ∃ R, zCla b m K1 t = R := ⟨_, rfl⟩
      rw [hR] at g1 g3 g4 w6
      have sr := zS_r (b := b) hB.1.1 R.2.1
      have okR : zKok R.2.2 := by rw [← hR]; exact zCla_ok hB w4 (by rw [hR]; exact g1)
      have fr := zFrm_t w1 f2
      rw [if_neg (by decide), b42_31 hS, g3.2.2.2.2]
      by_cases d1 : zS b m R.2.1 = m
      · rw [zfi_t d1] at w6
        rw [if_pos ((zKd_0 sr.2).2 d1), b42_38 (by omega), ← w6]
        exact zwp_ret ⟨rfl, fr, _, rfl, Or.inl ⟨rfl, rfl, g4, by rw [g5, w5], by omega, by omega⟩⟩
      · rw [zfi_f d1] at w6
        obtain ⟨y2, i1, i2⟩ := c69 hS hB g3
        rw [if_neg (fun z => d1 ((zKd_0 sr.2).1 z)), b42_42 hS, i1]
        simp only [Option.bind_some, zpush0]
        rw [b42_48]
        rcases i2 with ⟨rfl, i2⟩ | ⟨rfl, i2⟩
        · rw [zfi_t i2] at w6
          obtain ⟨V3, j1, j2, j3, j4, j5⟩ := zstep hS hB g3 g4
          rw [if_neg (by decide), b42_62 hS, j1]
          simp only [Option.bind_some, zpush9]
          rw [b42_66 (by omega)]
          exact next (V3, R.2.1 + 1, R.2.2) ⟨zFrm_t fr j4, j2, j3, okR, by show V3 58 5 = -1; rw [j5, g5, w5], w6⟩
        · rw [zfi_f i2] at w6
          rw [if_pos rfl, b42_51 hS, c60 hS, g3.2.2.1]
          simp only [Option.bind_some, zpush0]
          rw [b42_59, ← w6]
          exact zwp_ret ⟨rfl, zFrm_w fr (Or.inl rfl), -1, rfl, Or.inr ⟨by show zS b m R.2.1 ≠ -1; omega, rfl, by rw [zwr_same, if_pos rfl]⟩⟩
    · rw [zfi_f g1] at w6
      rw [if_pos rfl, b42_29, ← w6]
      exact zwp_ret ⟨rfl, zFrm_t w1 f2, -1, rfl, Or.inr ⟨g1, rfl, g3⟩⟩
end TELL2
