/-! tables: what stays; the reference -/
section HI
variable {b K : Int → Int} {m : Int} {t : Nat}
theorem zLet_hi {g : Int} (hB : zBy b m) (hg : g = 0 ∨ g = 1) {i : Int} (hi : 300 ≤ i) : (zLet b m K g t).2.2 i = K i := by
  unfold zLet
  by_cases c1 : zOl b m t
  · have l := zOl_r hB c1
    have o : ∀ x y, zk3 K (3 * (26 * g + (b (zS b m t) - 97))) 1 x y i = K i := fun x y => zk3_o (by omega) (by omega) (by omega)
    rw [zfi_t c1]
    by_cases c2 : zStw b m (t + 1) 0
    · rw [zfi_t c2]
      by_cases c3 : zNa b m (t + 2) 6
      · rw [zfi_t c3]
        by_cases c4 : zStw b m (t + 3) (zSx b m (t + 1))
        · rw [zfi_t c4]; exact o _ _
        · rw [zfi_f c4]
      · rw [zfi_f c3]; exact o _ _
    · rw [zfi_f c2]
  · rw [zfi_f c1]
theorem zWr2_hi {g : Int} (hB : zBy b m) (h : zKok K) (hg : g = 0 ∨ g = 1) {i : Int} (hi : 300 ≤ i) : (zWr2 b m K g t).2.2 i = K i := by
  have mk := (h.many (t := g) (by omega) (by omega)).1
  unfold zWr2
  by_cases c1 : K (284 + g) = 8
  · rw [zfi_t c1]
  · rw [zfi_f c1]
    by_cases c2 : zKd b m (zS b m (t + 2)) = 2 ∧ zNx b m (t + 2) ≤ 7
    · rw [zfi_t c2]
      by_cases c3 : zKd b m (zS b m (t + 3)) = 1 ∧ zF b m (zS b m (t + 3)) - zS b m (t + 3) ≤ 6
      · rw [zfi_t c3]
        show zkw b K g _ _ _ i = K i
        unfold zkw
        rw [if_neg (by omega), if_neg (by omega), if_neg (by omega), if_neg (by omega)]
      · rw [zfi_f c3]
    · rw [zfi_f c2]
theorem zDr2_hi {g : Int} (hB : zBy b m) (hg : g = 0 ∨ g = 1) {i : Int} (hi : 300 ≤ i) : (zDr2 b m K g t).2.2 i = K i := by
  unfold zDr2
  by_cases c1 : zOl b m (t + 2)
  · have l := zOl_r hB c1
    rw [zfi_t c1]; exact zku_o (by omega)
  · rw [zfi_f c1]
theorem zCla_hi (hB : zBy b m) (h : zKok K) {i : Int} (hi : 300 ≤ i) : (zCla b m K t).2.2 i = K i := by
  unfold zCla
  by_cases c0 : zNa b m t 0
  · rw [zfi_t c0]; exact zLet_hi hB (Or.inl rfl) hi
  rw [zfi_f c0]
  by_cases c1 : zNa b m t 1
  · rw [zfi_t c1]; exact zLet_hi hB (Or.inr rfl) hi
  rw [zfi_f c1]
  by_cases c2 : zNa b m t 2
  · rw [zfi_t c2]
    unfold zWrd
    by_cases d0 : zNa b m (t + 1) 0
    · rw [zfi_t d0]; exact zWr2_hi hB h (Or.inl rfl) hi
    rw [zfi_f d0]
    by_cases d1 : zNa b m (t + 1) 1
    · rw [zfi_t d1]; exact zWr2_hi hB h (Or.inr rfl) hi
    rw [zfi_f d1]
  rw [zfi_f c2]
  by_cases c3 : zNa b m t 3
  · rw [zfi_t c3]
    unfold zMir
    by_cases d : zStw b m (t + 1) 0 ∧ zF b m (zS b m (t + 1)) - zS b m (t + 1) = 7
    · rw [zfi_t d]; exact if_neg (by omega)
    · rw [zfi_f d]
  rw [zfi_f c3]
  by_cases c4 : zNa b m t 4
  · rw [zfi_t c4]
    unfold zCos
    by_cases d : zKd b m (zS b m (t + 1)) = 2 ∧ 1 ≤ zNx b m (t + 1) ∧ zNx b m (t + 1) ≤ 7
    · rw [zfi_t d]
      by_cases d2 : zKd b m (zS b m (t + 2)) = 2 ∧ zNx b m (t + 2) ≤ 99
      · rw [zfi_t d2]; exact zku_o (by omega)
      · rw [zfi_f d2]
    · rw [zfi_f d]
  rw [zfi_f c4]
  by_cases c5 : zNa b m t 5
  · rw [zfi_t c5]
    unfold zDro
    by_cases d0 : zNa b m (t + 1) 0
    · rw [zfi_t d0]; exact zDr2_hi hB (Or.inl rfl) hi
    rw [zfi_f d0]
    by_cases d1 : zNa b m (t + 1) 1
    · rw [zfi_t d1]; exact zDr2_hi hB (Or.inr rfl) hi
    rw [zfi_f d1]
  rw [zfi_f c5]
end HI
theorem zTel_hi {b : Int → Int} {m : Int} (hB : zBy b m) : ∀ (n : Nat) (c : Int) (t : Nat) (K : Int → Int), zKok K → ∀ i, 300 ≤ i → (zTel b m n c t K).2.2 i = K i
  | 0, c, t, K, h, i, hi => by rw [zTel]
  | n + 1, c, t, K, h, i, hi => by
    rw [zTel]
    by_cases c1 : (zCla b m K t).1 = -1
    · rw [zfi_t c1]
      have ok := zCla_ok hB h c1
      have ch := zCla_hi (t := t) hB h hi
      by_cases c2 : zS b m (zCla b m K t).2.1 = m
      · rw [zfi_t c2]; exact ch
      · rw [zfi_f c2]
        by_cases c3 : zKd b m (zS b m (zCla b m K t).2.1) = 3 ∧ b (zS b m (zCla b m K t).2.1) = 59
        · rw [zfi_t c3, zTel_hi hB n _ _ _ ok i hi, ch]
        · rw [zfi_f c3]; exact ch
    · rw [zfi_f c1]
/-- behind a clause -/
noncomputable def zAft (b : Int → Int) (m : Int) (f : Nat) (c : Int) (t : Nat) (K : Int → Int) : Int × Int × (Int → Int) := zfi (zS b m t = m) (-1, c, K) (zfi (zKd b m (zS b m t) = 3 ∧ b (zS b m t) = 59) (zTel b m f c (t + 1) K) (zS b m t, c, K))
def zFm2 (V V' : zM) : Prop := (∀ r, r ≠ 130 → r ≠ 135 → V' r = V r) ∧ ∀ j, j ≠ 18 → j ≠ 19 → j ≠ 21 → V' 130 j = V 130 j
theorem zFm2_t {V V1 V2 : zM} (h : zFm2 V V1) (g : zFm2 V1 V2) : zFm2 V V2 := ⟨fun r r1 r2 => by rw [g.1 r r1 r2, h.1 r r1 r2], fun j j1 j2 j3 => by rw [g.2 j j1 j2 j3, h.2 j j1 j2 j3]⟩
theorem zFm2_e {V V' : zM} (h : zMe V V') : zFm2 V V' := ⟨fun r r1 _ => h.1 r r1, h.2⟩
def zOut (W : zM) (n : Int) (R : Int × Int × (Int → Int)) : Prop := (R.1 = -1 ∧ n = R.2.1 ∧ W 130 19 = -1 ∧ zHd W R.2.2) ∨ (R.1 ≠ -1 ∧ W 130 19 = R.1)
section TABLES
variable {T : zT} {b : Int → Int} {m : Int} {N : Nat} {Q : zV → zT → zM → Prop}
theorem c170n {x : Int} {V : zM} (hS : zStr T) (h : V 130 19 ≠ -1) : zcall 170 [(2, 130), (0, x)] T V = some ((0, 0), T, V) := by
  rw [e170, b170_0 hS, c171n hS h]
  simp only [Option.bind_some, zpush0]
  rw [b170_4, if_pos rfl, b170_24, b170_25, if_pos rfl, b170_40 (by decide)]
theorem c164f {W : zM} {n : Int} (hS : zStr T) (h : W 130 19 ≠ -1) (kont : zwp (ev 164 125 [(2, 130), (0, n), (9, 0)] [] T W) Q) : zwp (ev 164 64 [(2, 130), (0, n), (9, 0)] [] T W) Q := by
  rw [b164_64, e180, b180_0 (by decide)]
  simp only [Option.bind_some, zpush0]
  rw [b164_70 hS, c170n hS h]
  simp only [Option.bind_some, zpush0]
  rw [b164_73, if_pos rfl, b164_103 hS, c171n hS h]
  simp only [Option.bind_some, zpush0]
  rw [b164_107, if_pos rfl]
  exact kont
theorem c164l (hS : zStr T) (hB : zBy b m) (V0 : zM) : ∀ (f : Nat) (n : Int) (t : Nat) (K : Int → Int) (W : zM), n + f = 24 → 1 ≤ n → zFm2 V0 W → zMs W b m N t → zHd W K → zKok K → (∀ W' n', zFm2 V0 W' → 1 ≤ n' → n' ≤ 25 → zOut W' n' (zAft b m f n t K) → zwp (ev 164 125 [(2, 130), (0, n'), (9, 0)] [] T W') Q) → zwp (ev 164 64 [(2, 130), (0, n), (9, 0)] [] T W) Q := by
  intro f
  have mm := hB.1
  induction f with
  | zero =>
    intro n t K W hn hn1 fr ms hd ok kont
    have s0 := (zS_r (b := b) hB.1.1 t)
    have s1 := (zS_r (b := b) hB.1.1 (t + 1)).1
    have pp := zMk_p ms.1 ms.2.2.2
    obtain ⟨y, W1, a1, a2⟩ := c170 (x := 159) hS mm.2 ms (zCd_s hB).2 (by decide)
    rw [b164_64, e180, b180_0 (by decide)]
    simp only [Option.bind_some, zpush0]
    rw [show (100 : Int) + 59 = 159 by decide, b164_70 hS, a1]
    simp only [Option.bind_some, zpush0]
    rw [b164_73]
    rcases a2 with ⟨rfl, a2, a3, a4⟩ | ⟨rfl, a2, a3⟩
    · have sm : ¬ zS b m t = m := fun z => absurd a2.1 (by rw [z, show zKd b m m = 0 from if_neg (by omega)]; decide)
      have hb : (zwr W1 130 19 (zS b m (t + 1))) 130 19 = zS b m (t + 1) := by rw [zwr_same, if_pos rfl]
      rw [if_neg (by decide), b164_76, if_pos (by omega), b164_82 hS, c174 hS mm.2 a3]
      simp only [Option.bind_some, zpush9]
      rw [b164_86 hS, c171n hS (by rw [hb]; omega)]
      simp only [Option.bind_some, zpush0]
      rw [b164_90, if_pos rfl, b164_97 (by omega)]
      refine c164f hS (by rw [hb]; omega) ?_
      refine kont _ _ (zFm2_t fr (zFm2_e (zMe_t a4 (zMe_w (Or.inr (Or.inl rfl)))))) (by omega) (by omega) ?_
      unfold zAft
      rw [zfi_f sm, zfi_t a2, zTel]
      exact Or.inr ⟨by show zS b m (t + 1) ≠ -1; omega, hb⟩
    · rw [a3, if_pos rfl, b164_103 hS, c171 hS ms.2.2.1]
      simp only [Option.bind_some, zpush0]
      rw [b164_107, if_neg (by decide), b164_110 hS, ms.1.2.1, ms.2.1]
      unfold zAft at kont
      by_cases ct : (N : Int) ≤ (t : Int)
      · have sm : zS b m t = m := by
          have := pp.2.2.1
          have : ¬ zS b m t < m := fun z => by have := this.1 z; omega
          omega
        rw [if_pos ct]
        refine kont W n fr hn1 (by omega) ?_
        rw [zfi_t sm]
        exact Or.inl ⟨rfl, rfl, ms.2.2.1, hd⟩
      · have sm : ¬ zS b m t = m := by
          have := pp.2.2.1.2 (by omega)
          omega
        rw [if_neg ct, b164_121 hS, c174 hS mm.2 ms]
        simp only [Option.bind_some, zpush9]
        refine kont _ n (zFm2_t fr (zFm2_e (zMe_w (Or.inr (Or.inl rfl))))) hn1 (by omega) ?_
        rw [zfi_f sm, zfi_f a2]
        exact Or.inr ⟨by show zS b m t ≠ -1; omega, by rw [zwr_same, if_pos rfl]⟩
  | succ f ih =>
    intro n t K W hn hn1 fr ms hd ok kont
    have s0 := (zS_r (b := b) hB.1.1 t)
    have s1 := (zS_r (b := b) hB.1.1 (t + 1)).1
    have pp := zMk_p ms.1 ms.2.2.2
    obtain ⟨y, W1, a1, a2⟩ := c170 (x := 159) hS mm.2 ms (zCd_s hB).2 (by decide)
    rw [b164_64, e180, b180_0 (by decide)]
    simp only [Option.bind_some, zpush0]
    rw [show (100 : Int) + 59 = 159 by decide, b164_70 hS, a1]
    simp only [Option.bind_some, zpush0]
    rw [b164_73]
    rcases a2 with ⟨rfl, a2, a3, a4⟩ | ⟨rfl, a2, a3⟩
    · have sm : ¬ zS b m t = m := fun z => absurd a2.1 (by rw [z, show zKd b m m = 0 from if_neg (by omega)]; decide)
      have fr1 := zFm2_t fr (zFm2_e a4)
      rw [if_neg (by decide), b164_76, if_neg (by omega), b164_86 hS, c171 hS a3.2.2.1]
      simp only [Option.bind_some, zpush0]
      rw [b164_90, if_neg (by decide), b164_93 hS]
      refine zwp_seq (c169 hS hB a3 (zHd_e hd a4) (fun g hg => (ok.many (by omega) (by omega)).1)) ?_
      rintro r T2 W2 ⟨rfl, rfl, d1, d2, d3⟩
      simp only [zpush9]
      have fr2 : zFm2 V0 W2 := zFm2_t fr1 ⟨d1, d2⟩
      have ef : zAft b m (f + 1) n t K = zfi ((zCla b m K (t + 1)).1 = -1) (zAft b m f (n + 1) (zCla b m K (t + 1)).2.1 (zCla b m K (t + 1)).2.2) ((zCla b m K (t + 1)).1, n, K) := by
        unfold zAft
        rw [zfi_f sm, zfi_t a2, zTel]
      rw [b164_97 (by omega)]
      rw [ef] at kont
      rcases d3 with ⟨c1, q1, q2⟩ | ⟨c1, q1⟩
      · rw [zfi_t c1] at kont
        exact ih (n + 1) _ _ W2 (by omega) (by omega) fr2 q1 q2 (zCla_ok hB ok c1) kont
      · rw [zfi_f c1] at kont
        refine c164f hS (by rw [q1]; exact c1) ?_
        exact kont W2 (n + 1) fr2 (by omega) (by omega) (Or.inr ⟨c1, q1⟩)
    · rw [a3, if_pos rfl, b164_103 hS, c171 hS ms.2.2.1]
      simp only [Option.bind_some, zpush0]
      rw [b164_107, if_neg (by decide), b164_110 hS, ms.1.2.1, ms.2.1]
      unfold zAft at kont
      by_cases ct : (N : Int) ≤ (t : Int)
      · have sm : zS b m t = m := by
          have := pp.2.2.1
          have : ¬ zS b m t < m := fun z => by have := this.1 z; omega
          omega
        rw [if_pos ct]
        refine kont W n fr hn1 (by omega) ?_
        rw [zfi_t sm]
        exact Or.inl ⟨rfl, rfl, ms.2.2.1, hd⟩
      · have sm : ¬ zS b m t = m := by
          have := pp.2.2.1.2 (by omega)
          omega
        rw [if_neg ct, b164_121 hS, c174 hS mm.2 ms]
        simp only [Option.bind_some, zpush9]
        refine kont _ n (zFm2_t fr (zFm2_e (zMe_w (Or.inr (Or.inl rfl))))) hn1 (by omega) ?_
        rw [zfi_f sm, zfi_f a2]
        exact Or.inr ⟨by show zS b m t ≠ -1; omega, by rw [zwr_same, if_pos rfl]⟩
end TABLES
