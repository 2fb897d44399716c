/-! row, feed -/
section ROW
variable {n : Int} {T : zT} {V : zM}
/-- painted by the tape's first cells -/
def zpnt (V : zM) (a i : Int) (f : Int → Int) : Int → Int := fun j => if (0 ≤ j ∧ j < i) ∧ 0 ≤ V a j ∧ V a j < 128 then V a j else f j
theorem c34 {L : Int} (hS : zStr T) (hL : V 56 1 = L) (hL2 : 0 < L ∧ L ≤ 400) : zcall 34 [(2, 0)] T V = some ((0, min L 16), T, zwr (zwr (zwr (zwr (zs (zs V 2 (zpnt V 57 (min L 16) (zbare (min L 16) 16 (V 2)))) 3 (zbare (min L 16) 16 (V 3))) 1 0 (min L 16)) 0 16 (L - min L 16)) 56 1 0) 0 17 0) := by
  have hm : 1 ≤ min L 16 ∧ min L 16 ≤ 16 := by omega
  generalize hM : min L 16 = M at *
  have r57 : ∀ f g : Int → Int, zwr (zs (zs V 2 f) 3 g) 1 0 M 57 = V 57 := fun f g => by rw [zwr_ne (by decide), zsr_ne (by decide), zsr_ne (by decide)]
  have r56 : ∀ f g : Int → Int, zwr (zs (zs V 2 f) 3 g) 1 0 M 56 = V 56 := fun f g => by rw [zwr_ne (by decide), zsr_ne (by decide), zsr_ne (by decide)]
  have w2 : ∀ (f g : Int → Int) (i v : Int), zwr (zwr (zs (zs V 2 f) 3 g) 1 0 M) 2 i v = zwr (zs (zs V 2 (fun j => if j = i then v else f j)) 3 g) 1 0 M := fun f g i v => by
    funext r j
    simp only [zwr_eq, zs_eq]
    by_cases h1 : r = 2
    · subst h1
      (repeat' split) <;> first | rfl | (exfalso; omega)
    · simp only [h1, false_and, if_false]
  have key := zfor (fun i => ev 34 40 [(2, 0), (0, M), (0, i)] [] T (zwr (zs (zs V 2 (zpnt V 57 i (zbare M 16 (V 2)))) 3 (zbare M 16 (V 3))) 1 0 M)) (lo := 0) (hi := M) (by omega) (fun i h1 h2 => by
    show ev 34 40 _ _ _ _ = ev 34 40 _ _ _ _
    rw [b34_40, if_neg (by omega), b34_45 hS (by omega), r57, c29]
    simp only [Option.bind_some, zpush0]
    rw [b34_57]
    by_cases q : 0 ≤ V 57 i ∧ V 57 i < 128
    · rw [if_pos q, if_neg (by decide), b34_60 hS (by omega) (by omega), b34_78 (by omega), r57, w2]
      congr 4
      funext j
      unfold zpnt
      by_cases e : j = i
      · subst e
        rw [if_pos rfl, if_pos ⟨by omega, q⟩]
      · rw [if_neg e]
        by_cases c : (0 ≤ j ∧ j < i) ∧ 0 ≤ V 57 j ∧ V 57 j < 128
        · rw [if_pos c, if_pos ⟨by omega, c.2⟩]
        · rw [if_neg c, if_neg (fun c' => c ⟨by omega, c'.2⟩)]
    · rw [if_neg q, if_pos rfl, b34_78 (by omega)]
      congr 4
      funext j
      unfold zpnt
      by_cases c : (0 ≤ j ∧ j < i) ∧ 0 ≤ V 57 j ∧ V 57 j < 128
      · rw [if_pos c, if_pos ⟨by omega, c.2⟩]
      · rw [if_neg c, if_neg (fun c' => c ⟨by
          have : j ≠ i := fun e => q (e ▸ c'.2)
          omega, c'.2⟩)])
  have e0 : zpnt V 57 0 (zbare M 16 (V 2)) = zbare M 16 (V 2) := by
    funext j
    unfold zpnt
    rw [if_neg (by omega)]
  rw [e34, b34_0 hS, if_neg (by omega), b34_17 hS, hL, hM, c25 (st1 hS) (by omega)]
  simp only [Option.bind_some, zpush9]
  rw [b34_38]
  have k0 := key
  simp only [e0] at k0
  show ev 34 40 [(2, 0), (0, M), (0, 0)] [] T (zwr (zs (zs V 2 (zbare M 16 (V 2))) 3 (zbare M 16 (V 3))) 1 0 M) = _
  rw [k0, b34_40, if_pos (by omega), b34_84 hS (by rw [r56, hL]; omega), r56, hL, c26 hS]
  simp only [Option.bind_some, zpush0]
  rw [b34_110]
def zpn2 (V : zM) (M i : Int) : Int → Int := fun j => if (300 ≤ j ∧ j < 300 + i) ∧ 0 ≤ V 137 (j - 300) then V 137 (j - 300) else if (300 + M ≤ j ∧ j < 316) ∨ (316 + M ≤ j ∧ j < 332) then 0 else if j = 427 then M else V 132 j
theorem c160 {L M : Int} (hS : zStr T) (hL : V 130 12 = L) (hM : M = if 16 ≤ L then 16 else L) (hL2 : 0 < L ∧ L ≤ 400) (ht : 0 ≤ V 130 1 ∧ V 130 1 ≤ 1000) : zcall 160 [(2, 130)] T V = some ((0, M), T, zwr (zwr (zwr (zwr (zs V 132 (zpn2 V M M)) 130 12 0) 130 1 (V 130 1 + 1)) 130 8 (L - M)) 130 0 0) := by
  have hm : 1 ≤ M ∧ M ≤ 16 := by rw [hM]; split <;> omega
  have r137 : ∀ f : Int → Int, zwr (zwr (zs V 132 f) 130 12 0) 130 1 (V 130 1 + 1) 137 = V 137 := fun f => by rw [zwr_ne (by decide), zwr_ne (by decide), zsr_ne (by decide)]
  have w2 : ∀ (f : Int → Int) (i v : Int), zwr (zwr (zwr (zs V 132 f) 130 12 0) 130 1 (V 130 1 + 1)) 132 i v = zwr (zwr (zs V 132 (fun j => if j = i then v else f j)) 130 12 0) 130 1 (V 130 1 + 1) := fun f i v => by
    funext r j
    simp only [zwr_eq, zs_eq]
    by_cases h1 : r = 132
    · subst h1
      (repeat' split) <;> first | rfl | (exfalso; omega)
    · simp only [h1, false_and, if_false]
  have key := zfor (fun i => ev 160 41 [(2, 130), (0, L), (0, M), (0, i)] [] T (zwr (zwr (zs V 132 (zpn2 V M i)) 130 12 0) 130 1 (V 130 1 + 1))) (lo := 0) (hi := M) (by omega) (fun i h1 h2 => by
    show ev 160 41 _ _ _ _ = ev 160 41 _ _ _ _
    rw [b160_41, if_neg (by omega), b160_46 hS (by omega), r137]
    by_cases q : V 137 i < 0
    · rw [if_pos q, b160_71 (by omega)]
      congr 4
      funext j
      unfold zpn2
      by_cases c : (300 ≤ j ∧ j < 300 + i) ∧ 0 ≤ V 137 (j - 300)
      · rw [if_pos c, if_pos ⟨by omega, c.2⟩]
      · rw [if_neg c, if_neg (fun c' : (300 ≤ j ∧ j < 300 + (i + 1)) ∧ 0 ≤ V 137 (j - 300) => c ⟨by
          have : j ≠ 300 + i := fun e => by
            have := c'.2
            rw [e, show 300 + i - 300 = i by omega] at this
            omega
          omega, c'.2⟩)]
    · rw [if_neg q, b160_55 hS (by omega) (by omega) (by omega), b160_71 (by omega), r137, w2]
      congr 4
      funext j
      unfold zpn2
      by_cases e : j = 300 + i
      · subst e
        rw [if_pos rfl, if_pos ⟨by omega, by rw [show 300 + i - 300 = i by omega]; omega⟩, show 300 + i - 300 = i by omega]
      · rw [if_neg e]
        by_cases c : (300 ≤ j ∧ j < 300 + i) ∧ 0 ≤ V 137 (j - 300)
        · rw [if_pos c, if_pos ⟨by omega, c.2⟩]
        · rw [if_neg c, if_neg (fun c' : (300 ≤ j ∧ j < 300 + (i + 1)) ∧ 0 ≤ V 137 (j - 300) => c ⟨by omega, c'.2⟩)])
  have start : zwr (zwr (zs (zwr V 130 12 0) 132 (fun j => if (300 + M ≤ j ∧ j < 316) ∨ (316 + M ≤ j ∧ j < 332) then 0 else zwr V 130 12 0 132 j)) 132 427 M) 130 1 (V 130 1 + 1) = zwr (zwr (zs V 132 (zpn2 V M 0)) 130 12 0) 130 1 (V 130 1 + 1) := by
    funext r j
    simp only [zwr_eq, zs_eq, zpn2]
    by_cases h1 : r = 132
    · subst h1
      (repeat' split) <;> first | rfl | (exfalso; omega)
    · simp only [h1, false_and, if_false]
  have fin : ev 160 33 [(2, 130), (0, L), (9, 0), (9, 0)] [(0, M)] T (zwr V 130 12 0) = some ((0, M), T, zwr (zwr (zwr (zwr (zs V 132 (zpn2 V M M)) 130 12 0) 130 1 (V 130 1 + 1)) 130 8 (L - M)) 130 0 0) := by
    have e1 : zwr V 130 12 0 130 1 = V 130 1 := by rw [zwr_same, if_neg (by decide)]
    rw [b160_33 hS, c155 hS (by omega) (by rw [e1]; exact ht), e1, start]
    simp only [Option.bind_some, zpush9]
    rw [b160_39]
    refine key ▸ ?_
    rw [b160_41, if_pos (by omega), b160_77 hS (by omega), c152 hS]
    simp only [Option.bind_some, zpush0]
    rw [b160_89]
  rw [e160, b160_0 hS, hL, if_neg (by omega), b160_21]
  by_cases q : 16 ≤ L
  · rw [if_pos q, b160_31]
    rw [if_pos q] at hM
    rw [← hM]
    exact fin
  · rw [if_neg q, b160_27]
    rw [if_neg q] at hM
    have fin' := fin
    rw [hM] at fin'
    rw [hM]
    exact fin'
theorem k_row (h : zJ n T V) (hn : n < 1000) : zSame 0 34 160 [] n T V := by
  have hS := h.str
  have hN := h.ok.n
  have m3 := zJ_m3 h
  obtain ⟨u1, u2, u3⟩ := h.tape
  obtain ⟨⟨s1, s2, s3⟩, ⟨s4, s5, s6, s7⟩, s8, s9, s10, s11, s12⟩ := h.sc
  unfold zSame
  by_cases g : V 130 12 = 0
  · have c1 : zcall 34 [(2, 0)] T V = some ((0, -6), T, zwr (zwr V 0 17 (-6)) 129 3 (V 129 3 + 1)) := by
      rw [e34, b34_0 hS, if_pos (by omega), b34_10 hS, c24_3 hS m3.1]
      simp only [Option.bind_some, zpush0]
      rw [b34_16]
    rw [c1]
    refine zwp_ret ?_
    have e130 : zwr (zwr V 0 17 (-6)) 129 3 (V 129 3 + 1) 130 = V 130 := by rw [zwr_ne (by decide), zwr_ne (by decide)]
    have e131 : zwr (zwr (zwr V 0 17 (-6)) 129 3 (V 129 3 + 1)) 130 12 0 131 = V 131 := by rw [zwr_ne (by decide), zwr_ne (by decide), zwr_ne (by decide)]
    have ez : zwr (zwr (zwr V 0 17 (-6)) 129 3 (V 129 3 + 1)) 130 12 0 = zwr (zwr V 0 17 (-6)) 129 3 (V 129 3 + 1) := by
      funext r j
      rw [zwr_eq]
      split
      · next q => rw [q.1, q.2, e130, g]
      · rfl
    have c2 : zcall 160 [(2, 130)] T (zwr (zwr V 0 17 (-6)) 129 3 (V 129 3 + 1)) = some ((0, -6), T, zwr (zwr (zwr (zwr V 0 17 (-6)) 129 3 (V 129 3 + 1)) 130 0 (-6)) 131 6 (V 131 6 + 1)) := by
      rw [e160, b160_0 hS, e130, if_pos g, b160_14 hS, c151_3 hS (by rw [e131]; exact m3.2), e131, ez]
      simp only [Option.bind_some, zpush0]
      rw [b160_20]
    rw [c2]
    exact zwp_ret ⟨⟨_, rfl, rfl⟩, zJ_r3 h hn⟩
  · have c1 := c34 (V := V) hS (L := V 130 12) u1 (by omega)
    have hm : 1 ≤ min (V 130 12) 16 ∧ min (V 130 12) 16 ≤ 16 ∧ min (V 130 12) 16 ≤ V 130 12 := by omega
    have hM : min (V 130 12) 16 = if 16 ≤ V 130 12 then 16 else V 130 12 := by split <;> omega
    rw [c1]
    refine zwp_ret ?_
    generalize min (V 130 12) 16 = M at *
    generalize hU : zwr (zwr (zwr (zwr (zs (zs V 2 (zpnt V 57 M (zbare M 16 (V 2)))) 3 (zbare M 16 (V 3))) 1 0 M) 0 16 (V 130 12 - M)) 56 1 0) 0 17 0 = U
    have er : ∀ r, ¬ (r = 0 ∨ r = 1 ∨ r = 2 ∨ r = 3 ∨ r = 56) → U r = V r := fun r hr => by
      rw [← hU]
      simp (disch := omega) only [zwr_ne, zsr_ne]
    have e130 := er 130 (by decide)
    have e132 := er 132 (by decide)
    have e137 := er 137 (by decide)
    have c2 := c160 (V := U) hS (L := V 130 12) (M := M) (by rw [e130]) hM (by omega) (by rw [e130]; omega)
    rw [c2, e130]
    have hp : zpn2 U M M = zpn2 V M M := by
      funext j
      unfold zpn2
      rw [e132, e137]
    rw [hp]
    have U2 : ∀ c, U 2 c = zpnt V 57 M (zbare M 16 (V 2)) c := fun c => by
      rw [← hU]
      simp (disch := decide) only [zwr_ne, zsr_ne, zsr_same]
    have U3 : ∀ c, U 3 c = zbare M 16 (V 3) c := fun c => by
      rw [← hU]
      simp (disch := decide) only [zwr_ne, zsr_ne, zsr_same]
    have U1 : U 1 0 = M := by
      rw [← hU]
      simp (disch := decide) only [zwr_ne, zsr_ne, zwr_same, if_true]
    have U56 : U 56 1 = 0 := by
      rw [← hU]
      simp (disch := decide) only [zwr_ne, zsr_ne, zwr_same, if_true]
    have U0 : ∀ j, U 0 j = if j = 17 then 0 else if j = 16 then V 130 12 - M else V 0 j := fun j => by
      rw [← hU]
      simp (disch := decide) only [zwr_ne, zsr_ne, zwr_same]
    refine zwp_ret ⟨⟨_, rfl, rfl⟩, zJ_size h hn (x := M) (by omega) ?_ ?_ ?_ ?_ ?_ ?_ ?_ ?_ ?_ ?_⟩
    · intro r hr
      rw [zwr_ne (by omega), zwr_ne (by omega), zwr_ne (by omega), zwr_ne (by omega), zsr_ne (by omega), er r (by omega)]
    · simp (disch := decide) only [zwr_ne, zsr_ne]
      exact U1
    · intro i g1 g2
      simp (disch := decide) only [zwr_ne, zsr_same]
      unfold zpn2
      rw [if_neg (by omega), if_neg (by omega), if_neg (by omega)]
    · simp (disch := decide) only [zwr_ne, zsr_same]
      unfold zpn2
      rw [if_neg (by omega), if_neg (by omega), if_pos rfl]
    · intro c g1 g2
      have q1 : V 2 c = V 132 (300 + c) := (h.sr.wall g1 g2).1
      have q2 : V 3 c = V 132 (316 + c) := (h.sr.wall g1 g2).2
      simp (disch := decide) only [zwr_ne, zsr_ne, zsr_same]
      rw [U2, U3]
      unfold zpn2 zpnt zbare
      constructor
      · rw [show 300 + c - 300 = c by omega]
        by_cases k : c < M
        · have w := u3 c g1 (by omega)
          by_cases k2 : 0 ≤ V 137 c
          · rw [if_pos ⟨by omega, by omega⟩, if_pos ⟨by omega, k2⟩]
            omega
          · rw [if_neg (by omega), if_neg (by omega), if_neg (by omega), if_neg (by omega), if_neg (by omega)]
            exact q1
        · rw [if_neg (by omega), if_pos (by omega), if_neg (by omega), if_pos (by omega)]
      · by_cases k : c < M
        · rw [if_neg (by omega), if_neg (by omega), if_neg (by omega), if_neg (by omega)]
          exact q2
        · rw [if_pos (by omega), if_neg (by omega), if_pos (by omega)]
    · intro c g1 g2
      have q := h.ok.wall g1 g2
      simp (disch := decide) only [zwr_ne, zsr_same]
      unfold zpn2
      constructor
      · rw [show 300 + c - 300 = c by omega]
        by_cases k : (300 ≤ 300 + c ∧ 300 + c < 300 + M) ∧ 0 ≤ V 137 c
        · rw [if_pos k]
          have w := u3 c g1 (by omega)
          omega
        · rw [if_neg k]
          (repeat' split) <;> omega
      · rw [if_neg (by omega)]
        (repeat' split) <;> omega
    · unfold zTape
      simp (disch := decide) only [zwr_ne, zsr_ne, zwr_same, if_neg, if_true]
      rw [U56]
      exact ⟨by simp, by simp, fun j g1 g2 => by omega⟩
    · unfold zSc
      simp (disch := decide) only [zwr_ne, zsr_ne, zwr_same, U0, er 129 (by decide), er 131 (by decide), e130]
      simp
      omega
    · simp (disch := decide) only [zwr_ne, zsr_ne, U0]
      simp
    · simp (disch := decide) only [zwr_ne, zsr_ne, zwr_same, e130]
      simp
end ROW
