/-! feed, drop -/
theorem zand_255 {x : Int} : zand x 255 = x % 256 := by
  rw [zand_c]
  have h := zand_n (x := 255) (y := x) (by decide) (by decide)
  refine zbt_ext 8 h.1 (by omega) (by omega) (by omega) fun j hj => ?_
  rw [zand_bt (by omega)]
  have e : zbt (x % 256) j ↔ zbt x j := zbt_mod (k := 8) hj
  rw [e]
  refine ⟨fun q => q.2, fun q => ⟨?_, q⟩⟩
  have : j = 0 ∨ j = 1 ∨ j = 2 ∨ j = 3 ∨ j = 4 ∨ j = 5 ∨ j = 6 ∨ j = 7 := by omega
  rcases this with e | e | e | e | e | e | e | e <;> subst e <;> unfold zbt <;> decide
/-- byte k of a number, the highest first -/
def zbyt (x k : Int) : Int := x / 2 ^ (24 - 8 * k).toNat % 256
theorem zbyt_e {x k : Int} (hk : 0 ≤ k ∧ k ≤ 3) : zand (if 24 - 8 * k = 0 then x else x % 4294967296 / 2 ^ (24 - 8 * k).toNat) 255 = zbyt x k := by
  rw [zand_255]
  unfold zbyt
  have : k = 0 ∨ k = 1 ∨ k = 2 ∨ k = 3 := by omega
  rcases this with e | e | e | e
  · subst e
    rw [if_neg (by decide)]
    have e2 : ((24 : Int) - 8 * 0).toNat = 24 := by decide
    rw [e2]
    show x % 4294967296 / 16777216 % 256 = x / 16777216 % 256
    omega
  · subst e
    rw [if_neg (by decide)]
    have e2 : ((24 : Int) - 8 * 1).toNat = 16 := by decide
    rw [e2]
    show x % 4294967296 / 65536 % 256 = x / 65536 % 256
    omega
  · subst e
    rw [if_neg (by decide)]
    have e2 : ((24 : Int) - 8 * 2).toNat = 8 := by decide
    rw [e2]
    show x % 4294967296 / 256 % 256 = x / 256 % 256
    omega
  · subst e
    rw [if_pos (by decide)]
    have e2 : ((24 : Int) - 8 * 3).toNat = 0 := by decide
    rw [e2]
    simp
section FEED
variable {n : Int} {T : zT} {V : zM}
def zfed (x L i : Int) (f : Int → Int) : Int → Int := fun j => if L ≤ j ∧ j < L + i then zbyt x (j - L) else f j
theorem c32 {x L : Int} (hS : zStr T) (hL : V 56 1 = L) (hL2 : 0 ≤ L ∧ L + 4 ≤ 400) : zcall 32 [(2, 56), (0, x)] T V = some ((9, 0), T, zwr (zs V 57 (zfed x L 4 (V 57))) 56 1 (L + 4)) := by
  have key := zfor (fun i => ev 32 3 [(2, 56), (0, x), (0, 24 - 8 * i)] [] T (zwr (zs V 57 (zfed x L i (V 57))) 56 1 (L + i))) (lo := 0) (hi := 4) (by decide) (fun i h1 h2 => by
    show ev 32 3 _ _ _ _ = ev 32 3 _ _ _ _
    have e56 : zwr (zs V 57 (zfed x L i (V 57))) 56 1 (L + i) 56 1 = L + i := by rw [zwr_same, if_pos rfl]
    have e56' : ∀ v, zwr (zwr (zs V 57 (zfed x L i (V 57))) 56 1 (L + i)) 57 (L + i) v 56 1 = L + i := fun v => by rw [zwr_ne (by decide), e56]
    rw [b32_3, if_neg (by omega), b32_7 hS, if_neg (by omega), b32_17 hS (by omega) (by omega) (by rw [e56, e56']; omega) (by omega), e56, e56', zbyt_e (by omega), show 24 - 8 * i + -8 = 24 - 8 * (i + 1) by omega]
    congr 1
    funext r j
    simp only [zwr_eq, zs_eq, zfed]
    by_cases g : r = 57
    · subst g
      simp only [true_and, if_true]
      by_cases e : j = L + i
      · subst e
        rw [show L + i - L = i by omega]
        (repeat' split) <;> first | rfl | (exfalso; omega)
      · (repeat' split) <;> first | rfl | (exfalso; omega)
    · simp only [g, false_and, if_false]
      (repeat' split) <;> first | rfl | (exfalso; omega) | omega)
  have e0 : zwr (zs V 57 (zfed x L 0 (V 57))) 56 1 (L + 0) = V := by
    funext r j
    simp only [zwr_eq, zs_eq, zfed]
    (repeat' split) <;> first | rfl | (exfalso; omega) | (next q => rw [q.1, q.2, hL]; omega) | (next q _ => rw [q.1, q.2, hL]; omega) | (subst r; rfl)
  rw [e32, b32_0]
  have k0 := key
  simp only [e0] at k0
  show ev 32 3 [(2, 56), (0, x), (0, 24 - 8 * 0)] [] T V = _
  rw [k0, b32_3, if_pos (by decide), b32_49]
theorem zfedw {V : zM} {f : Int → Int} {x L l : Int} : zwr (zs (zwr (zs V 57 f) 56 1 l) 57 (zfed x L 4 (zwr (zs V 57 f) 56 1 l 57))) 56 1 (L + 4) = zwr (zs V 57 (zfed x L 4 f)) 56 1 (L + 4) := by
  have e : zwr (zs V 57 f) 56 1 l 57 = f := by rw [zwr_ne (by decide), zsr_same]
  rw [e]
  funext r j
  simp only [zwr_eq, zs_eq]
  (repeat' split) <;> first | rfl | (exfalso; omega)
theorem c31 {x1 x2 x3 x4 x5 L : Int} (hS : zStr T) (hL : V 56 1 = L) (hL2 : 0 ≤ L ∧ L + 20 ≤ 400) : zcall 31 [(2, 0), (0, x1), (0, x2), (0, x3), (0, x4), (0, x5)] T V = some ((0, L + 20), T, zwr (zs V 57 (zfed x5 (L + 4 + 4 + 4 + 4) 4 (zfed x4 (L + 4 + 4 + 4) 4 (zfed x3 (L + 4 + 4) 4 (zfed x2 (L + 4) 4 (zfed x1 L 4 (V 57))))))) 56 1 (L + 4 + 4 + 4 + 4 + 4)) := by
  have e56 : ∀ (f : Int → Int) (l : Int), zwr (zs V 57 f) 56 1 l 56 1 = l := fun f l => by rw [zwr_same, if_pos rfl]
  rw [e31, b31_0 hS (by omega), if_pos (by omega), b31_18 hS, c32 hS hL (by omega)]
  simp only [Option.bind_some, zpush9]
  rw [b31_26 hS, c32 hS (e56 _ _) (by omega), zfedw]
  simp only [Option.bind_some, zpush9]
  rw [b31_34 hS, c32 hS (e56 _ _) (by omega), zfedw]
  simp only [Option.bind_some, zpush9]
  rw [b31_42 hS, c32 hS (e56 _ _) (by omega), zfedw]
  simp only [Option.bind_some, zpush9]
  rw [b31_51 hS, c32 hS (e56 _ _) (by omega), zfedw]
  simp only [Option.bind_some, zpush9]
  rw [b31_60 hS, e56]
  congr 3
  omega
def zfiv (x1 x2 x3 x4 x5 : Int) (f : Int → Int) : Int → Int := fun j => if j = 4 then x5 else if j = 3 then x4 else if j = 2 then x3 else if j = 1 then x2 else if j = 0 then x1 else f j
def zsby (x : Int) : Int := (x + 128) % 256 - 128
def zfd2 (g : Int → Int) (L i : Int) (f : Int → Int) : Int → Int := fun j => if L ≤ j ∧ j < L + i then zsby (g ((j - L) / 4) / 2 ^ (24 - 8 * ((j - L) % 4)).toNat) else f j
theorem c162 {x1 x2 x3 x4 x5 L : Int} (hS : zStr T) (hL : V 130 12 = L) (hL2 : 0 ≤ L ∧ L + 20 ≤ 400) : zcall 162 [(2, 130), (0, x1), (0, x2), (0, x3), (0, x4), (0, x5)] T V = some ((0, L + 20), T, zwr (zs (zs V 138 (zfiv x1 x2 x3 x4 x5 (V 138))) 137 (zfd2 (zfiv x1 x2 x3 x4 x5 (V 138)) L 20 (V 137))) 130 12 (L + 20)) := by
  have st : zwr (zwr (zwr (zwr (zwr V 138 0 x1) 138 1 x2) 138 2 x3) 138 3 x4) 138 4 x5 = zs V 138 (zfiv x1 x2 x3 x4 x5 (V 138)) := by
    funext r j
    simp only [zwr_eq, zs_eq, zfiv]
    by_cases g : r = 138
    · subst g
      simp only [true_and, if_true]
    · simp only [g, false_and, if_false]
  generalize zfiv x1 x2 x3 x4 x5 (V 138) = G at *
  have r130 : ∀ f : Int → Int, zs (zs V 138 G) 137 f 130 12 = L := fun f => by rw [zsr_ne (by decide), zsr_ne (by decide), hL]
  have r138 : ∀ f : Int → Int, zs (zs V 138 G) 137 f 138 = G := fun f => by rw [zsr_ne (by decide), zsr_same]
  have key := zfor (fun i => ev 162 55 [(2, 130), (0, x1), (0, x2), (0, x3), (0, x4), (0, x5), (0, i)] [] T (zs (zs V 138 G) 137 (zfd2 G L i (V 137)))) (lo := 0) (hi := 20) (by decide) (fun i h1 h2 => by
    show ev 162 55 _ _ _ _ = ev 162 55 _ _ _ _
    rw [b162_55, if_neg (by omega), b162_62 hS (by rw [r130]; omega) h1 (by omega) (by omega) (by omega) (by omega) (by rw [r130]; omega) (by omega) (by omega), r130, r138, zwr_zs]
    congr 2
    funext j
    unfold zfd2 zsby
    by_cases e : j = L + i
    · subst e
      rw [if_pos rfl, if_pos (by omega), show L + i - L = i by omega]
    · rw [if_neg e]
      (repeat' split) <;> first | rfl | (exfalso; omega))
  have e0 : zs (zs V 138 G) 137 (zfd2 G L 0 (V 137)) = zs V 138 G := by
    have : zfd2 G L 0 (V 137) = zs V 138 G 137 := by
      rw [zsr_ne (by decide)]
      funext j
      unfold zfd2
      rw [if_neg (by omega)]
    rw [this, zs_id]
  rw [e162, b162_0 hS (by omega), if_pos (by omega), b162_15 hS, st]
  have k0 := key
  simp only [e0] at k0
  rw [k0, b162_55, if_pos (by decide), b162_101 hS (by rw [r130]; omega), r130, zwr_same, if_pos rfl]
theorem k_feed {x1 x2 x3 x4 x5 : Int} (h : zJ n T V) (hn : n < 1000) : zSame 0 31 162 [(0, x1), (0, x2), (0, x3), (0, x4), (0, x5)] n T V := by
  have hS := h.str
  obtain ⟨u1, u2, u3⟩ := h.tape
  obtain ⟨⟨s1, s2, s3⟩, ⟨s4, s5, s6, s7⟩, s8, s9, s10, s11, s12⟩ := h.sc
  unfold zSame
  by_cases g : V 130 12 + 20 ≤ 400
  · rw [c31 hS u1 (by omega)]
    refine zwp_ret ?_
    generalize hF : zfed x5 (V 130 12 + 4 + 4 + 4 + 4) 4 (zfed x4 (V 130 12 + 4 + 4 + 4) 4 (zfed x3 (V 130 12 + 4 + 4) 4 (zfed x2 (V 130 12 + 4) 4 (zfed x1 (V 130 12) 4 (V 57))))) = F
    have e130 : zwr (zs V 57 F) 56 1 (V 130 12 + 4 + 4 + 4 + 4 + 4) 130 = V 130 := by rw [zwr_ne (by decide), zsr_ne (by decide)]
    have e137 : zwr (zs V 57 F) 56 1 (V 130 12 + 4 + 4 + 4 + 4 + 4) 137 = V 137 := by rw [zwr_ne (by decide), zsr_ne (by decide)]
    have e138 : zwr (zs V 57 F) 56 1 (V 130 12 + 4 + 4 + 4 + 4 + 4) 138 = V 138 := by rw [zwr_ne (by decide), zsr_ne (by decide)]
    rw [c162 (V := zwr (zs V 57 F) 56 1 (V 130 12 + 4 + 4 + 4 + 4 + 4)) (L := V 130 12) hS (by rw [e130]) (by omega), e137, e138]
    refine zwp_ret ⟨⟨_, rfl, rfl⟩, zJ_same h (fun r hr => ?_) ?_ ?_ ?_ ?_⟩
    · unfold zkeep at hr
      rw [zwr_ne (by omega), zsr_ne (by omega), zsr_ne (by omega), zwr_ne (by omega), zsr_ne (by omega)]
    · unfold zTape
      simp (disch := decide) only [zwr_ne, zsr_ne, zwr_same, zsr_same, if_true]
      refine ⟨by omega, by omega, fun j g1 g2 => ?_⟩
      unfold zfd2
      by_cases k : V 130 12 ≤ j
      · rw [if_pos (by omega)]
        have hb : ∀ x : Int, x % 256 = zsby x % 256 ∧ -128 ≤ zsby x ∧ zsby x ≤ 127 := fun x => by unfold zsby; omega
        have q : F j = zfiv x1 x2 x3 x4 x5 (V 138) ((j - V 130 12) / 4) / 2 ^ (24 - 8 * ((j - V 130 12) % 4)).toNat % 256 := by
          rw [← hF]
          unfold zfed zfiv zbyt
          by_cases k4 : V 130 12 + 16 ≤ j
          · rw [if_pos (by omega), show (j - V 130 12) / 4 = 4 by omega, if_pos rfl, show (j - V 130 12) % 4 = j - (V 130 12 + 4 + 4 + 4 + 4) by omega]
          · by_cases k3 : V 130 12 + 12 ≤ j
            · rw [if_neg (by omega), if_pos (by omega), show (j - V 130 12) / 4 = 3 by omega, if_neg (by decide), if_pos rfl, show (j - V 130 12) % 4 = j - (V 130 12 + 4 + 4 + 4) by omega]
            · by_cases k2 : V 130 12 + 8 ≤ j
              · rw [if_neg (by omega), if_neg (by omega), if_pos (by omega), show (j - V 130 12) / 4 = 2 by omega, if_neg (by decide), if_neg (by decide), if_pos rfl, show (j - V 130 12) % 4 = j - (V 130 12 + 4 + 4) by omega]
              · by_cases k1 : V 130 12 + 4 ≤ j
                · rw [if_neg (by omega), if_neg (by omega), if_neg (by omega), if_pos (by omega), show (j - V 130 12) / 4 = 1 by omega, if_neg (by decide), if_neg (by decide), if_neg (by decide), if_pos rfl, show (j - V 130 12) % 4 = j - (V 130 12 + 4) by omega]
                · rw [if_neg (by omega), if_neg (by omega), if_neg (by omega), if_neg (by omega), if_pos (by omega), show (j - V 130 12) / 4 = 0 by omega, if_neg (by decide), if_neg (by decide), if_neg (by decide), if_neg (by decide), if_pos rfl, show (j - V 130 12) % 4 = j - V 130 12 by omega]
        rw [q]
        exact hb _
      · rw [if_neg (by omega)]
        have q : F j = V 57 j := by
          rw [← hF]
          unfold zfed
          rw [if_neg (by omega), if_neg (by omega), if_neg (by omega), if_neg (by omega), if_neg (by omega)]
        rw [q]
        exact u3 j g1 (by omega)
    · unfold zSc
      simp (disch := decide) only [zwr_ne, zsr_ne, zwr_same, if_neg]
      exact ⟨⟨s1, s2, s3⟩, ⟨s4, s5, s6, s7⟩, by omega, s9, by omega, s11, by omega⟩
    · simp (disch := decide) only [zwr_ne, zsr_ne]
      exact id
    · simp (disch := decide) only [zwr_ne, zsr_ne, zwr_same, if_neg]
      exact id
  · have c1 : zcall 31 [(2, 0), (0, x1), (0, x2), (0, x3), (0, x4), (0, x5)] T V = some ((0, -1), T, V) := by
      rw [e31, b31_0 hS (by omega), if_neg (by omega), b31_16]
    have c2 : zcall 162 [(2, 130), (0, x1), (0, x2), (0, x3), (0, x4), (0, x5)] T V = some ((0, -1), T, V) := by
      rw [e162, b162_0 hS (by omega), if_neg (by omega), b162_13]
    rw [c1]
    refine zwp_ret ?_
    rw [c2]
    exact zwp_ret ⟨⟨_, rfl, rfl⟩, zJ_ok h hn⟩
end FEED
