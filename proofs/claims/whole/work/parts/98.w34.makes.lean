/-! printed by emit_w34.py: what the constructors make -/
section MAKES
variable {D V : zM} {s : zLs} {T : zT} {q : Int}
def zg4 (q : Int) (s : zLs) : zLs := (zA1 0 4 q 8 (zA1 0 16 q 6 (zA1 0 48 q 4 (zA1 0 8 q 3 (zA1 0 8 q 2 (zA1 0 26 q 1 (zA1 0 26 q 0 s)))))))
theorem zh4 (h : zHp D s T V) (o : zO T q 9) : zwp (zcall 4 [(2, q)] T V) fun r T2 V2 => r = (9, 0) ∧ zHp D (zg4 q s) T2 V2 := by
  rw [e4]
  refine zg1 h o (b4_0 o.1) (fun T1 V1 y w => ev_pr (show zcode 4 9 = some (59, 12, 9, 0, []) by decide +kernel) w) (fun T V h o => ?_)
  refine zg1 h o b4_12 (fun T1 V1 y w => ev_pr (show zcode 4 17 = some (59, 20, 9, 1, []) by decide +kernel) w) (fun T V h o => ?_)
  refine zg1 h o b4_20 (fun T1 V1 y w => ev_pr (show zcode 4 25 = some (59, 28, 9, 2, []) by decide +kernel) w) (fun T V h o => ?_)
  refine zg1 h o b4_28 (fun T1 V1 y w => ev_pr (show zcode 4 33 = some (59, 36, 9, 3, []) by decide +kernel) w) (fun T V h o => ?_)
  refine zg1 h o b4_36 (fun T1 V1 y w => ev_pr (show zcode 4 41 = some (59, 44, 9, 4, []) by decide +kernel) w) (fun T V h o => ?_)
  refine zg1 h o b4_44 (fun T1 V1 y w => ev_pr (show zcode 4 49 = some (59, 52, 9, 6, []) by decide +kernel) w) (fun T V h o => ?_)
  refine zg1 h o b4_52 (fun T1 V1 y w => ev_pr (show zcode 4 56 = some (59, 59, 9, 8, []) by decide +kernel) w) (fun T V h o => ?_)
  rw [b4_59]
  exact zwp_ret ⟨rfl, h⟩
def zg5 (q : Int) (s : zLs) : zLs := (zA1 0 10 q 4 (zA1 0 10 q 3 (zA1 0 10 q 2 (zA1 0 10 q 1 (zA1 0 10 q 0 s)))))
theorem zh5 (h : zHp D s T V) (o : zO T q 10) : zwp (zcall 5 [(2, q)] T V) fun r T2 V2 => r = (9, 0) ∧ zHp D (zg5 q s) T2 V2 := by
  rw [e5]
  refine zg1 h o (b5_0 o.1) (fun T1 V1 y w => ev_pr (show zcode 5 9 = some (59, 12, 10, 0, []) by decide +kernel) w) (fun T V h o => ?_)
  refine zg1 h o b5_12 (fun T1 V1 y w => ev_pr (show zcode 5 17 = some (59, 20, 10, 1, []) by decide +kernel) w) (fun T V h o => ?_)
  refine zg1 h o b5_20 (fun T1 V1 y w => ev_pr (show zcode 5 25 = some (59, 28, 10, 2, []) by decide +kernel) w) (fun T V h o => ?_)
  refine zg1 h o b5_28 (fun T1 V1 y w => ev_pr (show zcode 5 33 = some (59, 36, 10, 3, []) by decide +kernel) w) (fun T V h o => ?_)
  refine zg1 h o b5_36 (fun T1 V1 y w => ev_pr (show zcode 5 41 = some (59, 44, 10, 4, []) by decide +kernel) w) (fun T V h o => ?_)
  rw [b5_44]
  exact zwp_ret ⟨rfl, h⟩
def zg6 (q : Int) (s : zLs) : zLs := (zA1 0 400 q 0 s)
theorem zh6 (h : zHp D s T V) (o : zO T q 8) : zwp (zcall 6 [(2, q)] T V) fun r T2 V2 => r = (9, 0) ∧ zHp D (zg6 q s) T2 V2 := by
  rw [e6]
  refine zg1 h o (b6_0 o.1) (fun T1 V1 y w => ev_pr (show zcode 6 10 = some (59, 13, 8, 0, []) by decide +kernel) w) (fun T V h o => ?_)
  rw [b6_13]
  exact zwp_ret ⟨rfl, h⟩
def zg8 (q : Int) (s : zLs) : zLs := (zA1 0 128 q 4 (zA1 0 128 q 3 (zA1 0 128 q 2 (zA1 0 128 q 1 (zA1 0 128 q 0 s)))))
theorem zh8 (h : zHp D s T V) (o : zO T q 4) : zwp (zcall 8 [(2, q)] T V) fun r T2 V2 => r = (9, 0) ∧ zHp D (zg8 q s) T2 V2 := by
  rw [e8]
  refine zg1 h o (b8_0 o.1) (fun T1 V1 y w => ev_pr (show zcode 8 10 = some (59, 13, 4, 0, []) by decide +kernel) w) (fun T V h o => ?_)
  refine zg1 h o b8_13 (fun T1 V1 y w => ev_pr (show zcode 8 19 = some (59, 22, 4, 1, []) by decide +kernel) w) (fun T V h o => ?_)
  refine zg1 h o b8_22 (fun T1 V1 y w => ev_pr (show zcode 8 28 = some (59, 31, 4, 2, []) by decide +kernel) w) (fun T V h o => ?_)
  refine zg1 h o b8_31 (fun T1 V1 y w => ev_pr (show zcode 8 37 = some (59, 40, 4, 3, []) by decide +kernel) w) (fun T V h o => ?_)
  refine zg1 h o b8_40 (fun T1 V1 y w => ev_pr (show zcode 8 46 = some (59, 49, 4, 4, []) by decide +kernel) w) (fun T V h o => ?_)
  rw [b8_49]
  exact zwp_ret ⟨rfl, h⟩
def zg9 (q : Int) (s : zLs) : zLs := (zA1 0 128 q 4 (zA1 0 729 q 3 (zA1 0 729 q 2 (zA1 0 729 q 1 (zA1 0 729 q 0 s)))))
theorem zh9 (h : zHp D s T V) (o : zO T q 3) : zwp (zcall 9 [(2, q)] T V) fun r T2 V2 => r = (9, 0) ∧ zHp D (zg9 q s) T2 V2 := by
  rw [e9]
  refine zg1 h o (b9_0 o.1) (fun T1 V1 y w => ev_pr (show zcode 9 10 = some (59, 13, 3, 0, []) by decide +kernel) w) (fun T V h o => ?_)
  refine zg1 h o b9_13 (fun T1 V1 y w => ev_pr (show zcode 9 19 = some (59, 22, 3, 1, []) by decide +kernel) w) (fun T V h o => ?_)
  refine zg1 h o b9_22 (fun T1 V1 y w => ev_pr (show zcode 9 28 = some (59, 31, 3, 2, []) by decide +kernel) w) (fun T V h o => ?_)
  refine zg1 h o b9_31 (fun T1 V1 y w => ev_pr (show zcode 9 37 = some (59, 40, 3, 3, []) by decide +kernel) w) (fun T V h o => ?_)
  refine zg1 h o b9_40 (fun T1 V1 y w => ev_pr (show zcode 9 46 = some (59, 49, 3, 4, []) by decide +kernel) w) (fun T V h o => ?_)
  rw [b9_49]
  exact zwp_ret ⟨rfl, h⟩
def zg12 (q : Int) (s : zLs) : zLs := (zA1 0 9 q 7 (zA1 0 9 q 6 (zA1 3 196 q 4 (zA1 0 196 q 3 (zA1 0 196 q 2 (zA1 0 196 q 1 (zA1 0 196 q 0 s)))))))
theorem zh12 (h : zHp D s T V) (o : zO T q 5) : zwp (zcall 12 [(2, q)] T V) fun r T2 V2 => r = (9, 0) ∧ zHp D (zg12 q s) T2 V2 := by
  rw [e12]
  refine zg1 h o (b12_0 o.1) (fun T1 V1 y w => ev_pr (show zcode 12 10 = some (59, 13, 5, 0, []) by decide +kernel) w) (fun T V h o => ?_)
  refine zg1 h o b12_13 (fun T1 V1 y w => ev_pr (show zcode 12 19 = some (59, 22, 5, 1, []) by decide +kernel) w) (fun T V h o => ?_)
  refine zg1 h o b12_22 (fun T1 V1 y w => ev_pr (show zcode 12 28 = some (59, 31, 5, 2, []) by decide +kernel) w) (fun T V h o => ?_)
  refine zg1 h o b12_31 (fun T1 V1 y w => ev_pr (show zcode 12 37 = some (59, 40, 5, 3, []) by decide +kernel) w) (fun T V h o => ?_)
  refine zg1 h o b12_40 (fun T1 V1 y w => ev_pr (show zcode 12 46 = some (59, 49, 5, 4, []) by decide +kernel) w) (fun T V h o => ?_)
  refine zg1 h o b12_49 (fun T1 V1 y w => ev_pr (show zcode 12 54 = some (59, 57, 5, 6, []) by decide +kernel) w) (fun T V h o => ?_)
  refine zg1 h o b12_57 (fun T1 V1 y w => ev_pr (show zcode 12 62 = some (59, 65, 5, 7, []) by decide +kernel) w) (fun T V h o => ?_)
  rw [b12_65]
  exact zwp_ret ⟨rfl, h⟩
def zg13 (x q : Int) (s : zLs) : zLs := (zA1 0 x q 7 (zA1 1 x q 6 (zA1 1 x q 5 (zA1 0 x q 4 (zA1 1 x q 3 (zA1 0 x q 2 (zA1 0 x q 1 s)))))))
theorem zh13 {x : Int} (h : zHp D s T V) (o : zO T q 1) (hx : 1 ≤ x ∧ x ≤ 1000000) : zwp (zcall 13 [(2, q), (0, x)] T V) fun r T2 V2 => r = (9, 0) ∧ zHp D (zg13 x q s) T2 V2 := by
  have hm : max 1 x = x := by omega
  have hz : (0 : Int) ≤ x ∧ x ≤ 1000000 := by omega
  have e0 := b13_0 (T := T) (V := V) (x1 := x) o.1 (by rw [hm]; exact hz)
  rw [hm] at e0
  rw [e13]
  refine zg1 h o e0 (fun T1 V1 y w => ev_pr (show zcode 13 14 = some (59, 17, 1, 1, []) by decide +kernel) w) (fun T V h o => ?_)
  refine zg1 h o (b13_17 hz) (fun T1 V1 y w => ev_pr (show zcode 13 21 = some (59, 24, 1, 2, []) by decide +kernel) w) (fun T V h o => ?_)
  refine zg1 h o (b13_24 hz) (fun T1 V1 y w => ev_pr (show zcode 13 28 = some (59, 31, 1, 3, []) by decide +kernel) w) (fun T V h o => ?_)
  refine zg1 h o (b13_31 hz) (fun T1 V1 y w => ev_pr (show zcode 13 35 = some (59, 38, 1, 4, []) by decide +kernel) w) (fun T V h o => ?_)
  refine zg1 h o (b13_38 hz) (fun T1 V1 y w => ev_pr (show zcode 13 42 = some (59, 45, 1, 5, []) by decide +kernel) w) (fun T V h o => ?_)
  refine zg1 h o (b13_45 hz) (fun T1 V1 y w => ev_pr (show zcode 13 49 = some (59, 52, 1, 6, []) by decide +kernel) w) (fun T V h o => ?_)
  refine zg1 h o (b13_52 hz) (fun T1 V1 y w => ev_pr (show zcode 13 56 = some (59, 59, 1, 7, []) by decide +kernel) w) (fun T V h o => ?_)
  rw [b13_59]
  exact zwp_ret ⟨rfl, h⟩
def zg11 (q : Int) (s : zLs) : zLs := (zA1 0 0 q 4 (zC1 11 8 q 3 (zg13 16) (zC1 11 8 q 2 (zg13 16) (zC1 15 9 q 1 zg12 (zC1 15 9 q 0 zg12 s)))))
theorem zh11 (h : zHp D s T V) (o : zO T q 0) : zwp (zcall 11 [(2, q)] T V) fun r T2 V2 => r = (9, 0) ∧ zHp D (zg11 q s) T2 V2 := by
  rw [e11]
  refine zg2 (kl := 5) (f := zg12) h o (by decide) (b11_0 o.1) (fun T1 V1 y hy w wh => b11_8 hy) (fun T1 V1 h1 o1 => zh12 h1 o1) (fun T1 V1 y w => ev_pr (show zcode 11 12 = some (59, 15, 0, 0, []) by decide +kernel) w) (fun T V h o => ?_)
  refine zg2 (kl := 5) (f := zg12) h o (by decide) b11_15 (fun T1 V1 y hy w wh => b11_19 hy) (fun T1 V1 h1 o1 => zh12 h1 o1) (fun T1 V1 y w => ev_pr (show zcode 11 23 = some (59, 26, 0, 1, []) by decide +kernel) w) (fun T V h o => ?_)
  refine zg2 (kl := 1) (f := zg13 16) h o (by decide) b11_26 (fun T1 V1 y hy w wh => b11_30 hy) (fun T1 V1 h1 o1 => zh13 h1 o1 (by decide)) (fun T1 V1 y w => ev_pr (show zcode 11 36 = some (59, 39, 0, 2, []) by decide +kernel) w) (fun T V h o => ?_)
  refine zg2 (kl := 1) (f := zg13 16) h o (by decide) b11_39 (fun T1 V1 y hy w wh => b11_43 hy) (fun T1 V1 h1 o1 => zh13 h1 o1 (by decide)) (fun T1 V1 y w => ev_pr (show zcode 11 49 = some (59, 52, 0, 3, []) by decide +kernel) w) (fun T V h o => ?_)
  refine zg1 h o b11_52 (fun T1 V1 y w => ev_pr (show zcode 11 56 = some (59, 59, 0, 4, []) by decide +kernel) w) (fun T V h o => ?_)
  rw [b11_59]
  exact zwp_ret ⟨rfl, h⟩
def zg10 (_ : Int) (s : zLs) : zLs := s
theorem zh10 (h : zHp D s T V) (o : zO T q 2) : zwp (zcall 10 [(2, q)] T V) fun r T2 V2 => r = (9, 0) ∧ zHp D (zg10 q s) T2 V2 := by
  rw [e10, b10_0 o.1]
  exact zwp_ret ⟨rfl, h⟩
def zg7 (a b q : Int) (s : zLs) : zLs := (s.1, (q, 1, b) :: (q, 0, a) :: s.2.1, (q, 5, -1) :: s.2.2)
theorem zh7 {a b : Int} (h : zHp D s T V) (o : zO T q 7) : zwp (zcall 7 [(2, q), (2, a), (2, b)] T V) fun r T2 V2 => r = (9, 0) ∧ zHp D (zg7 a b q s) T2 V2 := by
  rw [e7, b7_0 o.1 o, b7_14 (zO_q o), b7_19]
  exact zwp_ret ⟨rfl, zHp_q (zHp_q (zHp_w h ⟨o.1, o.2.1⟩) ⟨o.1, o.2.1⟩) ⟨o.1, o.2.1⟩⟩
def zg3a (q : Int) (s : zLs) : zLs := (zC1 20 6 q 7 zg5 (zC1 19 10 q 6 zg4 (zC1 19 10 q 5 zg4 (zA1 0 7 q 4 (zA1 0 7 q 3 (zA1 0 16 q 2 (zA1 0 16 q 1 (s.1, s.2.1, (q, 0, 8) :: s.2.2))))))))
def zg3l (q : Int) (s : zLs) : Nat → zLs
  | 0 => s
  | n + 1 => ((zg3l q s n).1, (zg3l q s n).2.1, (q + 4, (n : Int), 1) :: (q + 3, (n : Int), (n : Int) + 1) :: (zg3l q s n).2.2)
def zg3 (q : Int) (s : zLs) : zLs := zg3l q (zg3a q s) 7
theorem zh3 (h : zHp D s T V) (o : zO T q 6) (hst : ∀ (T1 : zT) (V1 : zM), zHp D (zg3a q s) T1 V1 → zState T1 q) : zwp (zcall 3 [(2, q)] T V) fun r T2 V2 => r = (9, 0) ∧ zHp D (zg3 q s) T2 V2 := by
  rw [e3]
  refine zg1 (zHp_w (q := q) (i := 0) (x := 8) h ⟨o.1, o.2.1⟩) o (o3_0 o.1 o) (fun T1 V1 y w => ev_pr (show zcode 3 15 = some (59, 18, 6, 1, []) by decide +kernel) w) (fun T V h o => ?_)
  refine zg1 h o b3_18 (fun T1 V1 y w => ev_pr (show zcode 3 23 = some (59, 26, 6, 2, []) by decide +kernel) w) (fun T V h o => ?_)
  refine zg1 h o b3_26 (fun T1 V1 y w => ev_pr (show zcode 3 31 = some (59, 34, 6, 3, []) by decide +kernel) w) (fun T V h o => ?_)
  refine zg1 h o b3_34 (fun T1 V1 y w => ev_pr (show zcode 3 39 = some (59, 42, 6, 4, []) by decide +kernel) w) (fun T V h o => ?_)
  refine zg2 (kl := 9) (f := zg4) h o (by decide) b3_42 (fun T1 V1 y hy w wh => b3_46 hy) (fun T1 V1 h1 o1 => zh4 h1 o1) (fun T1 V1 y w => ev_pr (show zcode 3 50 = some (59, 53, 6, 5, []) by decide +kernel) w) (fun T V h o => ?_)
  refine zg2 (kl := 9) (f := zg4) h o (by decide) b3_53 (fun T1 V1 y hy w wh => b3_57 hy) (fun T1 V1 h1 o1 => zh4 h1 o1) (fun T1 V1 y w => ev_pr (show zcode 3 61 = some (59, 64, 6, 6, []) by decide +kernel) w) (fun T V h o => ?_)
  refine zg2 (kl := 10) (f := zg5) h o (by decide) b3_64 (fun T1 V1 y hy w wh => b3_68 hy) (fun T1 V1 h1 o1 => zh5 h1 o1) (fun T1 V1 y w => ev_pr (show zcode 3 72 = some (59, 75, 6, 7, []) by decide +kernel) w) (fun T V h o => ?_)
  have hs : zState T q := hst T V h
  rw [b3_75]
  refine zup (α := zM) (fun i Y => zHp D (zg3l q (zg3a q s) i.toNat) T Y) (fun i Y => zwp (ev 3 77 [(2, q), (0, i)] [] T Y) fun r T2 V2 => r = (9, 0) ∧ zHp D (zg3 q s) T2 V2) (lo := 0) (hi := 7) (by decide) ?_ ?_ V h
  · intro Y hY
    rw [b3_77, if_pos (by decide), b3_105]
    exact zwp_ret ⟨rfl, hY⟩
  · intro i Y q1 q2 hY next
    rw [b3_77, if_neg (by omega), b3_83 hs (by omega) ⟨q1, q2⟩]
    obtain ⟨j, rfl⟩ : ∃ j : Nat, i = j := ⟨i.toNat, by omega⟩
    refine next _ ?_
    rw [show ((j : Int) + 1).toNat = j + 1 by omega]
    replace hY : zHp D (zg3l q (zg3a q s) j) T Y := hY
    have a3 := hs.2.2.2.2.2.2.2.2.2.2.1
    have a4 := hs.2.2.2.2.2.2.2.2.2.2.2.1
    exact zHp_w (zHp_w hY ⟨a3.1.1, a3.1.2.1⟩) ⟨a4.1.1, a4.1.2.1⟩
end MAKES
