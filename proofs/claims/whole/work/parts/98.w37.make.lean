/-! printed by emit_w37.py: the constructor of the reference -/
section MAKE2
variable {D V : zM} {T : zT}
def zs2_0 : zLs := (zs1_e.1 ++ [(22, 38)], zs1_e.2.1, [])
def zs2_1 : zLs := zA1 0 7 130 3 (zs2_0.1, zs2_0.2.1, (130, 2, -1) :: zs2_0.2.2)
def zs2_2 : zLs := zA1 0 428 130 4 zs2_1
def zs2_3 : zLs := zA1 0 856 130 5 zs2_2
def zs2_4 : zLs := zA1 3 2 130 6 zs2_3
def zs2_5 : zLs := zA1 0 300 130 7 zs2_4
def zwds : List (Int × Int) := [(0, 101), (1, 97), (2, 115), (3, 116), (4, 32), (5, 119), (6, 101), (7, 115), (8, 116), (9, 32), (10, 119), (11, 111), (12, 114), (13, 100), (14, 32), (15, 109), (16, 105), (17, 114), (18, 114), (19, 111), (20, 114), (21, 32), (22, 99), (23, 111), (24, 115), (25, 116), (26, 32), (27, 100), (28, 114), (29, 111), (30, 112), (31, 32), (32, 110), (33, 111), (34, 116), (35, 32)]
def zs2_6 : zLs := (zs2_5.1 ++ [(2, 36)], (130, 9, 136) :: zs2_5.2.1, zwds.foldl (fun r e => (136, e.1, e.2) :: r) zs2_5.2.2)
def zs2_7 : zLs := zA1 2 400 130 10 zs2_6
def zs2_8 : zLs := zA1 0 5 130 11 zs2_7
def zs2_9 : zLs := zA1 0 401 130 14 (zs2_8.1, zs2_8.2.1, (130, 13, -1) :: zs2_8.2.2)
def zs2_10 : zLs := zA1 0 401 130 15 zs2_9
def zs2_11 : zLs := zA1 0 401 130 16 zs2_10
def zs2_12 : zLs := zA1 0 128 130 22 zs2_11
def zs2_13 : zLs := zA1 0 128 130 23 zs2_12
def zs2_14 : zLs := zA1 3 729 130 24 zs2_13
def zs2_15 : zLs := zA1 0 12096 130 28 zs2_14
def zs2_16 : zLs := zA1 3 448 130 29 zs2_15
def zs2_17 : zLs := zA1 0 2 130 30 zs2_16
def zs2_18 : zLs := zA1 1 50176 130 32 zs2_17
def zs2_19 : zLs := zA1 1 50176 130 33 zs2_18
def zs2_20 : zLs := zA1 0 729 130 34 zs2_19
def zs2_21 : zLs := zA1 0 852992 130 35 zs2_20
def zs2_22 : zLs := zA1 0 729 130 36 zs2_21
def zs2_l : Nat → zLs
  | 0 => (zs2_22.1, zs2_22.2.1, (132, 427, 8) :: zs2_22.2.2)
  | n + 1 => ((zs2_l n).1, (zs2_l n).2.1, (132, 293 + (n : Int), 1) :: (132, 286 + (n : Int), (n : Int)) :: (zs2_l n).2.2)
def zs2_e : zLs := zs2_l 7
theorem zHp_ws {q : Int} (hq : 0 ≤ q ∧ q < zsz T) : ∀ (ws : List (Int × Int)) {s : zLs} {V : zM}, zHp D s T V → zHp D (s.1, s.2.1, ws.foldl (fun r e => (q, e.1, e.2) :: r) s.2.2) T (ws.foldl (fun V e => zwr V q e.1 e.2) V)
  | [], _, _, h => h
  | _ :: r, _, _, h => zHp_ws hq r (zHp_w h hq)
theorem zAr_nw {c n : Int} : zAr (zn T c n) (zsz T) c n := ⟨⟨Int.natCast_nonneg _, by show (T.1 : Int) < ((T.1 + 1 : Nat) : Int); omega, by show (if zsz T = (T.1 : Int) then c else zc T (zsz T)) = c; exact if_pos rfl⟩, by show (if zsz T = (T.1 : Int) then n else zl T (zsz T)) = n; exact if_pos rfl⟩
theorem zh148 (h : zHp D zs2_0 T V) (o : zO T 130 12) : zwp (zcall 148 [(2, 130)] T V) fun r T2 V2 => r = (9, 0) ∧ zHp D zs2_e T2 V2 := by
  rw [e148]
  refine zg1 (s := (zs2_0.1, zs2_0.2.1, (130, 2, -1) :: zs2_0.2.2)) (zHp_w (q := 130) (i := 2) (x := -1) h ⟨o.1, o.2.1⟩) o (b148_0 o.1 o) (fun T1 V1 y w => ev_pr (show zcode 148 14 = some (59, 17, 12, 3, []) by decide +kernel) w) (fun T V h o => ?_)
  replace h : zHp D zs2_1 T V := h
  refine zg1 (s := zs2_1) h o b148_17 (fun T1 V1 y w => ev_pr (show zcode 148 23 = some (59, 26, 12, 4, []) by decide +kernel) w) (fun T V h o => ?_)
  replace h : zHp D zs2_2 T V := h
  refine zg1 (s := zs2_2) h o b148_26 (fun T1 V1 y w => ev_pr (show zcode 148 32 = some (59, 35, 12, 5, []) by decide +kernel) w) (fun T V h o => ?_)
  replace h : zHp D zs2_3 T V := h
  refine zg1 (s := zs2_3) h o b148_35 (fun T1 V1 y w => ev_pr (show zcode 148 39 = some (59, 42, 12, 6, []) by decide +kernel) w) (fun T V h o => ?_)
  replace h : zHp D zs2_4 T V := h
  refine zg1 (s := zs2_4) h o b148_42 (fun T1 V1 y w => ev_pr (show zcode 148 48 = some (59, 51, 12, 7, []) by decide +kernel) w) (fun T V h o => ?_)
  replace h : zHp D zs2_5 T V := h
  have hz : zsz T = 136 := by rw [h.sz]; decide +kernel
  rw [b148_51, hz, b148_56 (n1 := 36) (by rw [← hz]; exact zAr_nw) (by decide) (by decide) (by decide) (by decide) (by decide) (by decide) (by decide) (by decide) (by decide) (by decide) (by decide) (by decide) (by decide) (by decide) (by decide) (by decide) (by decide) (by decide) (by decide) (by decide) (by decide) (by decide) (by decide) (by decide) (by decide) (by decide) (by decide) (by decide) (by decide) (by decide) (by decide) (by decide) (by decide) (by decide) (by decide) (by decide) (zO_nn o)]
  have h1 := zHp_n (c := 2) (n := 36) h
  rw [hz] at h1
  have b1 : (0 : Int) ≤ 136 ∧ 136 < zsz (zn T 2 36) := ⟨by decide, by rw [← hz]; exact (zO_new (k := -8) (by decide)).2.1⟩
  have b0 : (0 : Int) ≤ 130 ∧ 130 < zsz (zn T 2 36) := ⟨by decide, by omega⟩
  have h2 : zHp D zs2_6 (zqw (zn T 2 36) 130 9 136) (zwds.foldl (fun V e => zwr V 136 e.1 e.2) (zs V 136 fun _ => 0)) := by
    have h3 := zHp_ws b1 zwds h1
    have h4 := zHp_q (q := 130) (i := 9) (x := 136) h3 b0
    unfold zs2_6
    exact h4
  have o2 : zO (zqw (zn T 2 36) 130 9 136) 130 12 := zO_q (zO_nn o)
  suffices key : ∀ (T1 : zT) (V1 : zM), zHp D zs2_6 T1 V1 → zO T1 130 12 → zwp (ev 148 269 [(2, 130), (9, 0)] [] T1 V1) (fun r T2 V2 => r = (9, 0) ∧ zHp D zs2_e T2 V2) from key _ _ h2 o2
  clear h2 o2 h o h1 hz b0 b1
  intro T V h o
  refine zg1 (s := zs2_6) h o b148_269 (fun T1 V1 y w => ev_pr (show zcode 148 275 = some (59, 278, 12, 10, []) by decide +kernel) w) (fun T V h o => ?_)
  replace h : zHp D zs2_7 T V := h
  refine zg1 (s := zs2_7) h o b148_278 (fun T1 V1 y w => ev_pr (show zcode 148 282 = some (59, 285, 12, 11, []) by decide +kernel) w) (fun T V h o => ?_)
  replace h : zHp D zs2_8 T V := h
  refine zg1 (s := (zs2_8.1, zs2_8.2.1, (130, 13, -1) :: zs2_8.2.2)) (zHp_w (q := 130) (i := 13) (x := -1) h ⟨o.1, o.2.1⟩) o (b148_285 o) (fun T1 V1 y w => ev_pr (show zcode 148 296 = some (59, 299, 12, 14, []) by decide +kernel) w) (fun T V h o => ?_)
  replace h : zHp D zs2_9 T V := h
  refine zg1 (s := zs2_9) h o b148_299 (fun T1 V1 y w => ev_pr (show zcode 148 305 = some (59, 308, 12, 15, []) by decide +kernel) w) (fun T V h o => ?_)
  replace h : zHp D zs2_10 T V := h
  refine zg1 (s := zs2_10) h o b148_308 (fun T1 V1 y w => ev_pr (show zcode 148 314 = some (59, 317, 12, 16, []) by decide +kernel) w) (fun T V h o => ?_)
  replace h : zHp D zs2_11 T V := h
  refine zg1 (s := zs2_11) h o b148_317 (fun T1 V1 y w => ev_pr (show zcode 148 323 = some (59, 326, 12, 22, []) by decide +kernel) w) (fun T V h o => ?_)
  replace h : zHp D zs2_12 T V := h
  refine zg1 (s := zs2_12) h o b148_326 (fun T1 V1 y w => ev_pr (show zcode 148 332 = some (59, 335, 12, 23, []) by decide +kernel) w) (fun T V h o => ?_)
  replace h : zHp D zs2_13 T V := h
  refine zg1 (s := zs2_13) h o b148_335 (fun T1 V1 y w => ev_pr (show zcode 148 341 = some (59, 344, 12, 24, []) by decide +kernel) w) (fun T V h o => ?_)
  replace h : zHp D zs2_14 T V := h
  refine zg1 (s := zs2_14) h o b148_344 (fun T1 V1 y w => ev_pr (show zcode 148 350 = some (59, 353, 12, 28, []) by decide +kernel) w) (fun T V h o => ?_)
  replace h : zHp D zs2_15 T V := h
  refine zg1 (s := zs2_15) h o b148_353 (fun T1 V1 y w => ev_pr (show zcode 148 359 = some (59, 362, 12, 29, []) by decide +kernel) w) (fun T V h o => ?_)
  replace h : zHp D zs2_16 T V := h
  refine zg1 (s := zs2_16) h o b148_362 (fun T1 V1 y w => ev_pr (show zcode 148 366 = some (59, 369, 12, 30, []) by decide +kernel) w) (fun T V h o => ?_)
  replace h : zHp D zs2_17 T V := h
  refine zg1 (s := zs2_17) h o b148_369 (fun T1 V1 y w => ev_pr (show zcode 148 374 = some (59, 377, 12, 32, []) by decide +kernel) w) (fun T V h o => ?_)
  replace h : zHp D zs2_18 T V := h
  refine zg1 (s := zs2_18) h o b148_377 (fun T1 V1 y w => ev_pr (show zcode 148 382 = some (59, 385, 12, 33, []) by decide +kernel) w) (fun T V h o => ?_)
  replace h : zHp D zs2_19 T V := h
  refine zg1 (s := zs2_19) h o b148_385 (fun T1 V1 y w => ev_pr (show zcode 148 391 = some (59, 394, 12, 34, []) by decide +kernel) w) (fun T V h o => ?_)
  replace h : zHp D zs2_20 T V := h
  refine zg1 (s := zs2_20) h o b148_394 (fun T1 V1 y w => ev_pr (show zcode 148 399 = some (59, 402, 12, 35, []) by decide +kernel) w) (fun T V h o => ?_)
  replace h : zHp D zs2_21 T V := h
  refine zg1 (s := zs2_21) h o b148_402 (fun T1 V1 y w => ev_pr (show zcode 148 408 = some (59, 411, 12, 36, []) by decide +kernel) w) (fun T V h o => ?_)
  replace h : zHp D zs2_22 T V := h
  have p4 : zp T 130 4 = 132 := h.pt ⟨by decide, by decide +kernel⟩ (by decide +kernel)
  have a4 : zAr T 132 0 428 := h.ar 132 (by decide +kernel) (by decide +kernel)
  rw [b148_411 (n1 := 428) o (by rw [p4]; exact a4) (by decide), p4]
  refine zup (α := zM) (fun i Y => zHp D (zs2_l i.toNat) T Y) (fun i Y => zwp (ev 148 423 [(2, 130), (0, i)] [] T Y) fun r T2 V2 => r = (9, 0) ∧ zHp D zs2_e T2 V2) (lo := 0) (hi := 7) (by decide) ?_ ?_ _ (zHp_w h ⟨by decide, a4.1.2.1⟩)
  · intro Y hY
    rw [b148_423, if_pos (by decide), b148_457]
    exact zwp_ret ⟨rfl, hY⟩
  · intro i Y q1 q2 hY next
    rw [b148_423, if_neg (by omega), b148_429 (n1 := 428) o (by omega) (by rw [p4]; exact a4) (by omega) (by omega) (by omega) (by omega), p4]
    obtain ⟨j, rfl⟩ : ∃ j : Nat, i = j := ⟨i.toNat, by omega⟩
    refine next _ ?_
    rw [show ((j : Int) + 1).toNat = j + 1 by omega]
    replace hY : zHp D (zs2_l j) T Y := hY
    exact zHp_w (zHp_w hY ⟨by decide, a4.1.2.1⟩) ⟨by decide, a4.1.2.1⟩
theorem zs2_cl : zs2_e.1 = z_cl0 := by decide +kernel
theorem zs2_pt : ∀ e ∈ z_pt0, (0 ≤ e.1 ∧ e.1 < 153) ∧ zlk zs2_e.2.1 e.1 e.2.1 (-1) = e.2.2 := by decide +kernel
end MAKE2
