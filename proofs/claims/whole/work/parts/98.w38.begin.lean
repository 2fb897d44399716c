/-! the start: both are made, and in step -/
def zK0 : Int → Int := fun i => if i = 427 then 8 else if 286 ≤ i ∧ i < 293 then i - 286 else if 293 ≤ i ∧ i < 300 then 1 else 0
theorem zK0_0 {i : Int} (h : i < 286 ∨ (300 ≤ i ∧ i < 427)) : zK0 i = 0 := by
  unfold zK0
  rw [if_neg (by omega), if_neg (by omega), if_neg (by omega)]
theorem zK0_m {i : Int} (h1 : 0 ≤ i) (h2 : i < 7) : zK0 (286 + i) = i := by
  unfold zK0
  rw [if_neg (by omega), if_pos (by omega)]
  omega
theorem zK0_c {i : Int} (h1 : 0 ≤ i) (h2 : i < 7) : zK0 (293 + i) = 1 := by
  unfold zK0
  rw [if_neg (by omega), if_neg (by omega), if_pos (by omega)]
theorem zK0_ok : zKok zK0 := by
  refine ⟨by decide, fun c c1 c2 => ?_, fun i i1 i2 => ?_, fun t l t1 t2 l1 l2 => ?_, fun t t1 t2 => ?_, fun t w t1 t2 w1 w2 => ?_, fun t w i t1 t2 w1 w2 i1 i2 => ?_, fun t i t1 t2 i1 i2 => ?_, fun t i t1 t2 i1 i2 => ?_, by decide, fun y f y1 y2 f1 f2 => ?_⟩
  · rw [zK0_0 (by omega), zK0_0 (by omega)]; decide
  · rw [zK0_m i1 i2, zK0_c i1 i2]; omega
  · rw [zK0_0 (i := 3 * (26 * t + l)) (by omega)]
    exact ⟨Or.inl rfl, fun z => absurd z (by decide)⟩
  · rw [zK0_0 (i := 284 + t) (by omega), zK0_0 (i := 364 + t) (by omega), zK0_0 (i := 374 + t) (by omega)]; decide
  · rw [zK0_0 (i := 284 + t) (by omega)] at w2
    omega
  · rw [zK0_0 (by omega)]; decide
  · rw [zK0_0 (by omega)]; decide
  · rw [zK0_0 (by omega)]; decide
  · rw [zK0_0 (by omega)]; decide
theorem zlk_no : ∀ {r : List (Int × Int × Int)} {a k d : Int}, (∀ e ∈ r, e.1 ≠ a) → zlk r a k d = d
  | [], _, _, _, _ => rfl
  | e :: r, a, k, d, h => by
    have h1 := h e List.mem_cons_self
    rw [zlk, if_neg (fun z => h1 z.1.symm)]
    exact zlk_no (fun x hx => h x (List.mem_cons_of_mem _ hx))
theorem zs1_v : ∀ e ∈ zs1_e.2.2, e.1 = 0 ∨ e.1 = 1 ∨ e.1 = 4 ∨ e.1 = 5 ∨ e.1 = 28 ∨ e.1 = 31 ∨ e.1 = 32 ∨ e.1 = 58 := by decide +kernel
theorem zs2_v : ∀ e ∈ zs2_e.2.2, e.1 = 130 ∨ e.1 = 132 ∨ e.1 = 136 := by decide +kernel
theorem zs1_len : zs1_e.1.length = 130 := by decide +kernel
theorem zs2_len : zs2_e.1.length = 153 := by decide +kernel
theorem zs1_mir : ∀ i : Nat, i < 7 → zlk zs1_e.2.2 4 (i : Int) 0 = (i : Int) + 1 ∧ zlk zs1_e.2.2 5 (i : Int) 0 = 1 := by decide +kernel
theorem zs2_k0 : ∀ i : Nat, i < 428 → zlk zs2_e.2.2 132 (i : Int) 0 = zK0 (i : Int) := by decide +kernel
theorem zs2_wd : ∀ j : Nat, j < 36 → zlk zs2_e.2.2 136 (j : Int) 0 = zwords.getD j 0 := by decide +kernel
theorem zs2_sl : zsls zs2_e.1 = 983018 := by decide +kernel
section START
variable {D V : zM} {T : zT}
theorem zV1 (h : zHp (fun _ _ => 0) zs1_e T V) {a k : Int} (h1 : 0 ≤ a ∧ a < 130) (h2 : a ≠ 0 ∧ a ≠ 1 ∧ a ≠ 4 ∧ a ≠ 5 ∧ a ≠ 28 ∧ a ≠ 31 ∧ a ≠ 32 ∧ a ≠ 58) : V a k = 0 := by
  rw [h.num k ⟨h1.1, by rw [zs1_len]; omega⟩]
  exact zlk_no (fun e he z => by have := zs1_v e he; omega)
theorem zV2 (h : zHp D zs2_e T V) {a k : Int} (h1 : 0 ≤ a ∧ a < 153) (h2 : a ≠ 130 ∧ a ≠ 132 ∧ a ≠ 136) : V a k = D a k := by
  rw [h.num k ⟨h1.1, by rw [zs2_len]; omega⟩]
  exact zlk_no (fun e he z => by have := zs2_v e he; omega)
theorem zV1_sr (h : zHp (fun _ _ => 0) zs1_e T V) : zSR V 1 zK0 := by
  have n : ∀ a k : Int, a = 2 ∨ a = 3 ∨ (6 ≤ a ∧ a ≤ 27) → V a k = 0 := fun a k ha => zV1 h (by omega) (by omega)
  have tg : ∀ b t : Int, (b = 6 ∧ t = 0) ∨ (b = 14 ∧ t = 1) → zTg V b zK0 t := by
    intro b t ht
    refine ⟨fun l l1 l2 => ?_, fun l l1 l2 z => ?_, fun w w1 w2 => ⟨?_, ?_⟩, fun w i w1 w2 i1 i2 => ?_, fun i i1 i2 => ?_, fun i i1 i2 => ?_, ?_, ?_, ?_⟩
    · rw [n _ _ (by omega), zK0_0 (i := 3 * (26 * t + l)) (by omega), if_neg (by decide)]
    · rw [zK0_0 (by omega)] at z
      exact absurd z (by decide)
    · rw [n _ _ (by omega), zK0_0 (by omega)]
    · rw [n _ _ (by omega), zK0_0 (by omega)]
    · rw [n _ _ (by omega), zK0_0 (by omega)]
    · rw [n _ _ (by omega), zK0_0 (by omega)]
    · rw [n _ _ (by omega), zK0_0 (by omega)]
    · rw [n _ _ (by omega), zK0_0 (by omega)]
    · rw [n _ _ (by omega), zK0_0 (by omega)]
    · rw [n _ _ (by omega), zK0_0 (by omega)]
  refine ⟨?_, fun c c1 c2 => ⟨?_, ?_⟩, fun i i1 i2 => ?_, tg 6 0 (by decide), tg 14 1 (by decide), ?_, fun y y1 y2 => ⟨?_, ?_, ?_, ?_, ?_⟩⟩
  · rw [h.num 0 ⟨by decide, by rw [zs1_len]; decide⟩]
    decide +kernel
  · rw [n _ _ (by omega), zK0_0 (by omega)]
  · rw [n _ _ (by omega), zK0_0 (by omega)]
  · obtain ⟨j, rfl⟩ : ∃ j : Nat, i = j := ⟨i.toNat, by omega⟩
    have m := zs1_mir j (by omega)
    rw [zK0_m i1 i2, zK0_c i1 i2]
    refine ⟨?_, ?_⟩
    · show V 4 (j : Int) = _
      rw [h.num _ ⟨by decide, by rw [zs1_len]; decide⟩]
      exact m.1
    · show V 5 (j : Int) = _
      rw [h.num _ ⟨by decide, by rw [zs1_len]; decide⟩]
      exact m.2
  · rw [n _ _ (by omega)]; decide
  · rw [n _ _ (by omega), zK0_0 (by omega)]
  · rw [n _ _ (by omega), zK0_0 (by omega)]
  · rw [n _ _ (by omega), zK0_0 (by omega)]
  · rw [n _ _ (by omega), zK0_0 (by omega)]
  · rw [n _ _ (by omega), zK0_0 (by omega)]
theorem zPL_0 {b : Int} (h : ∀ a k : Int, b ≤ a → a ≤ b + 5 → V a k = 0) : zPL V b := by
  refine ⟨?_, fun i i1 i2 => ?_, fun p p1 p2 z => ?_⟩
  · rw [h b 5 (by omega) (by omega)]; decide
  · rw [h b 5 (by omega) (by omega)] at i2; omega
  · exact absurd (h _ _ (by omega) (by omega)) z
theorem zs2_str (h : zHp D zs2_e T V) : zStr T := by
  refine ⟨by rw [h.sz, zs2_len]; decide, fun i hi => ?_, fun i e he => ?_⟩
  · have a := h.2.2.1 i (by rw [zs2_len]; exact hi)
    rw [zs2_cl] at a
    exact a
  · have a := zs2_pt e (List.mem_of_getElem? he)
    exact h.pt ⟨a.1.1, by rw [zs2_len]; exact a.1.2⟩ a.2
theorem zs2_ly (h : zHp D zs2_e T V) : zLy T 95 95 16 ∧ zLy T 103 103 16 := by
  have p : ∀ a k : Int, 0 ≤ a ∧ a < 153 → zp T a k = zlk zs2_e.2.1 a k (-1) := fun a k ha => h.pt ⟨ha.1, by rw [zs2_len]; exact ha.2⟩ rfl
  have u : ∀ k : Int, zp T 95 k = zlk zs2_e.2.1 95 k (-1) := fun k => p 95 k (by decide)
  have v : ∀ k : Int, zp T 103 k = zlk zs2_e.2.1 103 k (-1) := fun k => p 103 k (by decide)
  have ar : ∀ (i : Nat) (c n : Int), i < 153 → z_cl0.getD i (0, 0) = (c, n) → zAr T (i : Int) c n := fun i c n hi e => h.ar i (by rw [zs2_len]; exact hi) (by rw [zs2_cl]; exact e)
  have s : zsz T = 153 := by rw [h.sz, zs2_len]; rfl
  have u1 : zp T 95 1 = 96 := (u 1).trans (by decide +kernel)
  have u2 : zp T 95 2 = 97 := (u 2).trans (by decide +kernel)
  have u3 : zp T 95 3 = 98 := (u 3).trans (by decide +kernel)
  have u4 : zp T 95 4 = 99 := (u 4).trans (by decide +kernel)
  have u5 : zp T 95 5 = 100 := (u 5).trans (by decide +kernel)
  have u6 : zp T 95 6 = 101 := (u 6).trans (by decide +kernel)
  have u7 : zp T 95 7 = 102 := (u 7).trans (by decide +kernel)
  have v1 : zp T 103 1 = 104 := (v 1).trans (by decide +kernel)
  have v2 : zp T 103 2 = 105 := (v 2).trans (by decide +kernel)
  have v3 : zp T 103 3 = 106 := (v 3).trans (by decide +kernel)
  have v4 : zp T 103 4 = 107 := (v 4).trans (by decide +kernel)
  have v5 : zp T 103 5 = 108 := (v 5).trans (by decide +kernel)
  have v6 : zp T 103 6 = 109 := (v 6).trans (by decide +kernel)
  have v7 : zp T 103 7 = 110 := (v 7).trans (by decide +kernel)
  refine ⟨⟨⟨h.o 95 (by rw [zs2_len]; decide) (by rw [zs2_cl]; rfl), ?_⟩, ⟨u1, u2, u3, u4, u5, u6, u7⟩, Or.inl rfl, by rw [s]; decide, by decide⟩, ⟨⟨h.o 103 (by rw [zs2_len]; decide) (by rw [zs2_cl]; rfl), ?_⟩, ⟨v1, v2, v3, v4, v5, v6, v7⟩, Or.inl rfl, by rw [s]; decide, by decide⟩⟩
  · rw [u1, u2, u3, u4, u5, u6, u7]
    exact ⟨ar 96 0 16 (by decide) rfl, ar 97 0 16 (by decide) rfl, ar 98 1 16 (by decide) rfl, ar 99 0 16 (by decide) rfl, ar 100 1 16 (by decide) rfl, ar 101 1 16 (by decide) rfl, ar 102 0 16 (by decide) rfl⟩
  · rw [v1, v2, v3, v4, v5, v6, v7]
    exact ⟨ar 104 0 16 (by decide) rfl, ar 105 0 16 (by decide) rfl, ar 106 1 16 (by decide) rfl, ar 107 0 16 (by decide) rfl, ar 108 1 16 (by decide) rfl, ar 109 1 16 (by decide) rfl, ar 110 0 16 (by decide) rfl⟩
theorem zs2_geo (h : zHp D zs2_e T V) : zGeo T V := by
  have p : ∀ a k : Int, 0 ≤ a ∧ a < 153 → zp T a k = zlk zs2_e.2.1 a k (-1) := fun a k ha => h.pt ⟨ha.1, by rw [zs2_len]; exact ha.2⟩ rfl
  have i0 : zp T 55 0 = -1 := (p 55 0 (by decide)).trans (by decide +kernel)
  have i1 : zp T 55 1 = -1 := (p 55 1 (by decide)).trans (by decide +kernel)
  have l := zs2_ly h
  refine ⟨95, 103, 95, 103, 16, 16, 111, 0, ⟨(p 78 2 (by decide)).trans (by decide +kernel), (p 78 3 (by decide)).trans (by decide +kernel), (p 78 4 (by decide)).trans (by decide +kernel)⟩, Or.inl ⟨rfl, rfl⟩, l.1, l.2, h.ar 111 (by rw [zs2_len]; decide) (by rw [zs2_cl]; rfl), Or.inl rfl, by decide, fun j j1 j2 => by omega, by unfold zap; decide, fun k hk z => ?_, fun z => ?_, ?_, ?_⟩
  · rcases hk with rfl | rfl
    · rw [i0] at z; exact absurd z (by decide)
    · rw [i1] at z; exact absurd z (by decide)
  · rw [i0] at z; exact absurd z (by decide)
  · rw [i0, i1, h.2.1, zs2_sl]; decide
  · rw [i0, i1, h.sz, zs2_len]; decide
end START
