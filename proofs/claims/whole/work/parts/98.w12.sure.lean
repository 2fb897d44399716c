/-! sure, both sides -/
section SURE2
variable {n : Int} {T : zT} {V : zM}
theorem k_sure {x1 x2 : Int} (h : zJ n T V) (hn : n < 1000) : zSame 0 129 233 [(0, x1), (0, x2)] n T V := by
  have hS := h.str
  have hN := h.ok.n
  have e1 := h.sr.n
  have c150 : ∀ T V, zcall 150 [(0, x2), (0, 0), (0, 2)] T V = some ((0, if 0 ≤ x2 ∧ x2 ≤ 2 then 1 else 0), T, V) := fun T V => c150
  unfold zSame
  rw [e129, b129_0 hS, c28 (st1 hS), e1]
  simp only [Option.bind_some, zpush0]
  rw [b129_8]
  by_cases c : 0 ≤ x1 ∧ x1 < V 132 427
  · rw [if_pos c, if_neg (by decide), b129_11]
    by_cases c2 : 0 ≤ x2 ∧ x2 ≤ 2
    · obtain ⟨r1, T1, V1, a1, a2, a3, a4, a5, a6⟩ := c125 (cell := x1) (st := 0) h
      subst a2
      have hS1 := a3.str
      obtain ⟨a6, a7⟩ := a6 c
      rw [← a4] at a5 a7 c
      have hN1 := a3.ok.n
      obtain ⟨r2, T2, V2, b1, b2, b3, b4, b5⟩ := c230 hS1 a3.ok
      subst b2
      rw [b3] at b1
      have ew : zW (zkc (V1 132)) 1 (zAl (V1 132) (V1 132 427) x1 0) (V1 132 427).toNat 0 0 = zW (zkc (V1 132)) 1 (zAm (V1 132) (V1 132 427) (-1) 0 0) (V1 132 427).toNat 0 0 := zW_congr (fun c s c1 c2 _ _ => ⟨fun z => ⟨z.1, fun y => by omega⟩, fun z => ⟨z.1, fun _ => zand_z s⟩⟩) 0 0
      rw [← ew, ← a5] at b1
      have wl := (a3.sr.wall (c := x1) c.1 (by omega)).2
      have w3 : V1 3 x1 = V1 132 (316 + x1) := wl
      have wr := (a3.ok.wall (c := x1) c.1 (by omega)).2
      have wp := zW_pos (zkc (V1 132)) 1 (zAl (V1 132) (V1 132 427) x1 0) (V1 132 427).toNat 0 0
      rw [if_neg (by omega), b129_15, if_pos (by omega), b129_22 hS, a1]
      simp only [Option.bind_some, zpush9]
      rw [b129_28 hS1]
      have start : ∀ Q, zwp (ev 233 21 [(2, 130), (0, x1), (0, x2), (9, 0), (9, 0), (9, 0), (9, 0)] [(1, V1 123 0)] T1 V2) Q → zwp (zcall 233 [(2, 130), (0, x1), (0, x2)] T1 V1) Q := fun Q hq => by
        rw [e233, b233_0 hS1, c157 hS1 (by omega), if_pos c]
        simp only [Option.bind_some, zpush0]
        rw [b233_5, if_neg (by decide), b233_8, c150, if_pos c2]
        simp only [Option.bind_some, zpush0]
        rw [b233_14, if_neg (by decide), b233_17 hS1, b1]
        simp only [Option.bind_some, zpush1]
        exact hq
      by_cases c3 : V1 123 0 = 0
      · rw [if_pos c3, b129_42]
        refine zwp_ret (start _ ?_)
        rw [b233_21, if_pos c3, b233_26]
        exact zwp_ret ⟨⟨_, rfl, rfl⟩, zJ_mw a3 hn b4 b5⟩
      · obtain ⟨r4, T4, V4, d1, ⟨x, d2, d3, d4⟩, d5, d6, d7⟩ := c233 (V := V1) (x1 := x1) (x2 := x2) hS1 a3.ok c c2 V2 ⟨b4, b5⟩
        subst d2
        rw [d5] at d1
        have may : 0 < zW (zkc (V1 132)) 1 (zAl (V1 132) (V1 132 427) x1 0) (V1 132 427).toNat 0 0 := by omega
        have model : ∀ y, y = x → zwp (zcall 233 [(2, 130), (0, x1), (0, x2)] T1 V1) fun r' T2 V2 => (∃ x, ((0, y) : zV) = (0, x) ∧ r' = (0, x)) ∧ zJ (n + 1) T2 V2 := fun y hy => by
          refine start _ ?_
          rw [b233_21, if_neg c3, b233_28, d1]
          exact zwp_ret ⟨⟨x, by rw [hy], rfl⟩, zJ_mw a3 hn d6 d7⟩
        -- the bits of the class
        have sj : ∀ j : Nat, j < 7 → (zbt (zand (V1 127 0) 127) j ↔ 0 < zW (zkc (V1 132)) 1 (zAm (V1 132) (V1 132 427) x1 (j : Int) 1) (V1 132 427).toNat 0 0) := fun j hj => by
          rw [zand_bt (by omega), a7 j (by omega), zB_can hj]
          exact ⟨fun z => z.1, fun z => ⟨z, z127 hj⟩⟩
        have nj : ∀ j : Nat, j < 7 → (zbt (zand (V1 127 0 / 128) 127) j ↔ 0 < zW (zkc (V1 132)) 1 (zAm (V1 132) (V1 132 427) x1 (j : Int) 0) (V1 132 427).toNat 0 0) := fun j hj => by
          rw [zand_bt (by omega), show (128 : Int) = 2 ^ 7 by decide, zbt_shr, a7 (7 + j) (by omega), zB_not hj]
          exact ⟨fun z => z.1, fun z => ⟨z, z127 hj⟩⟩
        have two : ∀ j : Nat, 0 < zW (zkc (V1 132)) 1 (zAm (V1 132) (V1 132 427) x1 (j : Int) 1) (V1 132 427).toNat 0 0 ∨ 0 < zW (zkc (V1 132)) 1 (zAm (V1 132) (V1 132 427) x1 (j : Int) 0) (V1 132 427).toNat 0 0 := fun j => zA_two (by omega) may
        obtain ⟨S, hSd⟩ : ∃ S, zand (V1 127 0) 127 = S := ⟨_, rfl⟩
        obtain ⟨U, hUd⟩ : ∃ U, zand (V1 127 0 / 128) 127 = U := ⟨_, rfl⟩
        rw [hSd] at sj
        rw [hUd] at nj
        rw [if_neg c3, b129_44 hS1, hSd, hUd]
        have i1 := zand_n (x := V1 132 (316 + x1)) (y := S) wr.1 (by omega)
        have i2 := zand_n (x := zand (V1 132 (316 + x1)) S) (y := zxor U (-1)) i1.1 (by omega)
        have i3 := zand_n (x := V1 132 (316 + x1)) (y := U) wr.1 (by omega)
        by_cases q0 : x2 = 0
        · rw [if_pos q0, b129_78 hS1 (by omega), w3]
          refine zwp_ret (model _ ?_)
          refine zbt_ext 7 i2.1 (by omega) d3.1 d3.2 (fun j hj => ?_)
          rw [d4 j hj, zand_bt (by omega), zand_bt (by omega), zxor_bt (by omega), sj j hj, nj j hj]
          constructor
          · rintro ⟨⟨z1, z2⟩, z3⟩
            exact ⟨z1, Or.inl ⟨q0, z3⟩⟩
          · rintro ⟨z1, (z2 | z2 | z2)⟩
            · exact ⟨⟨z1, (two j).elim id (fun z => absurd z z2.2)⟩, z2.2⟩
            · omega
            · omega
        · rw [if_neg q0, b129_95 hS1 (by omega), w3]
          by_cases q1 : x2 = 1
          · have i4 := zand_n (x := zand (V1 132 (316 + x1)) U) (y := zxor S (-1)) i3.1 (by omega)
            rw [if_pos q1, b129_112, b129_119]
            refine zwp_ret (model _ ?_)
            refine zbt_ext 7 i4.1 (by omega) d3.1 d3.2 (fun j hj => ?_)
            rw [d4 j hj, zand_bt (by omega), zand_bt (by omega), zxor_bt (by omega), sj j hj, nj j hj]
            constructor
            · rintro ⟨⟨z1, z2⟩, z3⟩
              exact ⟨z1, Or.inr (Or.inl ⟨q1, z3⟩)⟩
            · rintro ⟨z1, (z2 | z2 | z2)⟩
              · omega
              · exact ⟨⟨z1, (two j).elim (fun z => absurd z z2.2) id⟩, z2.2⟩
              · omega
          · have i4 := zand_n (x := zand (V1 132 (316 + x1)) U) (y := S) i3.1 (by omega)
            rw [if_neg q1, b129_118, b129_119]
            refine zwp_ret (model _ ?_)
            refine zbt_ext 7 i4.1 (by omega) d3.1 d3.2 (fun j hj => ?_)
            rw [d4 j hj, zand_bt (by omega), zand_bt (by omega), sj j hj, nj j hj]
            constructor
            · rintro ⟨⟨z1, z2⟩, z3⟩
              exact ⟨z1, Or.inr (Or.inr ⟨by omega, z3, z2⟩)⟩
            · rintro ⟨z1, (z2 | z2 | z2)⟩
              · omega
              · omega
              · exact ⟨⟨z1, z2.2.2⟩, z2.2.1⟩
    · have fin : zwp (some (((0, -1), T, V) : zV × zH)) fun r T1 V1 => zwp (zcall 233 [(2, 130), (0, x1), (0, x2)] T1 V1) fun r' T2 V2 => (∃ x, r = (0, x) ∧ r' = (0, x)) ∧ zJ (n + 1) T2 V2 := by
        refine zwp_ret ?_
        rw [e233, b233_0 hS, c157 hS (by omega), if_pos c]
        simp only [Option.bind_some, zpush0]
        rw [b233_5, if_neg (by decide), b233_8, c150, if_neg c2]
        simp only [Option.bind_some, zpush0]
        rw [b233_14, if_pos rfl, b233_26]
        exact zwp_ret ⟨⟨_, rfl, rfl⟩, zJ_ok h hn⟩
      by_cases c3 : x2 < 0
      · rw [if_pos c3, b129_20]; exact fin
      · rw [if_neg c3, b129_15, if_neg (by omega), b129_20]; exact fin
  · rw [if_neg c, if_pos rfl, b129_20]
    refine zwp_ret ?_
    rw [e233, b233_0 hS, c157 hS (by omega), if_neg c]
    simp only [Option.bind_some, zpush0]
    rw [b233_5, if_pos rfl, b233_26]
    exact zwp_ret ⟨⟨_, rfl, rfl⟩, zJ_ok h hn⟩
end SURE2
