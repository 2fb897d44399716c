/-! opening a place in a layer -/
def zOpn (V V' : zM) (q g e w : Int) : Prop := (∀ r, r ≠ q → r < g + 1 ∨ g + 7 < r → V' r = V r) ∧ (∀ j, V' q j = if j = 0 then V q 0 + 1 else V q j) ∧ (∀ k, 1 ≤ k → k ≤ 7 → ∀ j, j ≠ V q 0 → V' (g + k) j = V (g + k) j) ∧ V' (g + 1) (V q 0) = e ∧ V' (g + 2) (V q 0) = w ∧ V' (g + 3) (V q 0) = 0 ∧ V' (g + 4) (V q 0) = 1000000 ∧ V' (g + 5) (V q 0) = 0 ∧ V' (g + 6) (V q 0) = 0 ∧ V' (g + 7) (V q 0) = 0
section OPEN
variable {T : zT} {V : zM} {q g n e w : Int}
theorem c107a (h : zRw T q g n) (hq : q ≤ g) (hL : 0 ≤ V q 0 ∧ V q 0 < n) (hn : n ≤ 1000000) : ∃ V', ev 107 22 [(2, q), (0, e), (0, w), (9, 0)] [] T V = some ((0, V q 0), T, V') ∧ zOpn V V' q g e w := by
  have hl := zRw_L h
  have p1 := (h.2 1 (by decide) (by decide)).1
  have p2 := (h.2 2 (by decide) (by decide)).1
  obtain ⟨L, hl0⟩ : ∃ L, V q 0 = L := ⟨_, rfl⟩
  rw [b107_22 hl (by omega) hL, p1, p2, c111 h hL]
  simp only [Option.bind_some, zpush9]
  rw [b107_56]
  refine ⟨_, rfl, ?_⟩
  rw [hl0]
  rw [hl0] at hL
  have s7 : ∀ (W : zM) (v : Int) (j : Int), zwr W (g + 7) L v (g + 7) j = if j = L then v else W (g + 7) j := fun W v j => zwr_same
  refine ⟨fun r h1 h2 => ?_, fun j => ?_, fun k k1 k2 j hj => ?_, ?_, ?_, ?_, ?_, ?_, ?_, ?_⟩
  · rw [zwr_ne (by omega), zwr_ne (by omega), zwr_ne (by omega), zwr_ne (by omega), zwr_ne (by omega), zwr_ne (by omega), zwr_ne (by omega), zwr_ne h1]
  · rw [zwr_ne (by omega), zwr_ne (by omega), zwr_ne (by omega), zwr_ne (by omega), zwr_ne (by omega), zwr_ne (by omega), zwr_ne (by omega), zwr_same, hl0]
  · rw [hl0] at hj
    have x : ∀ (W : zM) (y v : Int), zwr W y L v (g + k) j = W (g + k) j := fun W y v => by
      by_cases e : g + k = y
      · subst e; rw [zwr_same, if_neg hj]
      · rw [zwr_ne e]
    rw [x, x, x, x, x, x, x, zwr_ne (by omega)]
  · rw [zwr_ne (by omega), zwr_ne (by omega), zwr_ne (by omega), zwr_ne (by omega), zwr_ne (by omega), zwr_ne (by omega), zwr_same, if_pos hl0]
  · rw [zwr_ne (by omega), zwr_ne (by omega), zwr_ne (by omega), zwr_ne (by omega), zwr_ne (by omega), zwr_same, if_pos hl0]
  · rw [zwr_ne (by omega), zwr_ne (by omega), zwr_ne (by omega), zwr_ne (by omega), zwr_same, if_pos hl0]
  · rw [zwr_ne (by omega), zwr_ne (by omega), zwr_ne (by omega), zwr_same, if_pos hl0]
  · rw [zwr_ne (by omega), zwr_ne (by omega), zwr_same, if_pos hl0]
  · rw [zwr_ne (by omega), zwr_same, if_pos hl0]
  · rw [zwr_same, if_pos hl0]
/-- the layer afterwards -/
def zOp (T : zT) (V : zM) (q g n e w : Int) (T' : zT) (V' : zM) (g' n' : Int) : Prop := zRw T' q g' n' ∧ V q 0 < n' ∧ zHx T T' (fun x k => x = q ∧ 1 ≤ k ∧ k ≤ 7) ∧ ((T' = T ∧ g' = g ∧ n' = n) ∨ (V q 0 = n ∧ n' = 2 * n ∧ g' = zsz T - 1 ∧ zsz T' = zsz T + 7 ∧ (T'.2.1 : Int) = T.2.1 + 14 * n)) ∧ (∀ r, r < zsz T → r ≠ q → r < g + 1 ∨ g + 7 < r → V' r = V r) ∧ (∀ j, V' q j = if j = 0 then V q 0 + 1 else V q j) ∧ (∀ k, 1 ≤ k → k ≤ 7 → ∀ j, 0 ≤ j → j < V q 0 → V' (g' + k) j = V (g + k) j) ∧ V' (g' + 1) (V q 0) = e ∧ V' (g' + 2) (V q 0) = w ∧ V' (g' + 3) (V q 0) = 0 ∧ V' (g' + 4) (V q 0) = 1000000 ∧ V' (g' + 5) (V q 0) = 0 ∧ V' (g' + 6) (V q 0) = 0 ∧ V' (g' + 7) (V q 0) = 0
theorem c107 (h : zRw T q g n) (hq : q ≤ g) (hL : 0 ≤ V q 0 ∧ V q 0 ≤ n) (hn : 16 ≤ n ∧ n ≤ 80000) : ∃ T' V' g' n', zcall 107 [(2, q), (0, e), (0, w)] T V = some ((0, V q 0), T', V') ∧ zOp T V q g n e w T' V' g' n' := by
  have hl := zRw_L h
  have hqs := h.1.2.1
  have hgs := (h.2 7 (by decide) (by decide)).2.1.2.1
  rw [e107, b107_0 hl]
  by_cases c : V q 0 < n
  · rw [if_pos c]
    obtain ⟨V', e1, a1, a2, a3, a4⟩ := c107a (e := e) (w := w) h hq ⟨hL.1, c⟩ (by omega)
    exact ⟨T, V', g, n, e1, h, c, zHx_r T _, Or.inl ⟨rfl, rfl, rfl⟩, fun r _ r1 r2 => a1 r r1 r2, a2, fun k k1 k2 j _ j2 => a3 k k1 k2 j (by omega), a4⟩
  · have hL2 : V q 0 = n := by omega
    rw [if_neg c, b107_12 hl (by omega), hL2]
    obtain ⟨T1, V1, e1, x1, x2, x3, x4, x5, x6, x7⟩ := c108 (V := V) h hn
    rw [e1]
    simp only [Option.bind_some, zpush9]
    have r1 : zRw T1 q (zsz T - 1) (2 * n) := ⟨zO_x x1 h.1, x4⟩
    have v0 : V1 q = V q := x6 q hqs
    obtain ⟨V', e2, a1, a2, a3, a4⟩ := c107a (V := V1) (e := e) (w := w) r1 (by omega) (by rw [v0]; omega) (by omega)
    rw [e2, v0, hL2]
    rw [v0] at a2 a3 a4
    rw [hL2] at a3 a4
    refine ⟨T1, V', zsz T - 1, 2 * n, rfl, r1, by omega, x1, Or.inr ⟨hL2, rfl, rfl, x2, by rw [x3]; omega⟩, fun r z1 z2 z3 => ?_, a2, fun k k1 k2 j j1 j2 => ?_, ?_⟩
    · rw [a1 r z2 (by omega), x6 r z1]
    · rw [a3 k k1 k2 j (by omega), x7 k k1 k2 j j1 (by omega)]
    · rw [hL2]; exact a4
end OPEN
