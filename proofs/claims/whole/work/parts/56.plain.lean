/-! the plain calls: both sides answer alike, and the invariant stands -/
def zSame (t : Nat) (kx km : Nat) (args : List zV) (n : Int) (T : zT) (V : zM) : Prop := zwp (zcall kx ((2, 0) :: args) T V) fun r T1 V1 => zwp (zcall km ((2, 130) :: args) T1 V1) fun r' T2 V2 => (∃ x, r = (t, x) ∧ r' = (t, x)) ∧ zJ (n + 1) T2 V2
section PLAIN
variable {n : Int} {T : zT} {V : zM}
theorem c26 {x : Int} (hS : zStr T) : zcall 26 [(2, 0), (0, x)] T V = some ((0, x), T, zwr V 0 17 0) := by rw [e26, b26_0 hS]
theorem c152 {x : Int} (hS : zStr T) : zcall 152 [(2, 130), (0, x)] T V = some ((0, x), T, zwr V 130 0 0) := by rw [e152, b152_0 hS]
theorem zsw24 {x : Int} {p : Nat} (h : (if (-5) ≤ x ∧ x < (-5) + ((6 : Nat) : Int) - 1 then ([79, 66, 79, 79, 53, 40] : List Nat).getD ((x - (-5)).toNat + 1) 0 else 79) = p) (hS : zStr T) : ev 24 0 [(2, 0), (0, x)] [] T V = ev 24 p [(2, 0), (0, x)] [] T (zwr V 0 17 x) := by rw [b24_0 hS, h]

theorem c24_0 (hS : zStr T) (hr : 0 ≤ V 129 0 ∧ V 129 0 ≤ 1000) : zcall 24 [(2, 0), (0, (-1))] T V = some ((0, (-1)), T, zwr (zwr V 0 17 (-1)) 129 0 (V 129 0 + 1)) := by
  rw [e24, zsw24 (p := 40) (by decide) hS]
  have e : zwr V 0 17 (-1) 129 0 = V 129 0 := by rw [zwr_ne (by decide)]
  rw [b24_40 hS (by rw [e]; omega), b24_89, e]
theorem c151_0 (hS : zStr T) (hr : 0 ≤ V 131 1 ∧ V 131 1 ≤ 1000) : zcall 151 [(2, 130), (0, (-1))] T V = some ((0, (-1)), T, zwr (zwr V 130 0 (-1)) 131 1 (V 131 1 + 1)) := by
  have e : zwr V 130 0 (-1) 131 (-(-1)) = V 131 1 := by rw [zwr_ne (by decide)]; rfl
  rw [e151, b151_0 hS (by decide) (by decide) (by rw [e]; omega), e]
  rfl
theorem zJ_r0 (h : zJ n T V) (hn : n < 1000) : zJ (n + 1) T (zwr (zwr (zwr (zwr V 0 17 (-1)) 129 0 (V 129 0 + 1)) 130 0 (-1)) 131 1 (V 131 1 + 1)) := by
  obtain ⟨⟨s1, s2, s3⟩, ⟨s4, s5, s6, s7⟩, s8, s9, s10, s11, s12⟩ := h.sc
  have ht := h.tape
  refine zJ_same h (fun r hr => ?_) ?_ ?_ ?_ ?_
  · unfold zkeep at hr
    simp (disch := omega) only [zwr_ne]
  · unfold zTape at ht ⊢
    simp (disch := decide) only [zwr_ne, zwr_same]
    exact ht
  · unfold zSc
    simp (disch := decide) only [zwr_ne, zwr_same]
    simp
    omega
  · simp (disch := decide) only [zwr_ne, zwr_same]
    simp
  · simp (disch := decide) only [zwr_ne, zwr_same]
    simp
theorem zJ_m0 (h : zJ n T V) : (0 ≤ V 129 0 ∧ V 129 0 ≤ 1000) ∧ (0 ≤ V 131 1 ∧ V 131 1 ≤ 1000) := by
  obtain ⟨s0, ⟨s4, s5, s6, s7⟩, s8, s9, s10, s11, s12⟩ := h.sc
  omega

theorem c24_1 (hS : zStr T) (hr : 0 ≤ V 129 1 ∧ V 129 1 ≤ 1000) : zcall 24 [(2, 0), (0, (-2))] T V = some ((0, (-2)), T, zwr (zwr V 0 17 (-2)) 129 1 (V 129 1 + 1)) := by
  rw [e24, zsw24 (p := 53) (by decide) hS]
  have e : zwr V 0 17 (-2) 129 1 = V 129 1 := by rw [zwr_ne (by decide)]
  rw [b24_53 hS (by rw [e]; omega), b24_89, e]
theorem c151_1 (hS : zStr T) (hr : 0 ≤ V 131 2 ∧ V 131 2 ≤ 1000) : zcall 151 [(2, 130), (0, (-2))] T V = some ((0, (-2)), T, zwr (zwr V 130 0 (-2)) 131 2 (V 131 2 + 1)) := by
  have e : zwr V 130 0 (-2) 131 (-(-2)) = V 131 2 := by rw [zwr_ne (by decide)]; rfl
  rw [e151, b151_0 hS (by decide) (by decide) (by rw [e]; omega), e]
  rfl
theorem zJ_r1 (h : zJ n T V) (hn : n < 1000) : zJ (n + 1) T (zwr (zwr (zwr (zwr V 0 17 (-2)) 129 1 (V 129 1 + 1)) 130 0 (-2)) 131 2 (V 131 2 + 1)) := by
  obtain ⟨⟨s1, s2, s3⟩, ⟨s4, s5, s6, s7⟩, s8, s9, s10, s11, s12⟩ := h.sc
  have ht := h.tape
  refine zJ_same h (fun r hr => ?_) ?_ ?_ ?_ ?_
  · unfold zkeep at hr
    simp (disch := omega) only [zwr_ne]
  · unfold zTape at ht ⊢
    simp (disch := decide) only [zwr_ne, zwr_same]
    exact ht
  · unfold zSc
    simp (disch := decide) only [zwr_ne, zwr_same]
    simp
    omega
  · simp (disch := decide) only [zwr_ne, zwr_same]
    simp
  · simp (disch := decide) only [zwr_ne, zwr_same]
    simp
theorem zJ_m1 (h : zJ n T V) : (0 ≤ V 129 1 ∧ V 129 1 ≤ 1000) ∧ (0 ≤ V 131 2 ∧ V 131 2 ≤ 1000) := by
  obtain ⟨s0, ⟨s4, s5, s6, s7⟩, s8, s9, s10, s11, s12⟩ := h.sc
  omega

theorem c24_2 (hS : zStr T) (hr : 0 ≤ V 129 2 ∧ V 129 2 ≤ 1000) : zcall 24 [(2, 0), (0, (-5))] T V = some ((0, (-5)), T, zwr (zwr V 0 17 (-5)) 129 2 (V 129 2 + 1)) := by
  rw [e24, zsw24 (p := 66) (by decide) hS]
  have e : zwr V 0 17 (-5) 129 2 = V 129 2 := by rw [zwr_ne (by decide)]
  rw [b24_66 hS (by rw [e]; omega), b24_89, e]
theorem c151_2 (hS : zStr T) (hr : 0 ≤ V 131 5 ∧ V 131 5 ≤ 1000) : zcall 151 [(2, 130), (0, (-5))] T V = some ((0, (-5)), T, zwr (zwr V 130 0 (-5)) 131 5 (V 131 5 + 1)) := by
  have e : zwr V 130 0 (-5) 131 (-(-5)) = V 131 5 := by rw [zwr_ne (by decide)]; rfl
  rw [e151, b151_0 hS (by decide) (by decide) (by rw [e]; omega), e]
  rfl
theorem zJ_r2 (h : zJ n T V) (hn : n < 1000) : zJ (n + 1) T (zwr (zwr (zwr (zwr V 0 17 (-5)) 129 2 (V 129 2 + 1)) 130 0 (-5)) 131 5 (V 131 5 + 1)) := by
  obtain ⟨⟨s1, s2, s3⟩, ⟨s4, s5, s6, s7⟩, s8, s9, s10, s11, s12⟩ := h.sc
  have ht := h.tape
  refine zJ_same h (fun r hr => ?_) ?_ ?_ ?_ ?_
  · unfold zkeep at hr
    simp (disch := omega) only [zwr_ne]
  · unfold zTape at ht ⊢
    simp (disch := decide) only [zwr_ne, zwr_same]
    exact ht
  · unfold zSc
    simp (disch := decide) only [zwr_ne, zwr_same]
    simp
    omega
  · simp (disch := decide) only [zwr_ne, zwr_same]
    simp
  · simp (disch := decide) only [zwr_ne, zwr_same]
    simp
theorem zJ_m2 (h : zJ n T V) : (0 ≤ V 129 2 ∧ V 129 2 ≤ 1000) ∧ (0 ≤ V 131 5 ∧ V 131 5 ≤ 1000) := by
  obtain ⟨s0, ⟨s4, s5, s6, s7⟩, s8, s9, s10, s11, s12⟩ := h.sc
  omega

theorem c24_3 (hS : zStr T) (hr : 0 ≤ V 129 3 ∧ V 129 3 ≤ 1000) : zcall 24 [(2, 0), (0, (-6))] T V = some ((0, (-6)), T, zwr (zwr V 0 17 (-6)) 129 3 (V 129 3 + 1)) := by
  rw [e24, zsw24 (p := 79) (by decide) hS]
  have e : zwr V 0 17 (-6) 129 3 = V 129 3 := by rw [zwr_ne (by decide)]
  rw [b24_79 hS (by rw [e]; omega), b24_89, e]
theorem c151_3 (hS : zStr T) (hr : 0 ≤ V 131 6 ∧ V 131 6 ≤ 1000) : zcall 151 [(2, 130), (0, (-6))] T V = some ((0, (-6)), T, zwr (zwr V 130 0 (-6)) 131 6 (V 131 6 + 1)) := by
  have e : zwr V 130 0 (-6) 131 (-(-6)) = V 131 6 := by rw [zwr_ne (by decide)]; rfl
  rw [e151, b151_0 hS (by decide) (by decide) (by rw [e]; omega), e]
  rfl
theorem zJ_r3 (h : zJ n T V) (hn : n < 1000) : zJ (n + 1) T (zwr (zwr (zwr (zwr V 0 17 (-6)) 129 3 (V 129 3 + 1)) 130 0 (-6)) 131 6 (V 131 6 + 1)) := by
  obtain ⟨⟨s1, s2, s3⟩, ⟨s4, s5, s6, s7⟩, s8, s9, s10, s11, s12⟩ := h.sc
  have ht := h.tape
  refine zJ_same h (fun r hr => ?_) ?_ ?_ ?_ ?_
  · unfold zkeep at hr
    simp (disch := omega) only [zwr_ne]
  · unfold zTape at ht ⊢
    simp (disch := decide) only [zwr_ne, zwr_same]
    exact ht
  · unfold zSc
    simp (disch := decide) only [zwr_ne, zwr_same]
    simp
    omega
  · simp (disch := decide) only [zwr_ne, zwr_same]
    simp
  · simp (disch := decide) only [zwr_ne, zwr_same]
    simp
theorem zJ_m3 (h : zJ n T V) : (0 ≤ V 129 3 ∧ V 129 3 ≤ 1000) ∧ (0 ≤ V 131 6 ∧ V 131 6 ≤ 1000) := by
  obtain ⟨s0, ⟨s4, s5, s6, s7⟩, s8, s9, s10, s11, s12⟩ := h.sc
  omega

theorem zJ_ok (h : zJ n T V) (hn : n < 1000) : zJ (n + 1) T V := by
  obtain ⟨s1, s4, s8, s9, s10, s11, s12⟩ := h.sc
  refine zJ_same h (fun r hr => rfl) h.tape ?_ (fun g => g) (fun g => g)
  exact ⟨s1, s4, by omega, s9, by omega, s11, by omega⟩

theorem k_status (h : zJ n T V) (hn : n < 1000) : zSame 0 147 244 [] n T V := by
  have hS := h.str
  have hN := h.ok.n
  have hE := h.sr.n
  have m0 := zJ_m0 h
  have m1 := zJ_m1 h
  have m2 := zJ_m2 h
  have m3 := zJ_m3 h
  unfold zSame
  repeat' (first
    | refine zwp_ret ?_
    | (refine zwp_ite ?_ ?_ <;> intro _)
    | simp (disch := first | decide | assumption | exact zbr _ _ | omega) only [e147, (b147_0 hS), e244, (b244_0 hS), (c24_0 hS), (c24_1 hS), (c24_2 hS), (c24_3 hS), (c151_0 hS), (c151_1 hS), (c151_2 hS), (c151_3 hS), (c26 hS), (c152 hS), Option.bind_some, zpush0, zpush1, zpush2, zpush9, zb0, ite_not, zwr_ne, zwr_same])
  all_goals refine ⟨⟨_, rfl, ?_⟩, zJ_ok h hn⟩
  rw [h.sc.1.2.2]

theorem k_spilt (h : zJ n T V) (hn : n < 1000) : zSame 0 36 161 [] n T V := by
  have hS := h.str
  have hN := h.ok.n
  have hE := h.sr.n
  have m0 := zJ_m0 h
  have m1 := zJ_m1 h
  have m2 := zJ_m2 h
  have m3 := zJ_m3 h
  unfold zSame
  repeat' (first
    | refine zwp_ret ?_
    | (refine zwp_ite ?_ ?_ <;> intro _)
    | simp (disch := first | decide | assumption | exact zbr _ _ | omega) only [e36, (b36_0 hS), e161, (b161_0 hS), (c24_0 hS), (c24_1 hS), (c24_2 hS), (c24_3 hS), (c151_0 hS), (c151_1 hS), (c151_2 hS), (c151_3 hS), (c26 hS), (c152 hS), Option.bind_some, zpush0, zpush1, zpush2, zpush9, zb0, ite_not, zwr_ne, zwr_same])
  all_goals refine ⟨⟨_, rfl, ?_⟩, zJ_ok h hn⟩
  rw [h.sc.1.2.1]

theorem k_fault (h : zJ n T V) (hn : n < 1000) : zSame 0 70 181 [] n T V := by
  have hS := h.str
  have hN := h.ok.n
  have hE := h.sr.n
  have m0 := zJ_m0 h
  have m1 := zJ_m1 h
  have m2 := zJ_m2 h
  have m3 := zJ_m3 h
  unfold zSame
  repeat' (first
    | refine zwp_ret ?_
    | (refine zwp_ite ?_ ?_ <;> intro _)
    | simp (disch := first | decide | assumption | exact zbr _ _ | omega) only [e70, (b70_0 hS), e181, (b181_0 hS), (c24_0 hS), (c24_1 hS), (c24_2 hS), (c24_3 hS), (c151_0 hS), (c151_1 hS), (c151_2 hS), (c151_3 hS), (c26 hS), (c152 hS), Option.bind_some, zpush0, zpush1, zpush2, zpush9, zb0, ite_not, zwr_ne, zwr_same])
  all_goals refine ⟨⟨_, rfl, ?_⟩, zJ_ok h hn⟩
  rw [h.sc.1.1]

theorem k_of {x1 : Int} (h : zJ n T V) (hn : n < 1000) : zSame 0 30 158 [(0, x1)] n T V := by
  have hS := h.str
  have hN := h.ok.n
  have hE := h.sr.n
  have m0 := zJ_m0 h
  have m1 := zJ_m1 h
  have m2 := zJ_m2 h
  have m3 := zJ_m3 h
  unfold zSame
  repeat' (first
    | refine zwp_ret ?_
    | (refine zwp_ite ?_ ?_ <;> intro _)
    | simp (disch := first | decide | assumption | exact zbr _ _ | omega) only [e30, (b30_0 hS), b30_8, (b30_11 hS), b30_23, b30_24, e158, (b158_0 hS), b158_5, (b158_8 hS), b158_21, b158_22, (c24_0 hS), (c24_1 hS), (c24_2 hS), (c24_3 hS), (c151_0 hS), (c151_1 hS), (c151_2 hS), (c151_3 hS), (c26 hS), (c152 hS), (c28 (st1 hS)), (c157 hS), Option.bind_some, zpush0, zpush1, zpush2, zpush9, zb0, ite_not, zwr_ne, zwr_same, hE])
  all_goals first | (refine ⟨⟨_, rfl, ?_⟩, zJ_ok h hn⟩; first | rfl | (rw [show V 2 x1 = V 132 (300 + x1) from (h.sr.wall (by omega) (by omega)).1]; done)) | (exfalso; omega)

end PLAIN
