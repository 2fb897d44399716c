/-! the law: what each command does to the two -/
section LAW
variable {n x3 : Int} {T : zT} {V : zM} {Q : zV → zT → zM → Prop}
theorem zO_fr {T1 : zT} {V1 : zM} {q c : Int} (h : zO T q c) (hf : zFrx T V (T1, V1)) : zO T1 q c := by
  obtain ⟨h1, h2, h3⟩ := h
  have h2 : q < (T.1 : Int) := h2
  have h4 : T.1 ≤ T1.1 := hf.2.1
  refine ⟨h1, ?_, ?_⟩
  · show q < (T1.1 : Int)
    omega
  · rw [(hf.2.2 q h2).2, h3]
theorem zl_fr {T1 : zT} {V1 : zM} (hf : zFrx T V (T1, V1)) : zl T1 (-2) = zl T (-2) := (hf.2.2 (-2) (by omega)).1
theorem zlaw1 {p0 p1 p2 kx km t : Nat} {args l : List zV} (ht : t = 0 ∨ t = 1)
    (e0 : ev 0 p0 l [] T V = (zcall kx ((2, 0) :: args) T V).bind fun x => ev 0 p1 l (z_push x.1 []) x.2.1 x.2.2)
    (e1 : ∀ (T1 : zT) (V1 : zM) (y : Int), V1 (-2) = V (-2) → zl T1 (-2) = zl T (-2) → zO T1 130 12 → ev 0 p1 l [(t, y)] T1 V1 = (zcall km ((2, 130) :: args) T1 V1).bind fun x => ev 0 p2 l (z_push x.1 [(t, y)]) x.2.1 x.2.2)
    (e2 : ∀ (T2 : zT) (V2 : zM) (y : Int), ev 0 p2 l [(t, y), (t, y)] T2 V2 = ev 0 1271 l [] T2 V2)
    (hS : zStr T) (hk : zSame t kx km args n T V) (next : ∀ (T2 : zT) (V2 : zM), zJ (n + 1) T2 V2 → zFrx T V (T2, V2) → zwp (ev 0 1271 l [] T2 V2) Q) : zwp (ev 0 p0 l [] T V) Q := by
  obtain ⟨r, T1, V1, h1, r', T2, V2, h2, ⟨y, h3, h4⟩, h5⟩ := hk
  have f1 := fr_zcall h1
  have f2 := fr_zcall h2
  have f12 : zFrx T V (T2, V2) := zFrx_tr f1 f2
  rw [e0, h1]
  have hp : ∀ st, z_push (t, y) st = (t, y) :: st := fun st => by
    rcases ht with e | e <;> rw [e] <;> rfl
  simp only [Option.bind_some]
  rw [h3, hp, e1 T1 V1 y (f1.1 (-2) (by decide)) (zl_fr f1) (zO_fr (zso hS 130 (by decide) rfl) f1), h2]
  simp only [Option.bind_some]
  rw [h4, hp, e2]
  exact next T2 V2 h5 f12
theorem zl_208 (h : zJ n T V) (hn : n < 1000) (hi : 0 ≤ x3 ∧ x3 ≤ zl T (-2) - 6) (hl : zl T (-2) ≤ 3072) (hf : ∀ j, z32 (V (-2) j)) (next : ∀ (T2 : zT) (V2 : zM), zJ (n + 1) T2 V2 → zFrx T V (T2, V2) → zwp (ev 0 1271 [(4, 0), (2, 0), (2, 130), (0, x3)] [] T2 V2) Q) : zwp (ev 0 208 [(4, 0), (2, 0), (2, 130), (0, x3)] [] T V) Q := by
  have hS := h.str
  have s0 : zO T 0 11 := so0 hS
  exact zlaw1 (t := 0) (by decide) (b0_208 (by omega) (by omega) s0) (fun T1 V1 y a1 a2 a3 => by rw [b0_217 (by omega) (by rw [a2]; omega) a3, a1]) (fun T2 V2 y => by rw [b0_226, if_pos rfl]) hS (k_size h hn (hf _)) next
theorem zl_231 (h : zJ n T V) (hn : n < 1000) (hi : 0 ≤ x3 ∧ x3 ≤ zl T (-2) - 6) (hl : zl T (-2) ≤ 3072) (hf : ∀ j, z32 (V (-2) j)) (next : ∀ (T2 : zT) (V2 : zM), zJ (n + 1) T2 V2 → zFrx T V (T2, V2) → zwp (ev 0 1271 [(4, 0), (2, 0), (2, 130), (0, x3)] [] T2 V2) Q) : zwp (ev 0 231 [(4, 0), (2, 0), (2, 130), (0, x3)] [] T V) Q := by
  have hS := h.str
  have s0 : zO T 0 11 := so0 hS
  exact zlaw1 (t := 0) (by decide) (b0_231 (by omega) (by omega) (by omega) (by omega) s0) (fun T1 V1 y a1 a2 a3 => by rw [b0_245 (by omega) (by rw [a2]; omega) (by omega) (by rw [a2]; omega) a3, a1]) (fun T2 V2 y => by rw [b0_259, if_pos rfl]) hS (k_paint h hn (hf _) (hf _)) next
theorem zl_264 (h : zJ n T V) (hn : n < 1000) (hi : 0 ≤ x3 ∧ x3 ≤ zl T (-2) - 6) (hl : zl T (-2) ≤ 3072) (hf : ∀ j, z32 (V (-2) j)) (next : ∀ (T2 : zT) (V2 : zM), zJ (n + 1) T2 V2 → zFrx T V (T2, V2) → zwp (ev 0 1271 [(4, 0), (2, 0), (2, 130), (0, x3)] [] T2 V2) Q) : zwp (ev 0 264 [(4, 0), (2, 0), (2, 130), (0, x3)] [] T V) Q := by
  have hS := h.str
  have s0 : zO T 0 11 := so0 hS
  exact zlaw1 (t := 0) (by decide) (b0_264 (by omega) (by omega) s0) (fun T1 V1 y a1 a2 a3 => by rw [b0_273 (by omega) (by rw [a2]; omega) a3, a1]) (fun T2 V2 y => by rw [b0_282, if_pos rfl]) hS (k_of h hn) next
theorem zl_287 (h : zJ n T V) (hn : n < 1000) (hi : 0 ≤ x3 ∧ x3 ≤ zl T (-2) - 6) (hl : zl T (-2) ≤ 3072) (hf : ∀ j, z32 (V (-2) j)) (next : ∀ (T2 : zT) (V2 : zM), zJ (n + 1) T2 V2 → zFrx T V (T2, V2) → zwp (ev 0 1271 [(4, 0), (2, 0), (2, 130), (0, x3)] [] T2 V2) Q) : zwp (ev 0 287 [(4, 0), (2, 0), (2, 130), (0, x3)] [] T V) Q := by
  have hS := h.str
  have s0 : zO T 0 11 := so0 hS
  exact zlaw1 (t := 0) (by decide) (b0_287 (by omega) (by omega) (by omega) (by omega) (by omega) (by omega) (by omega) (by omega) (by omega) (by omega) s0) (fun T1 V1 y a1 a2 a3 => by rw [b0_316 (by omega) (by rw [a2]; omega) (by omega) (by rw [a2]; omega) (by omega) (by rw [a2]; omega) (by omega) (by rw [a2]; omega) (by omega) (by rw [a2]; omega) a3, a1]) (fun T2 V2 y => by rw [b0_345, if_pos rfl]) hS (k_feed h hn) next
theorem zl_350 (h : zJ n T V) (hn : n < 1000) (hi : 0 ≤ x3 ∧ x3 ≤ zl T (-2) - 6) (hl : zl T (-2) ≤ 3072) (hf : ∀ j, z32 (V (-2) j)) (next : ∀ (T2 : zT) (V2 : zM), zJ (n + 1) T2 V2 → zFrx T V (T2, V2) → zwp (ev 0 1271 [(4, 0), (2, 0), (2, 130), (0, x3)] [] T2 V2) Q) : zwp (ev 0 350 [(4, 0), (2, 0), (2, 130), (0, x3)] [] T V) Q := by
  have hS := h.str
  have s0 : zO T 0 11 := so0 hS
  exact zlaw1 (t := 0) (by decide) (b0_350 (by omega) (by omega) s0) (fun T1 V1 y a1 a2 a3 => by rw [b0_359 (by omega) (by rw [a2]; omega) a3, a1]) (fun T2 V2 y => by rw [b0_368, if_pos rfl]) hS (k_end h hn (hf _)) next
theorem zl_373 (h : zJ n T V) (hn : n < 1000) (hi : 0 ≤ x3 ∧ x3 ≤ zl T (-2) - 6) (hl : zl T (-2) ≤ 3072) (hf : ∀ j, z32 (V (-2) j)) (next : ∀ (T2 : zT) (V2 : zM), zJ (n + 1) T2 V2 → zFrx T V (T2, V2) → zwp (ev 0 1271 [(4, 0), (2, 0), (2, 130), (0, x3)] [] T2 V2) Q) : zwp (ev 0 373 [(4, 0), (2, 0), (2, 130), (0, x3)] [] T V) Q := by
  have hS := h.str
  have s0 : zO T 0 11 := so0 hS
  exact zlaw1 (t := 0) (by decide) (b0_373  s0) (fun T1 V1 y a1 a2 a3 => by rw [b0_377 a3]) (fun T2 V2 y => by rw [b0_381, if_pos rfl]) hS (k_row h hn) next
theorem zl_386 (h : zJ n T V) (hn : n < 1000) (hi : 0 ≤ x3 ∧ x3 ≤ zl T (-2) - 6) (hl : zl T (-2) ≤ 3072) (hf : ∀ j, z32 (V (-2) j)) (next : ∀ (T2 : zT) (V2 : zM), zJ (n + 1) T2 V2 → zFrx T V (T2, V2) → zwp (ev 0 1271 [(4, 0), (2, 0), (2, 130), (0, x3)] [] T2 V2) Q) : zwp (ev 0 386 [(4, 0), (2, 0), (2, 130), (0, x3)] [] T V) Q := by
  have hS := h.str
  have s0 : zO T 0 11 := so0 hS
  exact zlaw1 (t := 0) (by decide) (b0_386  s0) (fun T1 V1 y a1 a2 a3 => by rw [b0_390 a3]) (fun T2 V2 y => by rw [b0_394, if_pos rfl]) hS (k_spilt h hn) next
theorem zl_399 (h : zJ n T V) (hn : n < 1000) (hi : 0 ≤ x3 ∧ x3 ≤ zl T (-2) - 6) (hl : zl T (-2) ≤ 3072) (hf : ∀ j, z32 (V (-2) j)) (next : ∀ (T2 : zT) (V2 : zM), zJ (n + 1) T2 V2 → zFrx T V (T2, V2) → zwp (ev 0 1271 [(4, 0), (2, 0), (2, 130), (0, x3)] [] T2 V2) Q) : zwp (ev 0 399 [(4, 0), (2, 0), (2, 130), (0, x3)] [] T V) Q := by
  have hS := h.str
  have s0 : zO T 0 11 := so0 hS
  exact zlaw1 (t := 0) (by decide) (b0_399  s0) (fun T1 V1 y a1 a2 a3 => by rw [b0_403 a3]) (fun T2 V2 y => by rw [b0_407, if_pos rfl]) hS (k_tables h hn) next
theorem zl_412 (h : zJ n T V) (hn : n < 1000) (hi : 0 ≤ x3 ∧ x3 ≤ zl T (-2) - 6) (hl : zl T (-2) ≤ 3072) (hf : ∀ j, z32 (V (-2) j)) (next : ∀ (T2 : zT) (V2 : zM), zJ (n + 1) T2 V2 → zFrx T V (T2, V2) → zwp (ev 0 1271 [(4, 0), (2, 0), (2, 130), (0, x3)] [] T2 V2) Q) : zwp (ev 0 412 [(4, 0), (2, 0), (2, 130), (0, x3)] [] T V) Q := by
  have hS := h.str
  have s0 : zO T 0 11 := so0 hS
  exact zlaw1 (t := 0) (by decide) (b0_412  s0) (fun T1 V1 y a1 a2 a3 => by rw [b0_416 a3]) (fun T2 V2 y => by rw [b0_420, if_pos rfl]) hS (k_fault h hn) next
theorem zl_425 (h : zJ n T V) (hn : n < 1000) (hi : 0 ≤ x3 ∧ x3 ≤ zl T (-2) - 6) (hl : zl T (-2) ≤ 3072) (hf : ∀ j, z32 (V (-2) j)) (next : ∀ (T2 : zT) (V2 : zM), zJ (n + 1) T2 V2 → zFrx T V (T2, V2) → zwp (ev 0 1271 [(4, 0), (2, 0), (2, 130), (0, x3)] [] T2 V2) Q) : zwp (ev 0 425 [(4, 0), (2, 0), (2, 130), (0, x3)] [] T V) Q := by
  have hS := h.str
  have s0 : zO T 0 11 := so0 hS
  exact zlaw1 (t := 0) (by decide) (b0_425 (by omega) (by omega) (by omega) (by omega) (by omega) (by omega) s0) (fun T1 V1 y a1 a2 a3 => by rw [b0_444 (by omega) (by rw [a2]; omega) (by omega) (by rw [a2]; omega) (by omega) (by rw [a2]; omega) a3, a1]) (fun T2 V2 y => by rw [b0_463, if_pos rfl]) hS (k_letter h hn (hf _) (hf _) (hf _)) next
theorem zl_468 (h : zJ n T V) (hn : n < 1000) (hi : 0 ≤ x3 ∧ x3 ≤ zl T (-2) - 6) (hl : zl T (-2) ≤ 3072) (hf : ∀ j, z32 (V (-2) j)) (next : ∀ (T2 : zT) (V2 : zM), zJ (n + 1) T2 V2 → zFrx T V (T2, V2) → zwp (ev 0 1271 [(4, 0), (2, 0), (2, 130), (0, x3)] [] T2 V2) Q) : zwp (ev 0 468 [(4, 0), (2, 0), (2, 130), (0, x3)] [] T V) Q := by
  have hS := h.str
  have s0 : zO T 0 11 := so0 hS
  exact zlaw1 (t := 0) (by decide) (b0_468 (by omega) (by omega) (by omega) (by omega) (by omega) (by omega) s0) (fun T1 V1 y a1 a2 a3 => by rw [b0_487 (by omega) (by rw [a2]; omega) (by omega) (by rw [a2]; omega) (by omega) (by rw [a2]; omega) a3, a1]) (fun T2 V2 y => by rw [b0_506, if_pos rfl]) hS (k_word h hn (hf _) (hf _) (hf _)) next
theorem zl_511 (h : zJ n T V) (hn : n < 1000) (hi : 0 ≤ x3 ∧ x3 ≤ zl T (-2) - 6) (hl : zl T (-2) ≤ 3072) (hf : ∀ j, z32 (V (-2) j)) (next : ∀ (T2 : zT) (V2 : zM), zJ (n + 1) T2 V2 → zFrx T V (T2, V2) → zwp (ev 0 1271 [(4, 0), (2, 0), (2, 130), (0, x3)] [] T2 V2) Q) : zwp (ev 0 511 [(4, 0), (2, 0), (2, 130), (0, x3)] [] T V) Q := by
  have hS := h.str
  have s0 : zO T 0 11 := so0 hS
  exact zlaw1 (t := 0) (by decide) (b0_511 (by omega) (by omega) (by omega) (by omega) s0) (fun T1 V1 y a1 a2 a3 => by rw [b0_525 (by omega) (by rw [a2]; omega) (by omega) (by rw [a2]; omega) a3, a1]) (fun T2 V2 y => by rw [b0_539, if_pos rfl]) hS (k_reads h hn) next
theorem zl_544 (h : zJ n T V) (hn : n < 1000) (hi : 0 ≤ x3 ∧ x3 ≤ zl T (-2) - 6) (hl : zl T (-2) ≤ 3072) (hf : ∀ j, z32 (V (-2) j)) (next : ∀ (T2 : zT) (V2 : zM), zJ (n + 1) T2 V2 → zFrx T V (T2, V2) → zwp (ev 0 1271 [(4, 0), (2, 0), (2, 130), (0, x3)] [] T2 V2) Q) : zwp (ev 0 544 [(4, 0), (2, 0), (2, 130), (0, x3)] [] T V) Q := by
  have hS := h.str
  have s0 : zO T 0 11 := so0 hS
  exact zlaw1 (t := 0) (by decide) (b0_544 (by omega) (by omega) (by omega) (by omega) s0) (fun T1 V1 y a1 a2 a3 => by rw [b0_558 (by omega) (by rw [a2]; omega) (by omega) (by rw [a2]; omega) a3, a1]) (fun T2 V2 y => by rw [b0_572, if_pos rfl]) hS (k_read h hn) next
theorem zl_577 (h : zJ n T V) (hn : n < 1000) (hi : 0 ≤ x3 ∧ x3 ≤ zl T (-2) - 6) (hl : zl T (-2) ≤ 3072) (hf : ∀ j, z32 (V (-2) j)) (next : ∀ (T2 : zT) (V2 : zM), zJ (n + 1) T2 V2 → zFrx T V (T2, V2) → zwp (ev 0 1271 [(4, 0), (2, 0), (2, 130), (0, x3)] [] T2 V2) Q) : zwp (ev 0 577 [(4, 0), (2, 0), (2, 130), (0, x3)] [] T V) Q := by
  have hS := h.str
  have s0 : zO T 0 11 := so0 hS
  exact zlaw1 (t := 0) (by decide) (b0_577 (by omega) (by omega) s0) (fun T1 V1 y a1 a2 a3 => by rw [b0_586 (by omega) (by rw [a2]; omega) a3, a1]) (fun T2 V2 y => by rw [b0_595, if_pos rfl]) hS (k_spoken h hn) next
theorem zl_600 (h : zJ n T V) (hn : n < 1000) (hi : 0 ≤ x3 ∧ x3 ≤ zl T (-2) - 6) (hl : zl T (-2) ≤ 3072) (hf : ∀ j, z32 (V (-2) j)) (next : ∀ (T2 : zT) (V2 : zM), zJ (n + 1) T2 V2 → zFrx T V (T2, V2) → zwp (ev 0 1271 [(4, 0), (2, 0), (2, 130), (0, x3)] [] T2 V2) Q) : zwp (ev 0 600 [(4, 0), (2, 0), (2, 130), (0, x3)] [] T V) Q := by
  have hS := h.str
  have s0 : zO T 0 11 := so0 hS
  exact zlaw1 (t := 0) (by decide) (b0_600 (by omega) (by omega) (by omega) (by omega) (by omega) (by omega) s0) (fun T1 V1 y a1 a2 a3 => by rw [b0_619 (by omega) (by rw [a2]; omega) (by omega) (by rw [a2]; omega) (by omega) (by rw [a2]; omega) a3, a1]) (fun T2 V2 y => by rw [b0_638, if_pos rfl]) hS (k_pair h hn) next
theorem zl_643 (h : zJ n T V) (hn : n < 1000) (hi : 0 ≤ x3 ∧ x3 ≤ zl T (-2) - 6) (hl : zl T (-2) ≤ 3072) (hf : ∀ j, z32 (V (-2) j)) (next : ∀ (T2 : zT) (V2 : zM), zJ (n + 1) T2 V2 → zFrx T V (T2, V2) → zwp (ev 0 1271 [(4, 0), (2, 0), (2, 130), (0, x3)] [] T2 V2) Q) : zwp (ev 0 643 [(4, 0), (2, 0), (2, 130), (0, x3)] [] T V) Q := by
  have hS := h.str
  have s0 : zO T 0 11 := so0 hS
  exact zlaw1 (t := 0) (by decide) (b0_643 (by omega) (by omega) s0) (fun T1 V1 y a1 a2 a3 => by rw [b0_652 (by omega) (by rw [a2]; omega) a3, a1]) (fun T2 V2 y => by rw [b0_661, if_pos rfl]) hS (k_partners h hn) next
theorem zl_666 (h : zJ n T V) (hn : n < 1000) (hi : 0 ≤ x3 ∧ x3 ≤ zl T (-2) - 6) (hl : zl T (-2) ≤ 3072) (hf : ∀ j, z32 (V (-2) j)) (next : ∀ (T2 : zT) (V2 : zM), zJ (n + 1) T2 V2 → zFrx T V (T2, V2) → zwp (ev 0 1271 [(4, 0), (2, 0), (2, 130), (0, x3)] [] T2 V2) Q) : zwp (ev 0 666 [(4, 0), (2, 0), (2, 130), (0, x3)] [] T V) Q := by
  have hS := h.str
  have s0 : zO T 0 11 := so0 hS
  exact zlaw1 (t := 0) (by decide) (b0_666  s0) (fun T1 V1 y a1 a2 a3 => by rw [b0_670 a3]) (fun T2 V2 y => by rw [b0_674, if_pos rfl]) hS (k_pairs h hn) next
theorem zl_679 (h : zJ n T V) (hn : n < 1000) (hi : 0 ≤ x3 ∧ x3 ≤ zl T (-2) - 6) (hl : zl T (-2) ≤ 3072) (hf : ∀ j, z32 (V (-2) j)) (next : ∀ (T2 : zT) (V2 : zM), zJ (n + 1) T2 V2 → zFrx T V (T2, V2) → zwp (ev 0 1271 [(4, 0), (2, 0), (2, 130), (0, x3)] [] T2 V2) Q) : zwp (ev 0 679 [(4, 0), (2, 0), (2, 130), (0, x3)] [] T V) Q := by
  have hS := h.str
  have s0 : zO T 0 11 := so0 hS
  exact zlaw1 (t := 0) (by decide) (b0_679 (by omega) (by omega) (by omega) (by omega) s0) (fun T1 V1 y a1 a2 a3 => by rw [b0_693 (by omega) (by rw [a2]; omega) (by omega) (by rw [a2]; omega) a3, a1]) (fun T2 V2 y => by rw [b0_707, if_pos rfl]) hS (k_say h hn (hf _) (hf _)) next
theorem zl_712 (h : zJ n T V) (hn : n < 1000) (hi : 0 ≤ x3 ∧ x3 ≤ zl T (-2) - 6) (hl : zl T (-2) ≤ 3072) (hf : ∀ j, z32 (V (-2) j)) (next : ∀ (T2 : zT) (V2 : zM), zJ (n + 1) T2 V2 → zFrx T V (T2, V2) → zwp (ev 0 1271 [(4, 0), (2, 0), (2, 130), (0, x3)] [] T2 V2) Q) : zwp (ev 0 712 [(4, 0), (2, 0), (2, 130), (0, x3)] [] T V) Q := by
  have hS := h.str
  have s0 : zO T 0 11 := so0 hS
  exact zlaw1 (t := 0) (by decide) (b0_712 (by omega) (by omega) s0) (fun T1 V1 y a1 a2 a3 => by rw [b0_721 (by omega) (by rw [a2]; omega) a3, a1]) (fun T2 V2 y => by rw [b0_730, if_pos rfl]) hS (k_hush h hn (hf _)) next
theorem zl_735 (h : zJ n T V) (hn : n < 1000) (hi : 0 ≤ x3 ∧ x3 ≤ zl T (-2) - 6) (hl : zl T (-2) ≤ 3072) (hf : ∀ j, z32 (V (-2) j)) (next : ∀ (T2 : zT) (V2 : zM), zJ (n + 1) T2 V2 → zFrx T V (T2, V2) → zwp (ev 0 1271 [(4, 0), (2, 0), (2, 130), (0, x3)] [] T2 V2) Q) : zwp (ev 0 735 [(4, 0), (2, 0), (2, 130), (0, x3)] [] T V) Q := by
  have hS := h.str
  have s0 : zO T 0 11 := so0 hS
  exact zlaw1 (t := 0) (by decide) (b0_735 (by omega) (by omega) s0) (fun T1 V1 y a1 a2 a3 => by rw [b0_744 (by omega) (by rw [a2]; omega) a3, a1]) (fun T2 V2 y => by rw [b0_753, if_pos rfl]) hS (k_near h hn) next
theorem zl_758 (h : zJ n T V) (hn : n < 1000) (hi : 0 ≤ x3 ∧ x3 ≤ zl T (-2) - 6) (hl : zl T (-2) ≤ 3072) (hf : ∀ j, z32 (V (-2) j)) (next : ∀ (T2 : zT) (V2 : zM), zJ (n + 1) T2 V2 → zFrx T V (T2, V2) → zwp (ev 0 1271 [(4, 0), (2, 0), (2, 130), (0, x3)] [] T2 V2) Q) : zwp (ev 0 758 [(4, 0), (2, 0), (2, 130), (0, x3)] [] T V) Q := by
  have hS := h.str
  have s0 : zO T 0 11 := so0 hS
  exact zlaw1 (t := 0) (by decide) (b0_758 (by omega) (by omega) s0) (fun T1 V1 y a1 a2 a3 => by rw [b0_767 (by omega) (by rw [a2]; omega) a3, a1]) (fun T2 V2 y => by rw [b0_776, if_pos rfl]) hS (k_nearAt h hn) next
theorem zl_781 (h : zJ n T V) (hn : n < 1000) (hi : 0 ≤ x3 ∧ x3 ≤ zl T (-2) - 6) (hl : zl T (-2) ≤ 3072) (hf : ∀ j, z32 (V (-2) j)) (next : ∀ (T2 : zT) (V2 : zM), zJ (n + 1) T2 V2 → zFrx T V (T2, V2) → zwp (ev 0 1271 [(4, 0), (2, 0), (2, 130), (0, x3)] [] T2 V2) Q) : zwp (ev 0 781 [(4, 0), (2, 0), (2, 130), (0, x3)] [] T V) Q := by
  have hS := h.str
  have s0 : zO T 0 11 := so0 hS
  exact zlaw1 (t := 0) (by decide) (b0_781 (by omega) (by omega) (by omega) (by omega) s0) (fun T1 V1 y a1 a2 a3 => by rw [b0_795 (by omega) (by rw [a2]; omega) (by omega) (by rw [a2]; omega) a3, a1]) (fun T2 V2 y => by rw [b0_809, if_pos rfl]) hS (k_mean h hn (hf _) (hf _)) next
theorem zl_814 (h : zJ n T V) (hn : n < 1000) (hi : 0 ≤ x3 ∧ x3 ≤ zl T (-2) - 6) (hl : zl T (-2) ≤ 3072) (hf : ∀ j, z32 (V (-2) j)) (next : ∀ (T2 : zT) (V2 : zM), zJ (n + 1) T2 V2 → zFrx T V (T2, V2) → zwp (ev 0 1271 [(4, 0), (2, 0), (2, 130), (0, x3)] [] T2 V2) Q) : zwp (ev 0 814 [(4, 0), (2, 0), (2, 130), (0, x3)] [] T V) Q := by
  have hS := h.str
  have s0 : zO T 0 11 := so0 hS
  exact zlaw1 (t := 0) (by decide) (b0_814 (by omega) (by omega) s0) (fun T1 V1 y a1 a2 a3 => by rw [b0_823 (by omega) (by rw [a2]; omega) a3, a1]) (fun T2 V2 y => by rw [b0_832, if_pos rfl]) hS (k_forget h hn (hf _)) next
theorem zl_837 (h : zJ n T V) (hn : n < 1000) (hi : 0 ≤ x3 ∧ x3 ≤ zl T (-2) - 6) (hl : zl T (-2) ≤ 3072) (hf : ∀ j, z32 (V (-2) j)) (next : ∀ (T2 : zT) (V2 : zM), zJ (n + 1) T2 V2 → zFrx T V (T2, V2) → zwp (ev 0 1271 [(4, 0), (2, 0), (2, 130), (0, x3)] [] T2 V2) Q) : zwp (ev 0 837 [(4, 0), (2, 0), (2, 130), (0, x3)] [] T V) Q := by
  have hS := h.str
  have s0 : zO T 0 11 := so0 hS
  exact zlaw1 (t := 1) (by decide) (b0_837  s0) (fun T1 V1 y a1 a2 a3 => by rw [b0_841 a3]) (fun T2 V2 y => by rw [b0_845, if_pos rfl]) hS (k_tells h hn) next
theorem zl_851 (h : zJ n T V) (hn : n < 1000) (hi : 0 ≤ x3 ∧ x3 ≤ zl T (-2) - 6) (hl : zl T (-2) ≤ 3072) (hf : ∀ j, z32 (V (-2) j)) (next : ∀ (T2 : zT) (V2 : zM), zJ (n + 1) T2 V2 → zFrx T V (T2, V2) → zwp (ev 0 1271 [(4, 0), (2, 0), (2, 130), (0, x3)] [] T2 V2) Q) : zwp (ev 0 851 [(4, 0), (2, 0), (2, 130), (0, x3)] [] T V) Q := by
  have hS := h.str
  have s0 : zO T 0 11 := so0 hS
  exact zlaw1 (t := 0) (by decide) (b0_851  s0) (fun T1 V1 y a1 a2 a3 => by rw [b0_855 a3]) (fun T2 V2 y => by rw [b0_859, if_pos rfl]) hS (k_price h hn) next
theorem zl_864 (h : zJ n T V) (hn : n < 1000) (hi : 0 ≤ x3 ∧ x3 ≤ zl T (-2) - 6) (hl : zl T (-2) ≤ 3072) (hf : ∀ j, z32 (V (-2) j)) (next : ∀ (T2 : zT) (V2 : zM), zJ (n + 1) T2 V2 → zFrx T V (T2, V2) → zwp (ev 0 1271 [(4, 0), (2, 0), (2, 130), (0, x3)] [] T2 V2) Q) : zwp (ev 0 864 [(4, 0), (2, 0), (2, 130), (0, x3)] [] T V) Q := by
  have hS := h.str
  have s0 : zO T 0 11 := so0 hS
  exact zlaw1 (t := 0) (by decide) (b0_864 (by omega) (by omega) s0) (fun T1 V1 y a1 a2 a3 => by rw [b0_873 (by omega) (by rw [a2]; omega) a3, a1]) (fun T2 V2 y => by rw [b0_882, if_pos rfl]) hS (k_first h hn) next
theorem zl_887 (h : zJ n T V) (hn : n < 1000) (hi : 0 ≤ x3 ∧ x3 ≤ zl T (-2) - 6) (hl : zl T (-2) ≤ 3072) (hf : ∀ j, z32 (V (-2) j)) (next : ∀ (T2 : zT) (V2 : zM), zJ (n + 1) T2 V2 → zFrx T V (T2, V2) → zwp (ev 0 1271 [(4, 0), (2, 0), (2, 130), (0, x3)] [] T2 V2) Q) : zwp (ev 0 887 [(4, 0), (2, 0), (2, 130), (0, x3)] [] T V) Q := by
  have hS := h.str
  have s0 : zO T 0 11 := so0 hS
  exact zlaw1 (t := 0) (by decide) (b0_887 (by omega) (by omega) s0) (fun T1 V1 y a1 a2 a3 => by rw [b0_896 (by omega) (by rw [a2]; omega) a3, a1]) (fun T2 V2 y => by rw [b0_905, if_pos rfl]) hS (k_lengths h hn) next
theorem zl_910 (h : zJ n T V) (hn : n < 1000) (hi : 0 ≤ x3 ∧ x3 ≤ zl T (-2) - 6) (hl : zl T (-2) ≤ 3072) (hf : ∀ j, z32 (V (-2) j)) (next : ∀ (T2 : zT) (V2 : zM), zJ (n + 1) T2 V2 → zFrx T V (T2, V2) → zwp (ev 0 1271 [(4, 0), (2, 0), (2, 130), (0, x3)] [] T2 V2) Q) : zwp (ev 0 910 [(4, 0), (2, 0), (2, 130), (0, x3)] [] T V) Q := by
  have hS := h.str
  have s0 : zO T 0 11 := so0 hS
  exact zlaw1 (t := 0) (by decide) (b0_910 (by omega) (by omega) (by omega) (by omega) s0) (fun T1 V1 y a1 a2 a3 => by rw [b0_924 (by omega) (by rw [a2]; omega) (by omega) (by rw [a2]; omega) a3, a1]) (fun T2 V2 y => by rw [b0_938, if_pos rfl]) hS (k_lost h hn (hf _) (hf _)) next
theorem zl_943 (h : zJ n T V) (hn : n < 1000) (hi : 0 ≤ x3 ∧ x3 ≤ zl T (-2) - 6) (hl : zl T (-2) ≤ 3072) (hf : ∀ j, z32 (V (-2) j)) (next : ∀ (T2 : zT) (V2 : zM), zJ (n + 1) T2 V2 → zFrx T V (T2, V2) → zwp (ev 0 1271 [(4, 0), (2, 0), (2, 130), (0, x3)] [] T2 V2) Q) : zwp (ev 0 943 [(4, 0), (2, 0), (2, 130), (0, x3)] [] T V) Q := by
  have hS := h.str
  have s0 : zO T 0 11 := so0 hS
  exact zlaw1 (t := 1) (by decide) (b0_943  s0) (fun T1 V1 y a1 a2 a3 => by rw [b0_947 a3]) (fun T2 V2 y => by rw [b0_951, if_pos rfl]) hS (k_may h hn) next
theorem zl_957 (h : zJ n T V) (hn : n < 1000) (hi : 0 ≤ x3 ∧ x3 ≤ zl T (-2) - 6) (hl : zl T (-2) ≤ 3072) (hf : ∀ j, z32 (V (-2) j)) (next : ∀ (T2 : zT) (V2 : zM), zJ (n + 1) T2 V2 → zFrx T V (T2, V2) → zwp (ev 0 1271 [(4, 0), (2, 0), (2, 130), (0, x3)] [] T2 V2) Q) : zwp (ev 0 957 [(4, 0), (2, 0), (2, 130), (0, x3)] [] T V) Q := by
  have hS := h.str
  have s0 : zO T 0 11 := so0 hS
  exact zlaw1 (t := 0) (by decide) (b0_957 (by omega) (by omega) (by omega) (by omega) s0) (fun T1 V1 y a1 a2 a3 => by rw [b0_971 (by omega) (by rw [a2]; omega) (by omega) (by rw [a2]; omega) a3, a1]) (fun T2 V2 y => by rw [b0_985, if_pos rfl]) hS (k_sure h hn) next
theorem zl_990 (h : zJ n T V) (hn : n < 1000) (hi : 0 ≤ x3 ∧ x3 ≤ zl T (-2) - 6) (hl : zl T (-2) ≤ 3072) (hf : ∀ j, z32 (V (-2) j)) (next : ∀ (T2 : zT) (V2 : zM), zJ (n + 1) T2 V2 → zFrx T V (T2, V2) → zwp (ev 0 1271 [(4, 0), (2, 0), (2, 130), (0, x3)] [] T2 V2) Q) : zwp (ev 0 990 [(4, 0), (2, 0), (2, 130), (0, x3)] [] T V) Q := by
  have hS := h.str
  have s0 : zO T 0 11 := so0 hS
  exact zlaw1 (t := 1) (by decide) (b0_990 (by omega) (by omega) (by omega) (by omega) s0) (fun T1 V1 y a1 a2 a3 => by rw [b0_1004 (by omega) (by rw [a2]; omega) (by omega) (by rw [a2]; omega) a3, a1]) (fun T2 V2 y => by rw [b0_1018, if_pos rfl]) hS (k_often h hn) next
theorem zl_1024 (h : zJ n T V) (hn : n < 1000) (hi : 0 ≤ x3 ∧ x3 ≤ zl T (-2) - 6) (hl : zl T (-2) ≤ 3072) (hf : ∀ j, z32 (V (-2) j)) (next : ∀ (T2 : zT) (V2 : zM), zJ (n + 1) T2 V2 → zFrx T V (T2, V2) → zwp (ev 0 1271 [(4, 0), (2, 0), (2, 130), (0, x3)] [] T2 V2) Q) : zwp (ev 0 1024 [(4, 0), (2, 0), (2, 130), (0, x3)] [] T V) Q := by
  have hS := h.str
  have s0 : zO T 0 11 := so0 hS
  exact zlaw1 (t := 0) (by decide) (b0_1024 (by omega) (by omega) (by omega) (by omega) (by omega) (by omega) (by omega) (by omega) (by omega) (by omega) s0) (fun T1 V1 y a1 a2 a3 => by rw [b0_1053 (by omega) (by rw [a2]; omega) (by omega) (by rw [a2]; omega) (by omega) (by rw [a2]; omega) (by omega) (by rw [a2]; omega) (by omega) (by rw [a2]; omega) a3, a1]) (fun T2 V2 y => by rw [b0_1082, if_pos rfl]) hS (k_yard h hn (hf _) (hf _) (hf _) (hf _) (hf _)) next
theorem zl_1087 (h : zJ n T V) (hn : n < 1000) (hi : 0 ≤ x3 ∧ x3 ≤ zl T (-2) - 6) (hl : zl T (-2) ≤ 3072) (hf : ∀ j, z32 (V (-2) j)) (next : ∀ (T2 : zT) (V2 : zM), zJ (n + 1) T2 V2 → zFrx T V (T2, V2) → zwp (ev 0 1271 [(4, 0), (2, 0), (2, 130), (0, x3)] [] T2 V2) Q) : zwp (ev 0 1087 [(4, 0), (2, 0), (2, 130), (0, x3)] [] T V) Q := by
  have hS := h.str
  have s0 : zO T 0 11 := so0 hS
  exact zlaw1 (t := 0) (by decide) (b0_1087 (by omega) (by omega) s0) (fun T1 V1 y a1 a2 a3 => by rw [b0_1096 (by omega) (by rw [a2]; omega) a3, a1]) (fun T2 V2 y => by rw [b0_1105, if_pos rfl]) hS (k_drop h hn (hf _)) next
theorem zl_1110 (h : zJ n T V) (hn : n < 1000) (hi : 0 ≤ x3 ∧ x3 ≤ zl T (-2) - 6) (hl : zl T (-2) ≤ 3072) (hf : ∀ j, z32 (V (-2) j)) (next : ∀ (T2 : zT) (V2 : zM), zJ (n + 1) T2 V2 → zFrx T V (T2, V2) → zwp (ev 0 1271 [(4, 0), (2, 0), (2, 130), (0, x3)] [] T2 V2) Q) : zwp (ev 0 1110 [(4, 0), (2, 0), (2, 130), (0, x3)] [] T V) Q := by
  have hS := h.str
  have s0 : zO T 0 11 := so0 hS
  exact zlaw1 (t := 0) (by decide) (b0_1110 (by omega) (by omega) s0) (fun T1 V1 y a1 a2 a3 => by rw [b0_1119 (by omega) (by rw [a2]; omega) a3, a1]) (fun T2 V2 y => by rw [b0_1128, if_pos rfl]) hS (k_letting h hn (hf _)) next
theorem zl_1133 (h : zJ n T V) (hn : n < 1000) (hi : 0 ≤ x3 ∧ x3 ≤ zl T (-2) - 6) (hl : zl T (-2) ≤ 3072) (hf : ∀ j, z32 (V (-2) j)) (next : ∀ (T2 : zT) (V2 : zM), zJ (n + 1) T2 V2 → zFrx T V (T2, V2) → zwp (ev 0 1271 [(4, 0), (2, 0), (2, 130), (0, x3)] [] T2 V2) Q) : zwp (ev 0 1133 [(4, 0), (2, 0), (2, 130), (0, x3)] [] T V) Q := by
  have hS := h.str
  have s0 : zO T 0 11 := so0 hS
  exact zlaw1 (t := 0) (by decide) (b0_1133 (by omega) (by omega) s0) (fun T1 V1 y a1 a2 a3 => by rw [b0_1142 (by omega) (by rw [a2]; omega) a3, a1]) (fun T2 V2 y => by rw [b0_1151, if_pos rfl]) hS (k_best h hn) next
theorem zl_1156 (h : zJ n T V) (hn : n < 1000) (hi : 0 ≤ x3 ∧ x3 ≤ zl T (-2) - 6) (hl : zl T (-2) ≤ 3072) (hf : ∀ j, z32 (V (-2) j)) (next : ∀ (T2 : zT) (V2 : zM), zJ (n + 1) T2 V2 → zFrx T V (T2, V2) → zwp (ev 0 1271 [(4, 0), (2, 0), (2, 130), (0, x3)] [] T2 V2) Q) : zwp (ev 0 1156 [(4, 0), (2, 0), (2, 130), (0, x3)] [] T V) Q := by
  have hS := h.str
  have s0 : zO T 0 11 := so0 hS
  exact zlaw1 (t := 0) (by decide) (b0_1156 (by omega) (by omega) (by omega) (by omega) s0) (fun T1 V1 y a1 a2 a3 => by rw [b0_1170 (by omega) (by rw [a2]; omega) (by omega) (by rw [a2]; omega) a3, a1]) (fun T2 V2 y => by rw [b0_1184, if_pos rfl]) hS (k_rain h hn (hf _) (hf _)) next
theorem zl_1189 (h : zJ n T V) (hn : n < 1000) (hi : 0 ≤ x3 ∧ x3 ≤ zl T (-2) - 6) (hl : zl T (-2) ≤ 3072) (hf : ∀ j, z32 (V (-2) j)) (next : ∀ (T2 : zT) (V2 : zM), zJ (n + 1) T2 V2 → zFrx T V (T2, V2) → zwp (ev 0 1271 [(4, 0), (2, 0), (2, 130), (0, x3)] [] T2 V2) Q) : zwp (ev 0 1189 [(4, 0), (2, 0), (2, 130), (0, x3)] [] T V) Q := by
  have hS := h.str
  have s0 : zO T 0 11 := so0 hS
  exact zlaw1 (t := 0) (by decide) (b0_1189 (by omega) (by omega) s0) (fun T1 V1 y a1 a2 a3 => by rw [b0_1198 (by omega) (by rw [a2]; omega) a3, a1]) (fun T2 V2 y => by rw [b0_1207, if_pos rfl]) hS (k_image h hn) next
theorem zl_1212 (h : zJ n T V) (hn : n < 1000) (hi : 0 ≤ x3 ∧ x3 ≤ zl T (-2) - 6) (hl : zl T (-2) ≤ 3072) (hf : ∀ j, z32 (V (-2) j)) (next : ∀ (T2 : zT) (V2 : zM), zJ (n + 1) T2 V2 → zFrx T V (T2, V2) → zwp (ev 0 1271 [(4, 0), (2, 0), (2, 130), (0, x3)] [] T2 V2) Q) : zwp (ev 0 1212 [(4, 0), (2, 0), (2, 130), (0, x3)] [] T V) Q := by
  have hS := h.str
  have s0 : zO T 0 11 := so0 hS
  exact zlaw1 (t := 0) (by decide) (b0_1212 (by omega) (by omega) s0) (fun T1 V1 y a1 a2 a3 => by rw [b0_1221 (by omega) (by rw [a2]; omega) a3, a1]) (fun T2 V2 y => by rw [b0_1230, if_pos rfl]) hS (k_back h hn (hf _)) next
theorem zl_1235 (h : zJ n T V) (hn : n < 1000) (hi : 0 ≤ x3 ∧ x3 ≤ zl T (-2) - 6) (hl : zl T (-2) ≤ 3072) (hf : ∀ j, z32 (V (-2) j)) (next : ∀ (T2 : zT) (V2 : zM), zJ (n + 1) T2 V2 → zFrx T V (T2, V2) → zwp (ev 0 1271 [(4, 0), (2, 0), (2, 130), (0, x3)] [] T2 V2) Q) : zwp (ev 0 1235 [(4, 0), (2, 0), (2, 130), (0, x3)] [] T V) Q := by
  have hS := h.str
  have s0 : zO T 0 11 := so0 hS
  exact zlaw1 (t := 0) (by decide) (b0_1235 (by omega) (by omega) s0) (fun T1 V1 y a1 a2 a3 => by rw [b0_1244 (by omega) (by rw [a2]; omega) a3, a1]) (fun T2 V2 y => by rw [b0_1253, if_pos rfl]) hS (k_count h hn (hf _)) next
theorem zl_1258 (h : zJ n T V) (hn : n < 1000) (hi : 0 ≤ x3 ∧ x3 ≤ zl T (-2) - 6) (hl : zl T (-2) ≤ 3072) (hf : ∀ j, z32 (V (-2) j)) (next : ∀ (T2 : zT) (V2 : zM), zJ (n + 1) T2 V2 → zFrx T V (T2, V2) → zwp (ev 0 1271 [(4, 0), (2, 0), (2, 130), (0, x3)] [] T2 V2) Q) : zwp (ev 0 1258 [(4, 0), (2, 0), (2, 130), (0, x3)] [] T V) Q := by
  have hS := h.str
  have s0 : zO T 0 11 := so0 hS
  exact zlaw1 (t := 0) (by decide) (b0_1258  s0) (fun T1 V1 y a1 a2 a3 => by rw [b0_1262 a3]) (fun T2 V2 y => by rw [b0_1266, if_pos rfl]) hS (k_status h hn) next
end LAW
