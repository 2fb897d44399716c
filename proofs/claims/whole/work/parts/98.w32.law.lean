/-! the law's loop -/
section LAW2
theorem zsw0 {x : Int} {p : Nat → Prop} (d : p 1271) (h0 : p 208) (h1 : p 231) (h2 : p 264) (h3 : p 287) (h4 : p 350) (h5 : p 373) (h6 : p 386) (h7 : p 399) (h8 : p 412) (h9 : p 425) (h10 : p 468) (h11 : p 511) (h12 : p 544) (h13 : p 577) (h14 : p 600) (h15 : p 643) (h16 : p 666) (h17 : p 679) (h18 : p 712) (h19 : p 735) (h20 : p 758) (h21 : p 781) (h22 : p 814) (h23 : p 837) (h24 : p 851) (h25 : p 864) (h26 : p 887) (h27 : p 910) (h28 : p 943) (h29 : p 957) (h30 : p 990) (h31 : p 1024) (h32 : p 1087) (h33 : p 1110) (h34 : p 1133) (h35 : p 1156) (h36 : p 1189) (h37 : p 1212) (h38 : p 1235) (h39 : p 1258) : p (if 0 ≤ x ∧ x < 0 + ((41 : Nat) : Int) - 1 then ([1271, 208, 231, 264, 287, 350, 373, 386, 399, 412, 425, 468, 511, 544, 577, 600, 643, 666, 679, 712, 735, 758, 781, 814, 837, 851, 864, 887, 910, 943, 957, 990, 1024, 1087, 1110, 1133, 1156, 1189, 1212, 1235, 1258] : List Nat).getD ((x - 0).toNat + 1) 0 else 1271) := by
  by_cases c : 0 ≤ x ∧ x < 0 + ((41 : Nat) : Int) - 1
  · rw [if_pos c]
    have hlt : (x - 0).toNat < 40 := by omega
    generalize (x - 0).toNat = k at hlt
    match k, hlt with
    | 0, _ => exact h0
    | 1, _ => exact h1
    | 2, _ => exact h2
    | 3, _ => exact h3
    | 4, _ => exact h4
    | 5, _ => exact h5
    | 6, _ => exact h6
    | 7, _ => exact h7
    | 8, _ => exact h8
    | 9, _ => exact h9
    | 10, _ => exact h10
    | 11, _ => exact h11
    | 12, _ => exact h12
    | 13, _ => exact h13
    | 14, _ => exact h14
    | 15, _ => exact h15
    | 16, _ => exact h16
    | 17, _ => exact h17
    | 18, _ => exact h18
    | 19, _ => exact h19
    | 20, _ => exact h20
    | 21, _ => exact h21
    | 22, _ => exact h22
    | 23, _ => exact h23
    | 24, _ => exact h24
    | 25, _ => exact h25
    | 26, _ => exact h26
    | 27, _ => exact h27
    | 28, _ => exact h28
    | 29, _ => exact h29
    | 30, _ => exact h30
    | 31, _ => exact h31
    | 32, _ => exact h32
    | 33, _ => exact h33
    | 34, _ => exact h34
    | 35, _ => exact h35
    | 36, _ => exact h36
    | 37, _ => exact h37
    | 38, _ => exact h38
    | 39, _ => exact h39
    | k + 40, q => omega
  · rw [if_neg c]; exact d
theorem zloop : ∀ (m : Nat) (i n : Int) (T : zT) (V : zM), zJ n T V → 0 ≤ i → zl T (-2) - 6 - i < 6 * m → 6 * n ≤ i → i ≤ 3078 → 0 ≤ zl T (-2) → zl T (-2) ≤ 3072 → (∀ j, z32 (V (-2) j)) → zwp (ev 0 18 [(4, 0), (2, 0), (2, 130), (0, i)] [] T V) fun r T' V' => r = (0, 1) ∧ ∃ n', zJ n' T' V' := by
  intro m
  induction m with
  | zero =>
    intro i n T V h h0 h1 h2 h3 h4 h5 hf
    rw [b0_18 (by omega), if_pos (by omega), b0_1277]
    exact zwp_ret ⟨rfl, n, h⟩
  | succ m ih =>
    intro i n T V h h0 h1 h2 h3 h4 h5 hf
    rw [b0_18 (by omega)]
    by_cases c : zl T (-2) - 6 < i
    · rw [if_pos c, b0_1277]
      exact zwp_ret ⟨rfl, n, h⟩
    · rw [if_neg c, b0_27 (by omega)]
      have hi : 0 ≤ i ∧ i ≤ zl T (-2) - 6 := by omega
      have hn : n < 1000 := by omega
      have next : ∀ (T2 : zT) (V2 : zM), zJ (n + 1) T2 V2 → zFrx T V (T2, V2) → zwp (ev 0 1271 [(4, 0), (2, 0), (2, 130), (0, i)] [] T2 V2) fun r T' V' => r = (0, 1) ∧ ∃ n', zJ n' T' V' := by
        intro T2 V2 j fr
        have e2 := zl_fr fr
        have e3 : V2 (-2) = V (-2) := fr.1 (-2) (by decide)
        rw [b0_1271 (by omega)]
        exact ih (i + 6) (n + 1) T2 V2 j (by omega) (by omega) (by omega) (by omega) (by omega) (by omega) (fun k => by rw [e3]; exact hf k)
      refine zsw0 (x := zand (V (-2) i) 63) (p := fun pc => zwp (ev 0 pc [(4, 0), (2, 0), (2, 130), (0, i)] [] T V) fun r T' V' => r = (0, 1) ∧ ∃ n', zJ n' T' V') ?_ (zl_208 h hn hi h5 hf next) (zl_231 h hn hi h5 hf next) (zl_264 h hn hi h5 hf next) (zl_287 h hn hi h5 hf next) (zl_350 h hn hi h5 hf next) (zl_373 h hn hi h5 hf next) (zl_386 h hn hi h5 hf next) (zl_399 h hn hi h5 hf next) (zl_412 h hn hi h5 hf next) (zl_425 h hn hi h5 hf next) (zl_468 h hn hi h5 hf next) (zl_511 h hn hi h5 hf next) (zl_544 h hn hi h5 hf next) (zl_577 h hn hi h5 hf next) (zl_600 h hn hi h5 hf next) (zl_643 h hn hi h5 hf next) (zl_666 h hn hi h5 hf next) (zl_679 h hn hi h5 hf next) (zl_712 h hn hi h5 hf next) (zl_735 h hn hi h5 hf next) (zl_758 h hn hi h5 hf next) (zl_781 h hn hi h5 hf next) (zl_814 h hn hi h5 hf next) (zl_837 h hn hi h5 hf next) (zl_851 h hn hi h5 hf next) (zl_864 h hn hi h5 hf next) (zl_887 h hn hi h5 hf next) (zl_910 h hn hi h5 hf next) (zl_943 h hn hi h5 hf next) (zl_957 h hn hi h5 hf next) (zl_990 h hn hi h5 hf next) (zl_1024 h hn hi h5 hf next) (zl_1087 h hn hi h5 hf next) (zl_1110 h hn hi h5 hf next) (zl_1133 h hn hi h5 hf next) (zl_1156 h hn hi h5 hf next) (zl_1189 h hn hi h5 hf next) (zl_1212 h hn hi h5 hf next) (zl_1235 h hn hi h5 hf next) (zl_1258 h hn hi h5 hf next)
      show zwp (ev 0 1271 _ [] T V) _
      rw [b0_1271 (by omega)]
      exact ih (i + 6) n T V h (by omega) (by omega) (by omega) (by omega) h4 h5 hf
theorem zroom {n : Int} {T : zT} {V : zM} (h : zJ n T V) : T.1 ≤ 600000 ∧ T.2.1 ≤ 7302250 := by
  obtain ⟨q1, q2, g1, g2, n1, n2, p, m, -, -, a1, a2, -, -, a3, -, -, -, -, a4, a5⟩ := h.geo
  have b1 := a1.2.2.2.2
  have b2 := a2.2.2.2.2
  have a5 : (T.1 : Int) ≤ _ := a5
  clear a1 a2 h
  constructor
  · clear a4
    split at a5 <;> split at a5 <;> omega
  · clear a5
    split at a4 <;> split at a4 <;> split at a4 <;> omega
/-- what the law's start must come to -/
def zBegin : Prop := ∀ (T : zT) (V : zM), T.1 = 0 → T.2.1 = 0 → (∀ a i, zp T a i = -1) → ∃ (T' : zT) (V' : zM), ev 0 0 [(4, 0), (9, 0), (9, 0), (9, 0)] [] T V = ev 0 18 [(4, 0), (2, 0), (2, 130), (0, 0)] [] T' V' ∧ zJ 0 T' V' ∧ zFrx T V (T', V')
theorem z_law_of (hb : zBegin) : zLaw := by
  intro L xs hL
  obtain ⟨T', V', h1, h2, h3⟩ := hb (zT0 L) (zV0 xs) rfl rfl (fun _ _ => rfl)
  have e1 : zl T' (-2) = (L : Int) := (zl_fr h3).trans (by show (if (-2 : Int) = -2 then (L : Int) else 0) = L; exact if_pos rfl)
  have e2 : V' (-2) = fun j => (xs j.toNat).toInt := (h3.1 (-2) (by decide)).trans (by funext j; exact if_pos rfl)
  obtain ⟨r, T2, V2, k1, rfl, n', k2⟩ := zloop 600 0 0 T' V' h2 (by omega) (by omega) (by omega) (by omega) (by omega) (by omega) (fun j => by
    rw [e2]
    show -2147483648 ≤ (xs j.toNat).toInt ∧ (xs j.toNat).toInt ≤ 2147483647
    exact ⟨Int32.le_toInt _, by have := Int32.toInt_lt (xs j.toNat); omega⟩)
  rw [← h1] at k1
  obtain ⟨k, hk⟩ := ev_to k1
  exact ⟨k, T2, V2, hk, zroom k2⟩
end LAW2
