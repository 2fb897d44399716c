/-! rain -/
theorem zwr_zs {V : zM} {a i v : Int} {f : Int → Int} : zwr (zs V a f) a i v = zs V a (fun j => if j = i then v else f j) := by
  funext r j
  simp only [zwr_eq, zs_eq]
  by_cases h : r = a
  · subst h; simp
  · simp [h]
theorem zs_id {V : zM} {a : Int} : zs V a (V a) = V := by
  funext r
  unfold zs
  by_cases h : r = a
  · subst h; simp
  · simp [h]
theorem zs_comm {V : zM} {a b : Int} {f g : Int → Int} (h : a ≠ b) : zs (zs V a f) b g = zs (zs V b g) a f := by
  funext r
  unfold zs
  by_cases h1 : r = a
  · subst h1; simp [h]
  · simp [h1]
theorem zwr_s {V : zM} {a i v : Int} : zwr V a i v = zs V a (fun j => if j = i then v else V a j) := by
  funext r j
  simp only [zwr_eq, zs_eq]
  by_cases h : r = a
  · subst h; simp
  · simp [h]
theorem zs_zs {V : zM} {a : Int} {f g : Int → Int} : zs (zs V a f) a g = zs V a g := by
  funext r
  unfold zs
  by_cases h1 : r = a <;> simp [h1]
abbrev zR3 : Type := Int × Int × (Int → Int)
def zrk (hard c k : Int) (st : zR3) : zR3 :=
  if zand (st.2.2 c / 2 ^ k.toNat) 1 = 0 then st else
    if hard ≤ (st.1 * 1103 + 12345) % 1000003 % 100 then ((st.1 * 1103 + 12345) % 1000003, st.2.1, st.2.2)
    else ((st.1 * 1103 + 12345) % 1000003, st.2.1 + 1, fun j => if j = c then zand (st.2.2 c) (zxor ((2 : Int) ^ k.toNat) (-1)) else st.2.2 j)
def zrf (hard : Int) (st : zR3) : Nat → zR3
  | 0 => st
  | m + 1 => zrk hard ((m / 7 : Nat) : Int) ((m % 7 : Nat) : Int) (zrf hard st m)
def zrok (m : Nat) (st : zR3) : Prop := (0 ≤ st.1 ∧ st.1 ≤ 1000002) ∧ (0 ≤ st.2.1 ∧ st.2.1 ≤ m) ∧ ∀ c, 0 ≤ c → c < 16 → 0 ≤ st.2.2 c ∧ st.2.2 c < 128
theorem zrk_ok {m : Nat} {hard c k : Int} {st : zR3} (h : zrok m st) (hc : 0 ≤ c ∧ c < 16) : zrok (m + 1) (zrk hard c k st) := by
  obtain ⟨h1, h2, h3⟩ := h
  unfold zrk
  split
  · exact ⟨h1, by omega, h3⟩
  · split
    · exact ⟨⟨by show 0 ≤ (st.1 * 1103 + 12345) % 1000003; omega, by show (st.1 * 1103 + 12345) % 1000003 ≤ 1000002; omega⟩, ⟨by show 0 ≤ st.2.1; omega, by show st.2.1 ≤ _; omega⟩, h3⟩
    · refine ⟨⟨by show 0 ≤ (st.1 * 1103 + 12345) % 1000003; omega, by show (st.1 * 1103 + 12345) % 1000003 ≤ 1000002; omega⟩, ⟨by show 0 ≤ st.2.1 + 1; omega, by show st.2.1 + 1 ≤ _; omega⟩, fun d g1 g2 => ?_⟩
      show 0 ≤ (if d = c then _ else _) ∧ (if d = c then _ else _) < 128
      split
      · have q := h3 c hc.1 hc.2
        have := zand_n (x := st.2.2 c) (y := zxor ((2 : Int) ^ k.toNat) (-1)) q.1 (by omega)
        omega
      · exact h3 d g1 g2
theorem zrf_ok {hard : Int} {st : zR3} (h : zrok 0 st) (m : Nat) (hm : m ≤ 112) : zrok m (zrf hard st m) := by
  induction m with
  | zero => exact h
  | succ m ih => exact zrk_ok (ih (by omega)) (by omega)
theorem zrf_s {hard : Int} {st : zR3} {c k : Int} (hc : 0 ≤ c) (hk : 0 ≤ k ∧ k < 7) : zrf hard st (7 * c + (k + 1)).toNat = zrk hard c k (zrf hard st (7 * c + k).toNat) := by
  have e : (7 * c + (k + 1)).toNat = (7 * c + k).toNat + 1 := by omega
  rw [e, zrf]
  congr 1 <;> omega
section RAIN
variable {n : Int} {T : zT} {V : zM}
theorem c142 {b N x1 x2 : Int} (h : zState T b) (hN : V b 0 = N) (hN2 : 0 ≤ N ∧ N ≤ 16) (h0 : zrok 0 (x1, 0, V (b + 1))) : zcall 142 [(2, b), (0, x1), (0, x2)] T V = some ((0, (zrf x2 (x1, 0, V (b + 1)) (7 * N).toNat).2.1), T, zs V (b + 1) (zrf x2 (x1, 0, V (b + 1)) (7 * N).toNat).2.2) := by
  have hok := fun m hm => zrf_ok (hard := x2) h0 m hm
  generalize hR : zrf x2 (x1, 0, V (b + 1)) = R at *
  have hs : ∀ c k : Int, 0 ≤ c → 0 ≤ k → k < 7 → R (7 * c + (k + 1)).toNat = zrk x2 c k (R (7 * c + k).toNat) := fun c k g1 g2 g3 => by
    rw [← hR]; exact zrf_s g1 ⟨g2, g3⟩
  have inner : ∀ c : Int, 0 ≤ c → c < 16 → ev 142 21 [(2, b), (0, x1), (0, x2), (1, (R (7 * c + 0).toNat).1), (9, 0), (0, (R (7 * c + 0).toNat).2.1), (0, c), (0, 0)] [] T (zs V (b + 1) (R (7 * c + 0).toNat).2.2) = ev 142 21 [(2, b), (0, x1), (0, x2), (1, (R (7 * c + 7).toNat).1), (9, 0), (0, (R (7 * c + 7).toNat).2.1), (0, c), (0, 7)] [] T (zs V (b + 1) (R (7 * c + 7).toNat).2.2) := fun c c1 c2 =>
    zfor (fun k => ev 142 21 [(2, b), (0, x1), (0, x2), (1, (R (7 * c + k).toNat).1), (9, 0), (0, (R (7 * c + k).toNat).2.1), (0, c), (0, k)] [] T (zs V (b + 1) (R (7 * c + k).toNat).2.2)) (by decide) (fun k k1 k2 => by
      show ev 142 21 _ _ _ _ = ev 142 21 _ _ _ _
      obtain ⟨o1, o2, o3⟩ := hok (7 * c + k).toNat (by omega)
      rw [hs c k c1 k1 k2]
      generalize R (7 * c + k).toNat = st at *
      rw [b142_21, if_neg (by omega), b142_28 h ⟨c1, c2⟩ (by omega), zsr_same]
      unfold zrk
      by_cases q : zand (st.2.2 c / 2 ^ k.toNat) 1 = 0
      · rw [if_pos q, if_pos q, b142_87 (by omega)]
      · rw [if_neg q, if_neg q, b142_43 (by omega) (by omega) (by omega) (by omega)]
        by_cases q2 : x2 ≤ (st.1 * 1103 + 12345) % 1000003 % 100
        · rw [if_pos q2, if_pos q2, b142_87 (by omega)]
        · rw [if_neg q2, if_neg q2, b142_68 h ⟨c1, c2⟩ (by omega) (by omega), b142_87 (by omega), zwr_zs, zsr_same])
  have outer := zfor (fun c => ev 142 9 [(2, b), (0, x1), (0, x2), (1, (R (7 * c).toNat).1), (9, 0), (0, (R (7 * c).toNat).2.1), (0, c), if c = 0 then (9, 0) else (0, 7)] [] T (zs V (b + 1) (R (7 * c).toNat).2.2)) hN2.1 (fun c c1 c2 => by
    show ev 142 9 _ _ _ _ = ev 142 9 _ _ _ _
    have := inner c c1 (by omega)
    rw [Int.add_zero] at this
    rw [b142_9 h, if_neg (by rw [zsr_ne (by omega), hN]; omega), b142_18, this, b142_21, if_pos (by decide), b142_93 (by omega), if_neg (by omega), show 7 * (c + 1) = 7 * c + 7 by omega])
  have hR0 : R 0 = (x1, 0, V (b + 1)) := by rw [← hR]; rfl
  rw [e142, b142_0]
  have o2 := outer
  simp only [Int.mul_zero, Int.toNat_zero, hR0, if_true, zs_id] at o2
  rw [o2, b142_9 h, if_pos (by rw [zsr_ne (by omega), hN]; omega), b142_99]
/-- the reference's wall while it rains -/
def zwf (V : zM) (f : Int → Int) : Int → Int := fun i => if 300 ≤ i ∧ i < 316 then f (i - 300) else V 132 i
theorem c241 {N x1 x2 : Int} (hS : zStr T) (hN : V 132 427 = N) (hN2 : 0 ≤ N ∧ N ≤ 16) (hx : 0 ≤ x1 ∧ x1 ≤ 1000000) (hx2 : 0 ≤ x2 ∧ x2 ≤ 100) (h0 : zrok 0 (x1, 0, fun c => V 132 (300 + c))) : zcall 241 [(2, 130), (0, x1), (0, x2)] T V = some ((0, (zrf x2 (x1, 0, fun c => V 132 (300 + c)) (7 * N).toNat).2.1), T, zwr (zwr (zs V 132 (zwf V (zrf x2 (x1, 0, fun c => V 132 (300 + c)) (7 * N).toNat).2.2)) 130 37 (zrf x2 (x1, 0, fun c => V 132 (300 + c)) (7 * N).toNat).1) 130 0 0) := by
  have hok := fun m hm => zrf_ok (hard := x2) h0 m hm
  generalize hR : zrf x2 (x1, 0, fun c => V 132 (300 + c)) = R at *
  have hs : ∀ c k : Int, 0 ≤ c → 0 ≤ k → k < 7 → R (7 * c + (k + 1)).toNat = zrk x2 c k (R (7 * c + k).toNat) := fun c k g1 g2 g3 => by
    rw [← hR]; exact zrf_s g1 ⟨g2, g3⟩
  have r132 : ∀ (f : Int → Int) (s c : Int), 0 ≤ c → c < 16 → zwr (zs V 132 (zwf V f)) 130 37 s 132 (300 + c) = f c := fun f s c g1 g2 => by
    rw [zwr_ne (by decide), zsr_same]
    unfold zwf
    rw [if_pos (by omega), show 300 + c - 300 = c by omega]
  have r427 : ∀ (f : Int → Int) (s : Int), zwr (zs V 132 (zwf V f)) 130 37 s 132 427 = N := fun f s => by
    rw [zwr_ne (by decide), zsr_same]
    unfold zwf
    rw [if_neg (by omega), hN]
  have w37 : ∀ (f : Int → Int) (s s' : Int), zwr (zwr (zs V 132 (zwf V f)) 130 37 s) 130 37 s' = zwr (zs V 132 (zwf V f)) 130 37 s' := fun f s s' => by
    funext r j
    simp only [zwr_eq]
    (repeat' split) <;> rfl
  have w132 : ∀ (f : Int → Int) (s c v : Int), 0 ≤ c → c < 16 → zwr (zwr (zs V 132 (zwf V f)) 130 37 s) 132 (300 + c) v = zwr (zs V 132 (zwf V (fun j => if j = c then v else f j))) 130 37 s := fun f s c v g1 g2 => by
    funext r j
    simp only [zwr_eq, zs_eq, zwf]
    by_cases h1 : r = 132
    · subst h1
      simp only [true_and, if_true]
      (repeat' split) <;> first | rfl | (exfalso; omega)
    · simp only [h1, false_and, if_false]
  have inner : ∀ c : Int, 0 ≤ c → c < 16 → ev 241 52 [(2, 130), (0, x1), (0, x2), (0, (R (7 * c + 0).toNat).2.1), (0, c), (0, 0)] [] T (zwr (zs V 132 (zwf V (R (7 * c + 0).toNat).2.2)) 130 37 (R (7 * c + 0).toNat).1) = ev 241 52 [(2, 130), (0, x1), (0, x2), (0, (R (7 * c + 7).toNat).2.1), (0, c), (0, 7)] [] T (zwr (zs V 132 (zwf V (R (7 * c + 7).toNat).2.2)) 130 37 (R (7 * c + 7).toNat).1) := fun c c1 c2 =>
    zfor (fun k => ev 241 52 [(2, 130), (0, x1), (0, x2), (0, (R (7 * c + k).toNat).2.1), (0, c), (0, k)] [] T (zwr (zs V 132 (zwf V (R (7 * c + k).toNat).2.2)) 130 37 (R (7 * c + k).toNat).1)) (by decide) (fun k k1 k2 => by
      show ev 241 52 _ _ _ _ = ev 241 52 _ _ _ _
      obtain ⟨o1, o2, o3⟩ := hok (7 * c + k).toNat (by omega)
      rw [hs c k c1 k1 k2]
      generalize R (7 * c + k).toNat = st at *
      have e37 : zwr (zs V 132 (zwf V st.2.2)) 130 37 st.1 130 37 = st.1 := by rw [zwr_same, if_pos rfl]
      rw [b241_52, if_neg (by omega), b241_59 hS (by omega) (by omega) (by omega), r132 _ _ _ c1 c2]
      unfold zrk
      by_cases q : zand (st.2.2 c / 2 ^ k.toNat) 1 = 0
      · rw [if_pos q, if_pos q, b241_114 (by omega)]
      · rw [if_neg q, if_neg q, b241_78 hS, e242, b242_0 hS (by rw [e37]; omega) (by rw [e37]; omega) (by rw [e37]; omega) (by rw [e37]; omega) (by rw [zwr_same, if_pos rfl, e37]; omega)]
        simp only [Option.bind_some, zpush0]
        rw [e37, w37, zwr_same, if_pos rfl, Int.mul_comm 1103 st.1, b241_84]
        by_cases q2 : x2 ≤ (st.1 * 1103 + 12345) % 1000003 % 100
        · rw [if_neg (by omega), if_pos q2, b241_88, b241_114 (by omega)]
        · rw [if_pos (by omega), if_neg q2, b241_91 hS (by omega) (by omega) (by omega) (by omega), b241_114 (by omega), w132 _ _ _ _ c1 c2, r132 _ _ _ c1 c2])
  have outer := zfor (fun c => ev 241 36 [(2, 130), (0, x1), (0, x2), (0, (R (7 * c).toNat).2.1), (0, c), if c = 0 then (9, 0) else (0, 7)] [] T (zwr (zs V 132 (zwf V (R (7 * c).toNat).2.2)) 130 37 (R (7 * c).toNat).1)) hN2.1 (fun c c1 c2 => by
    show ev 241 36 _ _ _ _ = ev 241 36 _ _ _ _
    have := inner c c1 (by omega)
    rw [Int.add_zero] at this
    rw [b241_36 hS, if_neg (by rw [r427]; omega), b241_49, this, b241_52, if_pos (by decide), b241_120 (by omega), if_neg (by omega), show 7 * (c + 1) = 7 * c + 7 by omega])
  have hR0 : R 0 = (x1, 0, fun c => V 132 (300 + c)) := by rw [← hR]; rfl
  have hz : zs V 132 (zwf V (fun c => V 132 (300 + c))) = V := by
    have : zwf V (fun c => V 132 (300 + c)) = V 132 := by
      funext i
      unfold zwf
      split
      · show V 132 (300 + (i - 300)) = _; congr 1; omega
      · rfl
    rw [this, zs_id]
  have o2 := outer
  simp only [Int.mul_zero, Int.toNat_zero, hR0, if_true, hz] at o2
  have k1 : (1 : Int) = 0 ↔ False := by decide
  rw [e241, b241_0, c150, if_pos (by omega)]
  simp only [Option.bind_some, zpush0]
  rw [b241_7, if_neg (by decide), b241_10, c150, if_pos (by omega)]
  simp only [Option.bind_some, zpush0]
  rw [b241_17, if_neg (by decide), b241_26 hS, o2, b241_36 hS, if_pos (by rw [r427]; omega), b241_126 hS, c152 hS]
  simp only [Option.bind_some, zpush0]
  rw [b241_131]
theorem zrf_congr {hard : Int} {s o : Int} {f g : Int → Int} (h : ∀ c, 0 ≤ c → c < 16 → f c = g c) (m : Nat) (hm : m ≤ 112) : (zrf hard (s, o, f) m).1 = (zrf hard (s, o, g) m).1 ∧ (zrf hard (s, o, f) m).2.1 = (zrf hard (s, o, g) m).2.1 ∧ ∀ c, 0 ≤ c → c < 16 → (zrf hard (s, o, f) m).2.2 c = (zrf hard (s, o, g) m).2.2 c := by
  induction m with
  | zero => exact ⟨rfl, rfl, h⟩
  | succ m ih =>
    obtain ⟨h1, h2, h3⟩ := ih (by omega)
    rw [zrf, zrf]
    generalize zrf hard (s, o, f) m = A at *
    generalize zrf hard (s, o, g) m = B at *
    have hc : (0 : Int) ≤ ((m / 7 : Nat) : Int) ∧ ((m / 7 : Nat) : Int) < 16 := by omega
    generalize ((m / 7 : Nat) : Int) = c at hc ⊢
    generalize ((m % 7 : Nat) : Int) = k
    have e := h3 c hc.1 hc.2
    unfold zrk
    rw [e, h1, h2]
    split
    · exact ⟨h1, h2, h3⟩
    · split
      · exact ⟨rfl, rfl, h3⟩
      · refine ⟨rfl, rfl, fun d g1 g2 => ?_⟩
        show (if d = c then _ else A.2.2 d) = if d = c then _ else B.2.2 d
        rw [h3 d g1 g2]
theorem zrf_far {hard : Int} {st : zR3} (m : Nat) (c : Int) (hc : (m : Int) ≤ 7 * c) : (zrf hard st m).2.2 c = st.2.2 c := by
  induction m with
  | zero => rfl
  | succ m ih =>
    rw [zrf]
    unfold zrk
    split
    · exact ih (by omega)
    · split
      · exact ih (by omega)
      · show (if c = _ then _ else _) = _
        rw [if_neg (by omega)]
        exact ih (by omega)
end RAIN
