/-! the reference: laysSteps, one place -/
/-- a place laid -/
def zPlc (V V' : zM) (K : Int → Int) (a t m n o at_ : Int) : Prop := (∀ r, r ≠ 145 → r ≠ 146 → V' r = V r) ∧ (∀ j, j ≠ at_ → V' 146 j = V 146 j) ∧ (∀ j, j < at_ * 27 ∨ at_ * 27 + 27 ≤ j → V' 145 j = V 145 j) ∧ V' 146 at_ = zif (zwho K a t m n o ∧ m = zms K a t - 1) 1 0 ∧ V' 145 (at_ * 27 + 26) = zif (zwho K a t m n o) (if a = 1 then 0 else if m < zms K a t - 1 then zpl (m + 1) 0 0 else -1) (-1) ∧ ∀ s, 0 ≤ s → s < 26 → V' 145 (at_ * 27 + s) = zif (zlst (zfol K a t m n o s) (K (284 + t)).toNat < K (284 + t)) (zpl m (n + 1) (zlst (zfol K a t m n o s) (K (284 + t)).toNat)) (-1)
section LAYP
variable {T : zT} {V : zM} {K : Int → Int} {Q : zV → zT → zM → Prop}
theorem zSw_lst {V V' : zM} {a t m n o x s : Int} (hc : 0 ≤ K (284 + t)) (h : zSw V V' K a t m n o x 0) (hs : 0 ≤ s ∧ s < 26) (h1 : V 145 (x + s) = -1) : V' 145 (x + s) = zif (zlst (zfol K a t m n o s) (K (284 + t)).toNat < K (284 + t)) (zpl m (n + 1) (zlst (zfol K a t m n o s) (K (284 + t)).toNat)) (-1) := by
  rcases h.2.2 s hs.1 hs.2 with ⟨q1, q2⟩ | ⟨w, q1, q2, q3, q4⟩
  · rw [q2, h1]
    have e : zlst (zfol K a t m n o s) (K (284 + t)).toNat = K (284 + t) := zlst_u (by omega) (fun z => by omega) (fun l l1 l2 => q1 l l1 l2)
    rw [e, zif_f (by omega)]
  · have e : zlst (zfol K a t m n o s) (K (284 + t)).toNat = w := zlst_u (by omega) (fun _ => q2) (fun l l1 l2 => q3 l l1 l2)
    rw [e, zif_t q1.2, q4]
theorem c212p {t f m n o a : Int} {v7 v8 : zV} (hS : zStr T) (hK : zKe V K) (hW : zKw K) (ht : t = 0 ∨ t = 1) (hf : f = 224 * t) (ha : V 130 31 = a) (ha2 : a = 0 ∨ a = 1) (hms : zms K a t ≤ 4) (hm : 0 ≤ m ∧ m < zms K a t) (hn : 0 ≤ n ∧ n ≤ 6) (ho : 0 ≤ o ∧ o < 8) (ho2 : 0 < n → o < K (284 + t)) (h6 : V 146 (f + zpl m n o) = 0) (h5 : ∀ s, 0 ≤ s → s < 27 → V 145 ((f + zpl m n o) * 27 + s) = -1)
    (kont : ∀ V' x8, zPlc V V' K a t m n o (f + zpl m n o) → zwp (ev 212 367 [(2, 130), (0, t), (0, zms K a t), (0, f), (0, m), (0, n), (0, o), (0, f + zpl m n o), (0, x8)] [] T V') Q) : zwp (ev 212 175 [(2, 130), (0, t), (0, zms K a t), (0, f), (0, m), (0, n), (0, o), v7, v8] [] T V) Q := by
  have hh := hW t ht
  have hz : 0 ≤ zpl m n o ∧ zpl m n o < 224 := by unfold zpl; omega
  obtain ⟨x, hx⟩ : ∃ x, f + zpl m n o = x := ⟨_, rfl⟩
  have hxr : 0 ≤ x ∧ x < 448 := by omega
  rw [hx] at h5 h6 kont
  obtain ⟨y, f1, f2⟩ := c214 (m := m) (n := n) (o := o) hS hK hW ht ha ha2 hm hn (fun z => ⟨ho.1, ho2 z⟩)
  rw [b212_175, c213 (by omega) (by omega) ho]
  simp only [Option.bind_some, zpush0]
  rw [b212_185 hS (by omega), f1, hx]
  simp only [Option.bind_some, zpush0]
  rw [b212_199]
  -- the letters, behind what the gap left
  have rest : ∀ V1 v8, (∀ r, r ≠ 145 → r ≠ 146 → V1 r = V r) → (∀ j, j ≠ x → V1 146 j = V 146 j) → (∀ j, j ≠ x * 27 + 26 → V1 145 j = V 145 j) → V1 146 x = zif (zwho K a t m n o ∧ m = zms K a t - 1) 1 0 → V1 145 (x * 27 + 26) = zif (zwho K a t m n o) (if a = 1 then 0 else if m < zms K a t - 1 then zpl (m + 1) 0 0 else -1) (-1) → zwp (ev 212 267 [(2, 130), (0, t), (0, zms K a t), (0, f), (0, m), (0, n), (0, o), (0, x), v8] [] T V1) Q := by
    intro V1 v8 k1 k2 k3 k4 k5
    have hK1 : zKe V1 K := fun j hj => by rw [k1 132 (by decide) (by decide)]; exact hK j hj
    have e1 : V1 132 (284 + t) = K (284 + t) := hK1 _ (by omega)
    rw [b212_267 hS (by omega) (by omega) (by rw [e1]; omega), e1]
    refine c212w hS hK1 hW ht (by rw [k1 130 (by decide) (by decide)]; exact ha) ha2 hms hm hn (fun z => ⟨ho.1, ho2 z⟩) hxr (fun V' x8 hw => ?_)
    refine kont V' x8 ⟨fun r r1 r2 => by rw [hw.1 r r1, k1 r r1 r2], fun j hj => by rw [hw.1 146 (by decide), k2 j hj], fun j hj => by rw [hw.2.1 j (by omega), k3 j (by omega)], by rw [hw.1 146 (by decide), k4], by rw [hw.2.1 _ (by omega), k5], fun s s1 s2 => ?_⟩
    exact zSw_lst hh.1.1 hw ⟨s1, s2⟩ (by rw [k3 _ (by omega)]; exact h5 s s1 (by omega))
  rcases f2 with ⟨rfl, f2⟩ | ⟨rfl, f2⟩
  · rw [if_neg (by decide), b212_202 hS (by omega)]
    have gap : ∀ b, b = zif (zwho K a t m n o ∧ m = zms K a t - 1) 1 0 → zwp (ev 212 221 [(2, 130), (0, t), (0, zms K a t), (0, f), (0, m), (0, n), (0, o), (0, x), v8] [(0, b), (0, x), (2, 146)] T V) Q := by
      intro b hb
      have hb2 : 0 ≤ b ∧ b ≤ 1 := by
        by_cases c : zwho K a t m n o ∧ m = zms K a t - 1
        · rw [hb, zif_t c]; decide
        · rw [hb, zif_f c]; decide
      have ha' : zwr V 146 x b 130 31 = a := by rw [zwr_ne (by decide)]; exact ha
      have put : ∀ d, d = (if a = 1 then 0 else if m < zms K a t - 1 then zpl (m + 1) 0 0 else -1) → zwp (ev 212 266 [(2, 130), (0, t), (0, zms K a t), (0, f), (0, m), (0, n), (0, o), (0, x), v8] [(0, d), (0, x * 27 + 26), (2, 145)] T (zwr V 146 x b)) Q := by
        intro d hd
        rw [b212_266 hS (by omega)]
        refine rest _ _ (fun r r1 r2 => by rw [zwr_ne r1, zwr_ne r2]) (fun j hj => by rw [zwr_ne (by decide), zwr_same, if_neg hj]) (fun j hj => by rw [zwr_same, if_neg hj, zwr_ne (by decide)]) (by rw [zwr_ne (by decide), zwr_same, if_pos rfl, hb]) (by rw [zwr_same, if_pos rfl, zif_t f2, hd])
      rw [b212_221 hS hxr hb2 (by omega) (by omega), ha']
      rcases ha2 with rfl | rfl
      · rw [if_pos rfl, b212_245 (by omega)]
        by_cases c : zms K 0 t - 1 ≤ m
        · rw [if_pos c, b212_265]
          exact put _ (by rw [if_neg (by decide), if_neg (by omega)])
        · rw [if_neg c, b212_253 (by omega), c213 (by omega) (by omega) (by omega)]
          simp only [Option.bind_some, zpush0]
          rw [b212_262]
          exact put _ (by rw [if_neg (by decide), if_pos (by omega)])
      · rw [if_neg (by decide), b212_241]
        exact put _ (by rw [if_pos rfl])
    by_cases c : m = zms K a t - 1
    · rw [if_pos c, b212_216]; exact gap 1 (by rw [zif_t ⟨f2, c⟩])
    · rw [if_neg c, b212_220]; exact gap 0 (by rw [zif_f (fun z => c z.2)])
  · rw [if_pos rfl]
    exact rest V _ (fun _ _ _ => rfl) (fun _ _ => rfl) (fun _ _ => rfl) (by rw [h6, zif_f (fun z => f2 z.1)]) (by rw [h5 26 (by decide) (by decide), zif_f f2])
end LAYP
