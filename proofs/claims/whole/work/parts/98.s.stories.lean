/-! the reference: laysStories -/
def zSto (V : zM) (K : Int → Int) (a : Int) : Prop := V 130 31 = a ∧ V 147 0 = zuse K a 0 ∧ V 147 1 = zuse K a 1 ∧ (∀ q, 0 ≤ q → q < 224 → zLd V K a 0 0 q) ∧ ∀ q, 0 ≤ q → q < 224 → zLd V K a 1 224 q
section STORIES
variable {T : zT} {V : zM} {K : Int → Int}
theorem c211t {a : Int} {Q : zV → zT → zM → Prop} (hS : zStr T) (hK : zKe V K) (hW : zKw K) (ha2 : a = 0 ∨ a = 1) (kont : ∀ V', (∀ r, r ≠ 130 → r ≠ 145 → r ≠ 146 → r ≠ 147 → V' r = V r) → (∀ j, j ≠ 31 → V' 130 j = V 130 j) → zSto V' K a → zwp (ev 211 15 [(2, 130), (0, a)] [] T V') Q) : zwp (zcall 211 [(2, 130), (0, a)] T V) Q := by
  have hK0 : zKe (zwr V 130 31 a) K := fun j hj => by rw [zwr_ne (by decide)]; exact hK j hj
  rw [e211, b211_0 hS (by omega)]
  obtain ⟨r1, T1, V1, a1, a2, a3, a4, a5⟩ := c212 (V := zwr V 130 31 a) (t := 0) (a := a) hS hK0 hW (Or.inl rfl) (by rw [zwr_same, if_pos rfl]) ha2
  subst a2; subst a3
  rw [a1]
  simp only [Option.bind_some, zpush9]
  have k1 : ∀ r, r ≠ 145 → r ≠ 146 → r ≠ 147 → V1 r = zwr V 130 31 a r := fun r h1 h2 h3 => by rw [a4.1 r h1 h2, zwr_ne h3]
  have hK1 : zKe V1 K := fun j hj => by rw [k1 132 (by decide) (by decide) (by decide)]; exact hK0 j hj
  have e31 : V1 130 31 = a := by rw [k1 130 (by decide) (by decide) (by decide), zwr_same, if_pos rfl]
  obtain ⟨r2, T2, V2, b1, b2, b3, b4, b5⟩ := c212 (V := V1) (t := 1) (a := a) hS hK1 hW (Or.inr rfl) e31 ha2
  subst b2; subst b3
  rw [b211_10 hS, b1]
  simp only [Option.bind_some, zpush9]
  have k2 : ∀ r, r ≠ 145 → r ≠ 146 → r ≠ 147 → V2 r = V1 r := fun r h1 h2 h3 => by rw [b4.1 r h1 h2, zwr_ne h3]
  refine kont V2 (fun r h0 h1 h2 h3 => by rw [k2 r h1 h2 h3, k1 r h1 h2 h3, zwr_ne h0]) (fun j hj => by rw [k2 130 (by decide) (by decide) (by decide), k1 130 (by decide) (by decide) (by decide), zwr_same, if_neg hj]) ⟨?_, ?_, ?_, fun q q1 q2 => ?_, b5⟩
  · rw [k2 130 (by decide) (by decide) (by decide), e31]
  · rw [b4.1 147 (by decide) (by decide), zwr_same, if_neg (by decide), a4.1 147 (by decide) (by decide), zwr_same, if_pos rfl]
  · rw [b4.1 147 (by decide) (by decide), zwr_same, if_pos rfl]
  · obtain ⟨c1, c2⟩ := a5 q q1 q2
    refine ⟨?_, fun s s1 s2 => ?_⟩
    · rw [b4.2.1 (0 + q) (by omega), zwr_ne (by decide)]
      exact c1
    · rw [b4.2.2 ((0 + q) * 27 + s) (by omega), zwr_ne (by decide)]
      exact c2 s s1 s2
end STORIES
