/-! the reference: words and places -/
def zKe (V : zM) (K : Int → Int) : Prop := ∀ i, ((0 ≤ i ∧ i < 300) ∨ (366 ≤ i ∧ i < 376)) → V 132 i = K i
def zKw (K : Int → Int) : Prop := ∀ t, t = 0 ∨ t = 1 → (0 ≤ K (284 + t) ∧ K (284 + t) ≤ 8) ∧ (0 ≤ K (374 + t) ∧ K (374 + t) ≤ 4) ∧ ∀ w, 0 ≤ w → w < K (284 + t) → (1 ≤ zwl K t w ∧ zwl K t w ≤ 6) ∧ ∀ k, 0 ≤ k → k < zwl K t w → 0 ≤ zla K t w k ∧ zla K t w k ≤ 25
theorem zKw_of {K : Int → Int} (h : zKok K) : zKw (zkc K) := by
  intro t ht
  have hm := h.many (t := t) (by omega) (by omega)
  rw [show zkc K (284 + t) = K (284 + t) from zkc_in (by omega), show zkc K (374 + t) = K (374 + t) from zkc_in (by omega)]
  refine ⟨hm.1, hm.2.2, fun w w1 w2 => ?_⟩
  have hw := (h.wrd (t := t) (by omega) (by omega) w1 w2).2
  have e : zwl (zkc K) t w = K (156 + 8 * (8 * t + w) + 1) := zkc_in (by omega)
  rw [e]
  refine ⟨hw, fun k k1 k2 => ?_⟩
  unfold zla
  rw [e]
  have : ∃ i, (0 ≤ i ∧ i < 6) ∧ (if t = 0 then k else K (156 + 8 * (8 * t + w) + 1) - 1 - k) = i := by
    by_cases c : t = 0
    · exact ⟨k, by omega, if_pos c⟩
    · exact ⟨_, by omega, if_neg c⟩
  obtain ⟨i, i1, i2⟩ := this
  rw [i2, zkc_in (by omega)]
  exact h.ltr (by omega) (by omega) w1 (by omega) i1.1 i1.2
section REF
variable {T : zT} {V : zM} {K : Int → Int} {t : Int}
theorem zKe_w (hK : zKe V K) (ht : t = 0 ∨ t = 1) {w f : Int} (hw : 0 ≤ w ∧ w < 8) (hf : 0 ≤ f ∧ f ≤ 7) : V 132 (156 + 8 * (8 * t + w) + f) = K (156 + 8 * (8 * t + w) + f) := hK _ (by omega)
theorem c213 {m n w : Int} (hm : 0 ≤ m ∧ m ≤ 4) (hn : 0 ≤ n ∧ n ≤ 7) (hw : 0 ≤ w ∧ w < 8) : zcall 213 [(0, m), (0, n), (0, w)] T V = some ((0, zpl m n w), T, V) := by
  rw [e213, b213_0 (by omega) (by omega) (by omega) (by omega)]
  rfl
theorem c217 {w k : Int} (hS : zStr T) (hK : zKe V K) (hW : zKw K) (ht : t = 0 ∨ t = 1) (hw : 0 ≤ w ∧ w < K (284 + t)) (hk : 0 ≤ k ∧ k < zwl K t w) : zcall 217 [(2, 130), (0, t), (0, w), (0, k)] T V = some ((0, zla K t w k), T, V) := by
  have hm := hW t ht
  have hl := (hm.2.2 w hw.1 hw.2).1
  have e1 : V 132 (156 + 8 * (8 * t + w) + 1) = zwl K t w := zKe_w hK ht (by omega) (by decide)
  rw [e217, b217_0]
  unfold zla
  by_cases c : t = 0
  · rw [if_pos c, if_pos c, b217_8, b217_23 hS (by omega), c187 hS (by omega) (by omega) (by omega)]
    simp only [Option.bind_some, zpush0]
    rw [b217_27, zKe_w hK ht (by omega) (by omega)]
  · rw [if_neg c, if_neg c, b217_12 hS, c187 hS (by omega) (by omega) (by omega), e1]
    simp only [Option.bind_some, zpush0]
    rw [b217_19 (by omega) (by omega), b217_23 hS (by omega), c187 hS (by omega) (by omega) (by omega)]
    simp only [Option.bind_some, zpush0]
    rw [b217_27, zKe_w hK ht (by omega) (by omega)]
theorem c215 {w m : Int} {a : Int} (hS : zStr T) (hK : zKe V K) (hW : zKw K) (ht : t = 0 ∨ t = 1) (ha : V 130 31 = a) (ha2 : a = 0 ∨ a = 1) (hw : 0 ≤ w ∧ w < K (284 + t)) (hm : 0 ≤ m ∧ m < zms K a t) : ∃ y, zcall 215 [(2, 130), (0, t), (0, w), (0, m)] T V = some ((0, y), T, V) ∧ ((y = 1 ∧ zfits K a t w m) ∨ (y = 0 ∧ ¬ zfits K a t w m)) := by
  have hh := hW t ht
  rw [e215, b215_0 hS, ha]
  rcases ha2 with rfl | rfl
  · have hms : zms K 0 t = K (374 + t) := if_neg (by decide)
    rw [hms] at hm
    have e0 : V 132 (156 + 8 * (8 * t + w) + 0) = zmn K t w := by
      rw [zKe_w hK ht (by omega) (by decide)]
      unfold zmn
      rw [Int.add_zero]
    rw [if_pos rfl, b215_9 hS (by omega) (by omega), c187 hS (by omega) (by omega) (by omega), e0, hK (374 + t) (by omega)]
    simp only [Option.bind_some, zpush0]
    have fin : ∀ i, (if t = 0 then m else K (374 + t) - 1 - m) = i → 0 ≤ i ∧ i < 4 → ∃ y, ev 215 53 [(2, 130), (0, t), (0, w), (0, m), (0, K (374 + t))] [(0, i), (0, 366 + 4 * t), (2, 132), (0, zmn K t w)] T V = some ((0, y), T, V) ∧ ((y = 1 ∧ zfits K 0 t w m) ∨ (y = 0 ∧ ¬ zfits K 0 t w m)) := fun i hi i1 => by
      rw [b215_53 hS (by omega) (by omega), hK (366 + 4 * t + i) (by omega)]
      by_cases c : zmn K t w = K (366 + 4 * t + i)
      · refine ⟨1, by rw [if_pos c, b215_58, b215_63 (by decide)], Or.inl ⟨rfl, Or.inr ?_⟩⟩
        rw [hi]; exact c
      · refine ⟨0, by rw [if_neg c, b215_62, b215_63 (by decide)], Or.inr ⟨rfl, fun z => ?_⟩⟩
        rcases z with z | z
        · exact absurd z (by decide)
        · rw [hi] at z; exact c z
    rw [b215_28 hS (by omega) (by omega)]
    by_cases c : t = 0
    · rw [if_pos c, b215_43]
      exact fin m (if_pos c) (by omega)
    · rw [if_neg c, b215_47 (by omega) (by omega)]
      exact fin _ (if_neg c) (by omega)
  · rw [if_neg (by decide), b215_7]
    exact ⟨1, rfl, Or.inl ⟨rfl, Or.inl rfl⟩⟩
theorem c216 {w o n : Int} (hS : zStr T) (hK : zKe V K) (hW : zKw K) (ht : t = 0 ∨ t = 1) (hw : 0 ≤ w ∧ w < K (284 + t)) (ho : 0 ≤ o ∧ o < K (284 + t)) (hn : 0 ≤ n ∧ n ≤ 6) : ∃ y, zcall 216 [(2, 130), (0, t), (0, w), (0, o), (0, n)] T V = some ((0, y), T, V) ∧ ((y = 1 ∧ zalk K t w o n) ∨ (y = 0 ∧ ¬ zalk K t w o n)) := by
  have hh := hW t ht
  have e1 : V 132 (156 + 8 * (8 * t + w) + 1) = zwl K t w := zKe_w hK ht (by omega) (by decide)
  have e2 : V 132 (156 + 8 * (8 * t + o) + 1) = zwl K t o := zKe_w hK ht (by omega) (by decide)
  rw [e216, b216_0 hS, c187 hS (by omega) (by omega) (by omega), e1]
  simp only [Option.bind_some, zpush0]
  rw [b216_7]
  by_cases c1 : zwl K t w < n
  · exact ⟨0, by rw [if_pos c1, b216_24], Or.inr ⟨rfl, fun z => by have := z.1; omega⟩⟩
  · rw [if_neg c1, b216_12 hS, c187 hS (by omega) (by omega) (by omega), e2]
    simp only [Option.bind_some, zpush0]
    rw [b216_19]
    by_cases c2 : n ≤ zwl K t o
    · rw [if_pos c2, b216_26]
      have := zup (α := Unit) (fun i _ => ∀ k, 0 ≤ k → k < i → zla K t w k = zla K t o k) (fun i _ => ∃ y, ev 216 29 [(2, 130), (0, t), (0, w), (0, o), (0, n), (0, i)] [] T V = some ((0, y), T, V) ∧ ((y = 1 ∧ zalk K t w o n) ∨ (y = 0 ∧ ¬ zalk K t w o n))) (lo := 0) (hi := n) hn.1 ?_ ?_ () (fun k k1 k2 => by omega)
      · exact this
      · intro _ hi
        exact ⟨1, by rw [b216_29, if_pos (by omega), b216_63], Or.inl ⟨rfl, by omega, c2, hi⟩⟩
      · intro i _ i1 i2 hi next
        rw [b216_29, if_neg (by omega), b216_36 hS, c217 hS hK hW ht hw (by omega)]
        simp only [Option.bind_some, zpush0]
        rw [b216_44 hS, c217 hS hK hW ht ho (by omega)]
        simp only [Option.bind_some, zpush0]
        rw [b216_52]
        by_cases c3 : zla K t w i = zla K t o i
        · rw [if_pos c3, b216_57 (by omega)]
          refine next () (fun k k1 k2 => ?_)
          by_cases c4 : k = i
          · rw [c4]; exact c3
          · exact hi k k1 (by omega)
        · exact ⟨0, by rw [if_neg c3, b216_55], Or.inr ⟨rfl, fun z => c3 (z.2.2 i i1 i2)⟩⟩
    · exact ⟨0, by rw [if_neg c2, b216_24], Or.inr ⟨rfl, fun z => c2 z.2.1⟩⟩
theorem c214 {m n o a : Int} (hS : zStr T) (hK : zKe V K) (hW : zKw K) (ht : t = 0 ∨ t = 1) (ha : V 130 31 = a) (ha2 : a = 0 ∨ a = 1) (hm : 0 ≤ m ∧ m < zms K a t) (hn : 0 ≤ n ∧ n ≤ 6) (ho : 0 < n → 0 ≤ o ∧ o < K (284 + t)) : ∃ y, zcall 214 [(2, 130), (0, t), (0, m), (0, n), (0, o)] T V = some ((0, y), T, V) ∧ ((y = 1 ∧ zwho K a t m n o) ∨ (y = 0 ∧ ¬ zwho K a t m n o)) := by
  have hh := hW t ht
  rw [e214, b214_0]
  have := zup (α := Unit) (fun i _ => ∀ w, 0 ≤ w → w < i → ¬ (0 < n ∧ zfits K a t w m ∧ zwl K t w = n ∧ zalk K t w o n)) (fun i _ => ∃ y, ev 214 3 [(2, 130), (0, t), (0, m), (0, n), (0, o), (0, i)] [] T V = some ((0, y), T, V) ∧ ((y = 1 ∧ zwho K a t m n o) ∨ (y = 0 ∧ ¬ zwho K a t m n o))) (lo := 0) (hi := K (284 + t)) hh.1.1 ?_ ?_ () (fun k k1 k2 => by omega)
  · exact this
  · intro _ hi
    refine ⟨0, by rw [b214_3 hS (by omega) (by omega), hK (284 + t) (by omega), if_pos (by omega), b214_66], Or.inr ⟨rfl, fun ⟨w, w1, w2⟩ => hi w w1.1 w1.2 w2⟩⟩
  · intro i _ i1 i2 hi next
    have e1 : V 132 (156 + 8 * (8 * t + i) + 1) = zwl K t i := zKe_w hK ht (by omega) (by decide)
    have skip : ∀ _ : Unit, ¬ (0 < n ∧ zfits K a t i m ∧ zwl K t i = n ∧ zalk K t i o n) → ∃ y, ev 214 60 [(2, 130), (0, t), (0, m), (0, n), (0, o), (0, i)] [] T V = some ((0, y), T, V) ∧ ((y = 1 ∧ zwho K a t m n o) ∨ (y = 0 ∧ ¬ zwho K a t m n o)) := fun _ no => by
      rw [b214_60 (by omega)]
      refine next () (fun k k1 k2 => ?_)
      by_cases c4 : k = i
      · rw [c4]; exact no
      · exact hi k k1 (by omega)
    rw [b214_3 hS (by omega) (by omega), hK (284 + t) (by omega), if_neg (by omega), b214_18]
    by_cases c1 : n ≤ 0
    · rw [if_pos c1]; exact skip () (fun z => by omega)
    · obtain ⟨y, f1, f2⟩ := c215 hS hK hW ht ha ha2 ⟨i1, i2⟩ hm
      rw [if_neg c1, b214_22 hS, f1]
      simp only [Option.bind_some, zpush0]
      rw [b214_30]
      rcases f2 with ⟨rfl, f2⟩ | ⟨rfl, f2⟩
      · rw [if_neg (by decide), b214_33 hS, c187 hS (by omega) (by omega) (by omega), e1]
        simp only [Option.bind_some, zpush0]
        rw [b214_41]
        by_cases c2 : zwl K t i = n
        · obtain ⟨y, g1, g2⟩ := c216 (n := n) hS hK hW ht ⟨i1, i2⟩ (ho (by omega)) hn
          rw [if_pos c2, b214_45 hS, g1]
          simp only [Option.bind_some, zpush0]
          rw [b214_55]
          rcases g2 with ⟨rfl, g2⟩ | ⟨rfl, g2⟩
          · exact ⟨1, by rw [if_neg (by decide), b214_58], Or.inl ⟨rfl, i, ⟨i1, i2⟩, by omega, f2, c2, g2⟩⟩
          · rw [if_pos rfl]; exact skip () (fun z => g2 z.2.2.2)
        · rw [if_neg c2]; exact skip () (fun z => c2 z.2.2.1)
      · rw [if_pos rfl]; exact skip () (fun z => f2 z.2.1)
end REF
