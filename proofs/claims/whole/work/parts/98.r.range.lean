/-! where steps lead -/
theorem zdel_r {K : Int → Int} {a t : Int} (hW : zKw K) (ht : t = 0 ∨ t = 1) (q s : Int) : zdel K a t q s = -1 ∨ (0 ≤ zdel K a t q s ∧ zdel K a t q s < zuse K a t) := by
  have hh := hW t ht
  unfold zdel zuse
  by_cases c : zms K a t = 0
  · rw [zif_t c, if_pos c]
    by_cases c2 : q = 0 ∧ s = 26
    · rw [zif_t c2]; exact Or.inr (by decide)
    · rw [zif_f c2]; exact Or.inl rfl
  · rw [zif_f c, if_neg c]
    by_cases cv : zval K a t q
    · rw [zif_t cv]
      have v1 := cv.1
      have v2 := cv.2.1
      by_cases c3 : s = 26
      · rw [zif_t c3]
        by_cases c4 : zwho K a t (q / 56) (q / 8 % 7) (q % 8)
        · rw [zif_t c4]
          by_cases c5 : a = 1
          · rw [if_pos c5]; exact Or.inr (by omega)
          · rw [if_neg c5]
            by_cases c6 : q / 56 < zms K a t - 1
            · rw [if_pos c6]; unfold zpl; exact Or.inr (by omega)
            · rw [if_neg c6]; exact Or.inl rfl
        · rw [zif_f c4]; exact Or.inl rfl
      · rw [zif_f c3]
        obtain ⟨p1, p2, -⟩ := zlst_p (zfol K a t (q / 56) (q / 8 % 7) (q % 8) s) (K (284 + t)).toNat
        by_cases c4 : zlst (zfol K a t (q / 56) (q / 8 % 7) (q % 8) s) (K (284 + t)).toNat < K (284 + t)
        · rw [zif_t c4]
          have f := (p2 (by omega)).2.1
          have l := (hh.2.2 _ p1.1 c4).1.2
          unfold zpl
          exact Or.inr (by omega)
        · rw [zif_f c4]; exact Or.inl rfl
    · rw [zif_f cv]; exact Or.inl rfl
