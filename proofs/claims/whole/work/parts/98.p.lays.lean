/-! the reference: laysSteps, its loops over the places -/
section LAYL
variable {T : zT} {V : zM} {K : Int → Int} {Q : zV → zT → zM → Prop}
theorem c212m {t f a : Int} (hS : zStr T) (hK : zKe V K) (hW : zKw K) (ht : t = 0 ∨ t = 1) (hf : f = 224 * t) (ha : V 130 31 = a) (ha2 : a = 0 ∨ a = 1) (hms : 1 ≤ zms K a t ∧ zms K a t ≤ 4)
    (kont : ∀ V' v5 v6 v7 v8, zJl V V' K a t f (zpl (zms K a t) 0 0) → zwp (ev 212 385 [(2, 130), (0, t), (0, zms K a t), (0, f), (0, zms K a t), v5, v6, v7, v8] [] T V') Q) :
    ∀ V' v5 v6 v7 v8, zJl V V' K a t f 0 → zwp (ev 212 132 [(2, 130), (0, t), (0, zms K a t), (0, f), (0, 0), v5, v6, v7, v8] [] T V') Q := by
  intro V1 v5 v6 v7 v8 h1
  have hh := hW t ht
  have hf2 : f = 0 ∨ f = 224 := by omega
  have zp0 : ∀ m n o, zpl m n o = 56 * m + 8 * n + o := fun m n o => by unfold zpl; omega
  refine zup (α := zM × zV × zV × zV × zV) (fun m s => zJl V s.1 K a t f (zpl m 0 0)) (fun m s => zwp (ev 212 132 [(2, 130), (0, t), (0, zms K a t), (0, f), (0, m), s.2.1, s.2.2.1, s.2.2.2.1, s.2.2.2.2] [] T s.1) Q) (lo := 0) (hi := zms K a t) (by omega) ?_ ?_ (V1, v5, v6, v7, v8) h1
  · rintro ⟨V2, v5, v6, v7, v8⟩ h2
    show zwp (ev 212 132 [(2, 130), (0, t), (0, zms K a t), (0, f), (0, zms K a t), v5, v6, v7, v8] [] T V2) Q
    rw [b212_132, if_pos (by omega)]
    exact kont V2 v5 v6 v7 v8 h2
  · rintro m ⟨V2, v5, v6, v7, v8⟩ m1 m2 h2 next
    show zwp (ev 212 132 [(2, 130), (0, t), (0, zms K a t), (0, f), (0, m), v5, v6, v7, v8] [] T V2) Q
    rw [b212_132, if_neg (by omega), b212_138]
    refine zup (α := zM × zV × zV × zV) (fun n s => zJl V s.1 K a t f (zpl m n 0)) (fun n s => zwp (ev 212 141 [(2, 130), (0, t), (0, zms K a t), (0, f), (0, m), (0, n), s.2.1, s.2.2.1, s.2.2.2] [] T s.1) Q) (lo := 0) (hi := 7) (by decide) ?_ ?_ (V2, v6, v7, v8) h2
    · rintro ⟨V3, v6, v7, v8⟩ h3
      show zwp (ev 212 141 [(2, 130), (0, t), (0, zms K a t), (0, f), (0, m), (0, 7), v6, v7, v8] [] T V3) Q
      rw [b212_141, if_pos (by decide), b212_379 (by omega)]
      refine next (V3, _, _, _, _) ?_
      show zJl V V3 K a t f (zpl (m + 1) 0 0)
      rw [show zpl (m + 1) 0 0 = zpl m 7 0 by rw [zp0, zp0]; omega]
      exact h3
    · rintro n ⟨V3, v6, v7, v8⟩ n1 n2 h3 next2
      show zwp (ev 212 141 [(2, 130), (0, t), (0, zms K a t), (0, f), (0, m), (0, n), v6, v7, v8] [] T V3) Q
      rw [b212_141, if_neg (by omega), b212_148]
      obtain ⟨cnt, hc⟩ : ∃ cnt, (if n = 0 then 1 else K (284 + t)) = cnt := ⟨_, rfl⟩
      have hcr : 0 ≤ cnt ∧ cnt ≤ 8 := by
        by_cases c : n = 0
        · rw [if_pos c] at hc; omega
        · rw [if_neg c] at hc; omega
      refine zup (α := zM × zV × zV) (fun o s => zJl V s.1 K a t f (zpl m n o)) (fun o s => zwp (ev 212 151 [(2, 130), (0, t), (0, zms K a t), (0, f), (0, m), (0, n), (0, o), s.2.1, s.2.2] [] T s.1) Q) (lo := 0) (hi := cnt) hcr.1 ?_ ?_ (V3, v7, v8) h3
      · rintro ⟨V4, v7, v8⟩ h4
        show zwp (ev 212 151 [(2, 130), (0, t), (0, zms K a t), (0, f), (0, m), (0, n), (0, cnt), v7, v8] [] T V4) Q
        replace h4 : zJl V V4 K a t f (zpl m n cnt) := h4
        have e1 : V4 132 (284 + t) = K (284 + t) := by rw [h4.1.1 132 (by decide) (by decide)]; exact hK _ (by omega)
        have fin : zwp (ev 212 373 [(2, 130), (0, t), (0, zms K a t), (0, f), (0, m), (0, n), (0, cnt), v7, v8] [] T V4) Q := by
          rw [b212_373 (by omega)]
          refine next2 (V4, _, _, _) (zJl_jump h4 (by rw [zp0, zp0]; omega) (fun q q1 q2 z => ?_))
          rw [zp0] at q1 q2
          have z3 := z.2.2
          rw [show q / 8 % 7 = n by omega, hc] at z3
          omega
        rw [b212_151]
        by_cases c : n = 0
        · rw [if_pos c] at hc
          rw [if_pos c, b212_158, b212_172, if_pos (by omega)]
          exact fin
        · rw [if_neg c] at hc
          rw [if_neg c, b212_162 hS (by omega) (by omega), e1, b212_172, if_pos (by omega)]
          exact fin
      · rintro o ⟨V4, v7, v8⟩ o1 o2 h4 next3
        show zwp (ev 212 151 [(2, 130), (0, t), (0, zms K a t), (0, f), (0, m), (0, n), (0, o), v7, v8] [] T V4) Q
        replace h4 : zJl V V4 K a t f (zpl m n o) := h4
        have e1 : V4 132 (284 + t) = K (284 + t) := by rw [h4.1.1 132 (by decide) (by decide)]; exact hK _ (by omega)
        have hK4 : zKe V4 K := fun j hj => by rw [h4.1.1 132 (by decide) (by decide)]; exact hK j hj
        have zr : 0 ≤ zpl m n o ∧ zpl m n o < 224 := by rw [zp0]; omega
        have hv : zval K a t (zpl m n o) := by
          refine ⟨zr.1, ?_, ?_⟩
          · rw [zp0]; omega
          · rw [show zpl m n o / 8 % 7 = n by rw [zp0]; omega, hc, zp0]; omega
        have bq := (h4.2 _ zr.1 zr.2).2 (fun z => by omega)
        have go : zwp (ev 212 175 [(2, 130), (0, t), (0, zms K a t), (0, f), (0, m), (0, n), (0, o), v7, v8] [] T V4) Q := by
          refine c212p hS hK4 hW ht hf (by rw [h4.1.1 130 (by decide) (by decide)]; exact ha) ha2 hms.2 ⟨m1, m2⟩ (by omega) (by omega) (fun z => by rw [if_neg (by omega)] at hc; omega) bq.1 bq.2 (fun V' x8 hp => ?_)
          rw [b212_367 (by omega)]
          refine next3 (V', _, _) ?_
          show zJl V V' K a t f (zpl m n (o + 1))
          rw [show zpl m n (o + 1) = zpl m n o + 1 by rw [zp0, zp0]; omega]
          exact zJl_s hf2 h4 hp (by omega) hv zr.2 m1 ⟨n1, n2⟩ (by omega)
        rw [b212_151]
        by_cases c : n = 0
        · rw [if_pos c] at hc
          rw [if_pos c, b212_158, b212_172, if_neg (by omega)]
          exact go
        · rw [if_neg c] at hc
          rw [if_neg c, b212_162 hS (by omega) (by omega), e1, b212_172, if_neg (by omega)]
          exact go
end LAYL
