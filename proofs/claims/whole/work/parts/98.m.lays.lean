/-! the reference: laysSteps, the steps by letters from a place -/
def zSw (V V' : zM) (K : Int → Int) (a t m n o x i : Int) : Prop := (∀ r, r ≠ 145 → V' r = V r) ∧ (∀ j, j < x ∨ x + 26 ≤ j → V' 145 j = V 145 j) ∧ ∀ s, 0 ≤ s → s < 26 → ((∀ w, i ≤ w → w < K (284 + t) → ¬ zfol K a t m n o s w) ∧ V' 145 (x + s) = V 145 (x + s)) ∨ ∃ w, (i ≤ w ∧ w < K (284 + t)) ∧ zfol K a t m n o s w ∧ (∀ u, i ≤ u → u < w → ¬ zfol K a t m n o s u) ∧ V' 145 (x + s) = zpl m (n + 1) w
section LAYW
variable {T : zT} {V : zM} {K : Int → Int} {Q : zV → zT → zM → Prop}
theorem c212w {t mn f m n o at_ a : Int} (hS : zStr T) (hK : zKe V K) (hW : zKw K) (ht : t = 0 ∨ t = 1) (ha : V 130 31 = a) (ha2 : a = 0 ∨ a = 1) (hms : zms K a t ≤ 4) (hm : 0 ≤ m ∧ m < zms K a t) (hn : 0 ≤ n ∧ n ≤ 6) (ho : 0 < n → 0 ≤ o ∧ o < K (284 + t)) (hat : 0 ≤ at_ ∧ at_ < 448)
    (kont : ∀ V' x8, zSw V V' K a t m n o (at_ * 27) 0 → zwp (ev 212 367 [(2, 130), (0, t), (0, mn), (0, f), (0, m), (0, n), (0, o), (0, at_), (0, x8)] [] T V') Q) : zwp (ev 212 281 [(2, 130), (0, t), (0, mn), (0, f), (0, m), (0, n), (0, o), (0, at_), (0, K (284 + t) - 1)] [] T V) Q := by
  have hh := hW t ht
  refine zdn (α := zM) (fun i V' => zSw V V' K a t m n o (at_ * 27) i) (fun i V' => zwp (ev 212 281 [(2, 130), (0, t), (0, mn), (0, f), (0, m), (0, n), (0, o), (0, at_), (0, i - 1)] [] T V') Q) (lo := 0) (hi := K (284 + t)) hh.1.1 ?_ ?_ V ⟨fun _ _ => rfl, fun _ _ => rfl, fun s s1 s2 => Or.inl ⟨fun w w1 w2 => by omega, rfl⟩⟩
  · intro V' h
    rw [b212_281, if_pos (by omega)]
    exact kont V' _ h
  · intro i V' i1 i2 h next
    obtain ⟨v1, v2, v3⟩ := id h
    have hK' : zKe V' K := fun j hj => by rw [v1 132 (by decide)]; exact hK j hj
    have ha' : V' 130 31 = a := by rw [v1 130 (by decide)]; exact ha
    have wi : 0 ≤ i - 1 ∧ i - 1 < K (284 + t) := by omega
    have e1 : V' 132 (156 + 8 * (8 * t + (i - 1)) + 1) = zwl K t (i - 1) := zKe_w hK' ht (by omega) (by decide)
    have skip : ∀ _ : Unit, (∀ s, ¬ zfol K a t m n o s (i - 1)) → zwp (ev 212 361 [(2, 130), (0, t), (0, mn), (0, f), (0, m), (0, n), (0, o), (0, at_), (0, i - 1)] [] T V') Q := fun _ no => by
      rw [b212_361 (by omega), show i - 1 + -1 = i - 1 - 1 by omega]
      refine next V' ⟨v1, v2, fun s s1 s2 => ?_⟩
      rcases v3 s s1 s2 with ⟨q1, q2⟩ | ⟨w, q1, q2, q3, q4⟩
      · refine Or.inl ⟨fun w w1 w2 => ?_, q2⟩
        by_cases c : w = i - 1
        · rw [c]; exact no s
        · exact q1 w (by omega) w2
      · refine Or.inr ⟨w, by omega, q2, fun u u1 u2 => ?_, q4⟩
        by_cases c : u = i - 1
        · rw [c]; exact no s
        · exact q3 u (by omega) u2
    obtain ⟨y, f1, f2⟩ := c215 (m := m) hS hK' hW ht ha' ha2 wi hm
    rw [b212_281, if_neg (by omega), b212_286 hS, f1]
    simp only [Option.bind_some, zpush0]
    rw [b212_295]
    rcases f2 with ⟨rfl, f2⟩ | ⟨rfl, f2⟩
    · rw [if_neg (by decide), b212_298 hS, c187 hS (by omega) (by omega) (by omega), e1]
      simp only [Option.bind_some, zpush0]
      rw [b212_306]
      by_cases c1 : zwl K t (i - 1) ≤ n
      · rw [if_pos c1]; exact skip () (fun s z => by have := z.2.1; omega)
      · have la := (hh.2.2 (i - 1) wi.1 wi.2).2 n hn.1 (by omega)
        have wr : (n = 0 ∨ zalk K t (i - 1) o n) → zwp (ev 212 330 [(2, 130), (0, t), (0, mn), (0, f), (0, m), (0, n), (0, o), (0, at_), (0, i - 1)] [] T V') Q := fun hal => by
          rw [b212_330 hS (by omega), c217 hS hK' hW ht wi (by omega)]
          simp only [Option.bind_some, zpush0]
          rw [b212_348 (by omega) (by omega), c213 (by omega) (by omega) (by omega)]
          simp only [Option.bind_some, zpush0]
          rw [b212_360 hS (by omega), b212_361 (by omega), show i - 1 + -1 = i - 1 - 1 by omega]
          have yes : zfol K a t m n o (zla K t (i - 1) n) (i - 1) := ⟨f2, by omega, hal, rfl⟩
          refine next _ ⟨fun r hr => by rw [zwr_ne hr, v1 r hr], fun j hj => by rw [zwr_same, if_neg (by omega), v2 j hj], fun s s1 s2 => ?_⟩
          rw [zwr_same]
          by_cases c : s = zla K t (i - 1) n
          · refine Or.inr ⟨i - 1, by omega, by rw [c]; exact yes, fun u u1 u2 => by omega, ?_⟩
            rw [if_pos (by omega)]
          · rw [if_neg (by omega)]
            have no : ¬ zfol K a t m n o s (i - 1) := fun z => c z.2.2.2.symm
            rcases v3 s s1 s2 with ⟨q1, q2⟩ | ⟨w, q1, q2, q3, q4⟩
            · refine Or.inl ⟨fun w w1 w2 => ?_, q2⟩
              by_cases c2 : w = i - 1
              · rw [c2]; exact no
              · exact q1 w (by omega) w2
            · refine Or.inr ⟨w, by omega, q2, fun u u1 u2 => ?_, q4⟩
              by_cases c2 : u = i - 1
              · rw [c2]; exact no
              · exact q3 u (by omega) u2
        rw [if_neg c1, b212_311]
        by_cases c2 : n = 0
        · rw [if_pos c2]; exact wr (Or.inl c2)
        · obtain ⟨y, g1, g2⟩ := c216 (n := n) hS hK' hW ht wi (ho (by omega)) hn
          rw [if_neg c2, b212_316 hS, g1]
          simp only [Option.bind_some, zpush0]
          rw [b212_327]
          rcases g2 with ⟨rfl, g2⟩ | ⟨rfl, g2⟩
          · rw [if_neg (by decide)]; exact wr (Or.inr g2)
          · rw [if_pos rfl]; exact skip () (fun s z => z.2.2.1.elim c2 g2)
    · rw [if_pos rfl]; exact skip () (fun s z => f2 z.1)
end LAYW
