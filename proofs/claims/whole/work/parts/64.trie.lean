/-! the tree of beginnings -/
theorem zalk_s {K : Int → Int} {t u v n : Int} (h : zalk K t u v n) : zalk K t v u n := ⟨h.2.1, h.1, fun k h1 h2 => (h.2.2 k h1 h2).symm⟩
theorem zalk_t {K : Int → Int} {t u v x n : Int} (h : zalk K t u v n) (g : zalk K t v x n) : zalk K t u x n := ⟨h.1, g.2.1, fun k h1 h2 => (h.2.2 k h1 h2).trans (g.2.2 k h1 h2)⟩
theorem zalk_m {K : Int → Int} {t u v n n' : Int} (h : zalk K t u v n) (g : n' ≤ n) : zalk K t u v n' := ⟨by have := h.1; omega, by have := h.2.1; omega, fun k h1 h2 => h.2.2 k h1 (by omega)⟩
theorem zalk_1 {K : Int → Int} {t u v n : Int} (h0 : n = 0 ∨ zalk K t u v n) (h1 : n < zwl K t u) (h2 : n < zwl K t v) (h3 : zla K t u n = zla K t v n) : zalk K t u v (n + 1) := by
  refine ⟨by omega, by omega, fun k g1 g2 => ?_⟩
  by_cases e : k = n
  · subst e; exact h3
  · rcases h0 with h0 | h0
    · omega
    · exact h0.2.2 k g1 (by omega)
/-- a row of siblings -/
def zch (si : Int → Int) : Int → List Int → Prop
  | p, [] => p = -1
  | p, y :: l => p = y ∧ zch si (si y) l
theorem zch_congr {si si' : Int → Int} : ∀ {l : List Int} {p : Int}, (∀ y, y ∈ l → si' y = si y) → zch si p l → zch si' p l
  | [], _, _, h => h
  | y :: l, _, e, h => ⟨h.1, by rw [e y (List.mem_cons_self ..)]; exact zch_congr (fun z hz => e z (List.mem_cons_of_mem _ hz)) h.2⟩
/-- words below this one are in the tree, for beginnings of n letters at place m of the story -/
def zlim (W m w n m' n' : Int) : Int := if m' < m then W else if m' = m then (if n' < n then w + 1 else w) else 0
def zTi (K : Int → Int) (a t m w n nd : Int) (le ch si M N O : Int → Int) (L : Int → List Int) : Prop :=
  (∀ x, 0 ≤ x → x < nd → ((0 ≤ M x ∧ M x < zms K a t) ∧ (0 ≤ N x ∧ N x ≤ 6)) ∧ (N x = 0 → x = M x ∧ O x = 0) ∧ (0 < N x → 0 ≤ O x ∧ O x < zlim (K (284 + t)) m w n (M x) (N x - 1) ∧ zfits K a t (O x) (M x) ∧ N x ≤ zwl K t (O x))) ∧
  (∀ i, 0 ≤ i → i < zms K a t → i < nd ∧ M i = i ∧ N i = 0) ∧
  (∀ x y, 0 ≤ x → x < nd → 0 ≤ y → y < nd → M x = M y → N x = N y → 0 < N x → zalk K t (O x) (O y) (N x) → x = y) ∧
  (∀ x, 0 ≤ x → x < nd → zch si (ch x) (L x)) ∧
  (∀ x, 0 ≤ x → x < nd → ∀ y, y ∈ L x → (0 ≤ y ∧ y < nd) ∧ M y = M x ∧ N y = N x + 1 ∧ zfol K a t (M x) (N x) (O x) (le y) (O y) ∧ ∀ u, 0 ≤ u → u < O y → ¬ zfol K a t (M x) (N x) (O x) (le y) u) ∧
  (∀ x, 0 ≤ x → x < nd → ∀ s u, 0 ≤ u → u < zlim (K (284 + t)) m w n (M x) (N x) → zfol K a t (M x) (N x) (O x) s u → ∃ y, y ∈ L x ∧ le y = s) ∧
  (∀ x, 0 ≤ x → x < nd → ((L x).length : Int) ≤ zlim (K (284 + t)) m w n (M x) (N x)) ∧
  (∀ x, 0 ≤ x → x < nd → (L x).Pairwise (fun y z => le y ≠ le z)) ∧
  nd ≤ zms K a t + 6 * K (284 + t) * m + 6 * w + n
section TRIE
variable {K : Int → Int} {a t m w n nd : Int} {le ch si M N O : Int → Int} {L : Int → List Int}
theorem zlim_mono {W m w n n2 m' n' : Int} (h : n ≤ n2) : zlim W m w n m' n' ≤ zlim W m w n2 m' n' := by
  unfold zlim
  repeat' split
  all_goals omega
/-- the child is there -/
theorem zTi_found (h : zTi K a t m w n nd le ch si M N O L) {x y : Int} (hx : 0 ≤ x ∧ x < nd) (hm : M x = m ∧ N x = n) (hw : 0 ≤ w) (hal : n = 0 ∨ zalk K t w (O x) n) (hlen : n < zwl K t w) (hy : y ∈ L x) (hl : le y = zla K t w n) : zTi K a t m w (n + 1) nd le ch si M N O L ∧ (0 ≤ y ∧ y < nd) ∧ (M y = m ∧ N y = n + 1) ∧ zalk K t w (O y) (n + 1) := by
  obtain ⟨h1, h2, h3, h4, h5, h6, h7, h8, h9⟩ := h
  have hn := (h1 x hx.1 hx.2).1.2
  obtain ⟨y1, y2, y3, y4, y5⟩ := h5 x hx.1 hx.2 y hy
  have hy2 : zalk K t w (O y) (n + 1) := by
    obtain ⟨q1, q2, q3, q4⟩ := y4
    rw [hm.2] at q2 q3 q4
    refine zalk_1 ?_ hlen q2 (by rw [q4, hl])
    rcases hal with e | hal
    · exact Or.inl e
    · rcases q3 with e | q3
      · exact Or.inl e
      · exact Or.inr (zalk_t hal (zalk_s q3))
  refine ⟨⟨fun z g1 g2 => ?_, h2, h3, h4, h5, fun z g1 g2 s u u1 u2 hf => ?_, fun z g1 g2 => ?_, h8, by omega⟩, y1, ⟨by omega, by omega⟩, hy2⟩
  · obtain ⟨a1, a2, a3⟩ := h1 z g1 g2
    refine ⟨a1, a2, fun q => ?_⟩
    obtain ⟨b1, b2, b3⟩ := a3 q
    have := zlim_mono (W := K (284 + t)) (m := m) (w := w) (m' := M z) (n' := N z - 1) (show n ≤ n + 1 by omega)
    exact ⟨b1, by omega, b3⟩
  · by_cases q : u < zlim (K (284 + t)) m w n (M z) (N z)
    · exact h6 z g1 g2 s u u1 q hf
    · have e : M z = m ∧ N z = n ∧ u = w := by
        unfold zlim at u2 q
        repeat' split at u2
        all_goals (repeat' split at q)
        all_goals omega
      obtain ⟨e1, e2, e3⟩ := e
      subst e3
      have hzx : z = x := by
        by_cases q0 : n = 0
        · have := ((h1 z g1 g2).2.1 (by omega)).1
          have := ((h1 x hx.1 hx.2).2.1 (by omega)).1
          omega
        · refine h3 z x g1 g2 hx.1 hx.2 (by omega) (by omega) (by omega) ?_
          obtain ⟨-, -, c3, -⟩ := hf
          rcases c3 with c3 | c3
          · omega
          · rcases hal with c4 | c4
            · omega
            · rw [e2] at c3 ⊢; exact zalk_t (zalk_s c3) c4
      subst hzx
      refine ⟨y, hy, ?_⟩
      rw [hl, ← hf.2.2.2, e2]
  · have := h7 z g1 g2
    have := zlim_mono (W := K (284 + t)) (m := m) (w := w) (m' := M z) (n' := N z) (show n ≤ n + 1 by omega)
    omega
/-- the child is made -/
theorem zTi_new (h : zTi K a t m w n nd le ch si M N O L) {x : Int} (hx : 0 ≤ x ∧ x < nd) (hm : M x = m ∧ N x = n) (hw : 0 ≤ w ∧ w < K (284 + t)) (hms : m < zms K a t) (hal : n = 0 ∨ zalk K t w (O x) n) (hlen : n < zwl K t w ∧ n < 6) (hft : zfits K a t w m) (hno : ∀ y, y ∈ L x → le y ≠ zla K t w n) {le' ch' si' : Int → Int} (el : ∀ z, le' z = if z = nd then zla K t w n else le z) (ec : ∀ z, ch' z = if z = x then nd else if z = nd then -1 else ch z) (es : ∀ z, si' z = if z = nd then ch x else si z) : zTi K a t m w (n + 1) (nd + 1) le' ch' si' (zku M nd m) (zku N nd (n + 1)) (zku O nd w) (fun z => if z = x then nd :: L x else if z = nd then [] else L z) ∧ (∀ u, 0 ≤ u → u < w → zfits K a t u m → ¬ zalk K t u w (n + 1)) := by
  obtain ⟨h1, h2, h3, h4, h5, h6, h7, h8, h9⟩ := h
  have hx1 := h1 x hx.1 hx.2
  have hzl : zlim (K (284 + t)) m w n m n = w := by unfold zlim; rw [if_neg (by omega), if_pos rfl, if_neg (by omega)]
  -- no word below has this beginning
  have hbel : ∀ u, 0 ≤ u → u < w → zfits K a t u m → ¬ zalk K t u w (n + 1) := by
    intro u u1 u2 u3 u4
    obtain ⟨y, y1, y2⟩ := h6 x hx.1 hx.2 (zla K t w n) u u1 (by rw [hm.1, hm.2, hzl]; exact u2) (by
      rw [hm.1, hm.2]
      refine ⟨u3, by have := u4.1; omega, ?_, u4.2.2 n (by omega) (by omega)⟩
      rcases hal with q | q
      · exact Or.inl q
      · exact Or.inr (zalk_t (zalk_m u4 (by omega)) q))
    exact hno y y1 y2
  refine ⟨⟨fun z g1 g2 => ?_, fun i g1 g2 => ?_, fun z v g1 g2 g3 g4 e1 e2 e3 e4 => ?_, fun z g1 g2 => ?_, fun z g1 g2 y hy => ?_, fun z g1 g2 s u u1 u2 hf => ?_, fun z g1 g2 => ?_, fun z g1 g2 => ?_, by omega⟩, hbel⟩
  · unfold zku
    by_cases q : z = nd
    · rw [if_pos q, if_pos q, if_pos q]
      refine ⟨⟨by omega, by omega⟩, fun _ => by omega, fun _ => ⟨hw.1, ?_, hft, by omega⟩⟩
      unfold zlim
      rw [if_neg (by omega), if_pos rfl, if_pos (by omega)]
      omega
    · rw [if_neg q, if_neg q, if_neg q]
      obtain ⟨a1, a2, a3⟩ := h1 z g1 (by omega)
      refine ⟨a1, a2, fun q => ?_⟩
      obtain ⟨b1, b2, b3⟩ := a3 q
      have := zlim_mono (W := K (284 + t)) (m := m) (w := w) (m' := M z) (n' := N z - 1) (show n ≤ n + 1 by omega)
      exact ⟨b1, by omega, b3⟩
  · obtain ⟨a1, a2, a3⟩ := h2 i g1 g2
    unfold zku
    rw [if_neg (by omega), if_neg (by omega)]
    exact ⟨by omega, a2, a3⟩
  · unfold zku at e1 e2 e3 e4
    have nw : ∀ v, 0 ≤ v → v < nd → M v = m → N v = n + 1 → zalk K t (O v) w (n + 1) → False := by
      intro v v1 v2 v3 v4 v5
      obtain ⟨b1, b2, b3, b4⟩ := (h1 v v1 v2).2.2 (by omega)
      rw [v3, v4] at b2
      have b2' : O v < w := by
        have : zlim (K (284 + t)) m w n m (n + 1 - 1) = w := by
          rw [show n + 1 - 1 = n by omega]; exact hzl
        omega
      exact hbel (O v) b1 b2' (v3 ▸ b3) v5
    by_cases q1 : z = nd
    · by_cases q2 : v = nd
      · omega
      · rw [if_pos q1, if_neg q2] at e1 e2 e4
        rw [if_pos q1] at e3 e4
        exact absurd (zalk_s e4) (fun e => nw v g3 (by omega) e1.symm e2.symm e)
    · by_cases q2 : v = nd
      · rw [if_neg q1, if_pos q2] at e1 e2 e4
        rw [if_neg q1] at e3 e4
        rw [e2] at e4
        exact absurd e4 (fun e => nw z g1 (by omega) e1 e2 e)
      · rw [if_neg q1, if_neg q2] at e1 e2 e4
        rw [if_neg q1] at e3 e4
        exact h3 z v g1 (by omega) g3 (by omega) e1 e2 e3 e4
  · by_cases q1 : z = x
    · rw [ec, if_pos q1]
      show zch si' nd (if z = x then nd :: L x else _)
      rw [if_pos q1]
      refine ⟨rfl, ?_⟩
      rw [es, if_pos rfl]
      refine zch_congr (fun y hy => ?_) (h4 x hx.1 hx.2)
      have := (h5 x hx.1 hx.2 y hy).1
      rw [es, if_neg (by omega)]
    · rw [ec, if_neg q1]
      show zch si' _ (if z = x then nd :: L x else _)
      rw [if_neg q1]
      by_cases q2 : z = nd
      · rw [if_pos q2, if_pos q2]; exact rfl
      · rw [if_neg q2, if_neg q2]
        refine zch_congr (fun y hy => ?_) (h4 z g1 (by omega))
        have := (h5 z g1 (by omega) y hy).1
        rw [es, if_neg (by omega)]
  · by_cases q1 : z = x
    · subst q1
      simp only [if_true] at hy
      have ez : zku M nd m z = m ∧ zku N nd (n + 1) z = n ∧ zku O nd w z = O z := by
        unfold zku
        rw [if_neg (by omega), if_neg (by omega), if_neg (by omega)]
        exact ⟨hm.1, hm.2, rfl⟩
      rw [ez.1, ez.2.1, ez.2.2]
      rcases List.mem_cons.1 hy with e | e
      · subst e
        have ey : zku M y m y = m ∧ zku N y (n + 1) y = n + 1 ∧ zku O y w y = w := by unfold zku; simp
        rw [ey.1, ey.2.1, ey.2.2, el, if_pos rfl]
        refine ⟨by omega, rfl, rfl, ⟨hft, hlen.1, hal, rfl⟩, fun u u1 u2 u3 => ?_⟩
        obtain ⟨y', y1, y2⟩ := h6 z hx.1 hx.2 (zla K t w n) u u1 (by rw [hm.1, hm.2, hzl]; exact u2) (by rw [hm.1, hm.2]; exact u3)
        exact hno y' y1 y2
      · obtain ⟨c1, c2, c3, c4, c5⟩ := h5 z hx.1 hx.2 y e
        have ey : zku M nd m y = M y ∧ zku N nd (n + 1) y = N y ∧ zku O nd w y = O y := by
          unfold zku
          rw [if_neg (by omega), if_neg (by omega), if_neg (by omega)]
          exact ⟨rfl, rfl, rfl⟩
        rw [ey.1, ey.2.1, ey.2.2, el, if_neg (by omega)]
        rw [hm.1, hm.2] at c4 c5
        exact ⟨by omega, by omega, by omega, c4, c5⟩
    · by_cases q2 : z = nd
      · simp only [if_neg q1, if_pos q2] at hy
        exact absurd hy (List.not_mem_nil)
      · simp only [if_neg q1, if_neg q2] at hy
        obtain ⟨c1, c2, c3, c4, c5⟩ := h5 z g1 (by omega) y hy
        have ey : zku M nd m y = M y ∧ zku N nd (n + 1) y = N y ∧ zku O nd w y = O y := by
          unfold zku
          rw [if_neg (by omega), if_neg (by omega), if_neg (by omega)]
          exact ⟨rfl, rfl, rfl⟩
        have ez : zku M nd m z = M z ∧ zku N nd (n + 1) z = N z ∧ zku O nd w z = O z := by
          unfold zku
          rw [if_neg q2, if_neg q2, if_neg q2]
          exact ⟨rfl, rfl, rfl⟩
        rw [ey.1, ey.2.1, ey.2.2, ez.1, ez.2.1, ez.2.2, el, if_neg (by omega)]
        exact ⟨by omega, c2, c3, c4, c5⟩
  · by_cases q2 : z = nd
    · have ez : zku M nd m z = m ∧ zku N nd (n + 1) z = n + 1 ∧ zku O nd w z = w := by
        unfold zku
        rw [if_pos q2, if_pos q2, if_pos q2]
        exact ⟨rfl, rfl, rfl⟩
      rw [ez.1, ez.2.1, ez.2.2] at hf
      rw [ez.1, ez.2.1] at u2
      unfold zlim at u2
      rw [if_neg (by omega), if_pos rfl, if_neg (by omega)] at u2
      obtain ⟨f1, f2, f3, f4⟩ := hf
      rcases f3 with f3 | f3
      · omega
      · exact absurd f3 (hbel u u1 u2 f1)
    · have ez : zku M nd m z = M z ∧ zku N nd (n + 1) z = N z ∧ zku O nd w z = O z := by
        unfold zku
        rw [if_neg q2, if_neg q2, if_neg q2]
        exact ⟨rfl, rfl, rfl⟩
      rw [ez.1, ez.2.1, ez.2.2] at hf
      rw [ez.1, ez.2.1] at u2
      by_cases q : u < zlim (K (284 + t)) m w n (M z) (N z)
      · obtain ⟨y, y1, y2⟩ := h6 z g1 (by omega) s u u1 q hf
        have := (h5 z g1 (by omega) y y1).1
        refine ⟨y, ?_, by rw [el, if_neg (by omega)]; exact y2⟩
        by_cases q1 : z = x
        · subst q1
          simp only [if_true]
          exact List.mem_cons_of_mem _ y1
        · simp only [if_neg q1, if_neg q2]
          exact y1
      · have e : M z = m ∧ N z = n ∧ u = w := by
          unfold zlim at u2 q
          repeat' split at u2
          all_goals (repeat' split at q)
          all_goals omega
        obtain ⟨e1, e2, e3⟩ := e
        have hzx : z = x := by
          by_cases q0 : n = 0
          · have := ((h1 z g1 (by omega)).2.1 (by omega)).1
            have := (hx1.2.1 (by omega)).1
            omega
          · refine h3 z x g1 (by omega) hx.1 hx.2 (by omega) (by omega) (by omega) ?_
            obtain ⟨-, -, c3, -⟩ := hf
            rcases c3 with c3 | c3
            · omega
            · rcases hal with c4 | c4
              · omega
              · rw [e2, e3] at c3
                rw [e2]
                exact zalk_t (zalk_s c3) c4
        subst hzx
        refine ⟨nd, by simp only [if_true]; exact List.mem_cons_self .., ?_⟩
        rw [el, if_pos rfl, ← hf.2.2.2, e2, e3]
  · by_cases q1 : z = x
    · subst q1
      have := h7 z hx.1 hx.2
      simp only [if_true]
      unfold zku
      rw [if_neg (by omega), if_neg (by omega), hm.1, hm.2]
      rw [hm.1, hm.2, hzl] at this
      unfold zlim
      rw [if_neg (by omega), if_pos rfl, if_pos (by omega), List.length_cons]
      omega
    · by_cases q2 : z = nd
      · simp only [if_neg q1, if_pos q2]
        unfold zku
        rw [if_pos q2, if_pos q2]
        unfold zlim
        rw [if_neg (by omega), if_pos rfl, if_neg (by omega)]
        exact hw.1
      · simp only [if_neg q1, if_neg q2]
        unfold zku
        rw [if_neg q2, if_neg q2]
        have := h7 z g1 (by omega)
        have := zlim_mono (W := K (284 + t)) (m := m) (w := w) (m' := M z) (n' := N z) (show n ≤ n + 1 by omega)
        omega
  · have old : ∀ z, 0 ≤ z → z < nd → (L z).Pairwise (fun y v => le' y ≠ le' v) := by
      intro z z1 z2
      refine (h8 z z1 z2).imp_of_mem fun {y v} hy hv hne => ?_
      have := (h5 z z1 z2 y hy).1
      have := (h5 z z1 z2 v hv).1
      rw [el, el, if_neg (by omega), if_neg (by omega)]
      exact hne
    by_cases q1 : z = x
    · subst q1
      simp only [if_true]
      refine List.pairwise_cons.2 ⟨fun y hy => ?_, old z hx.1 hx.2⟩
      have := (h5 z hx.1 hx.2 y hy).1
      rw [el, el, if_pos rfl, if_neg (by omega)]
      exact fun e => hno y hy e.symm
    · by_cases q2 : z = nd
      · simp only [if_neg q1, if_pos q2]
        exact List.Pairwise.nil
      · simp only [if_neg q1, if_neg q2]
        exact old z g1 (by omega)
/-- the word is in; or does not fit -/
theorem zTi_word (h : zTi K a t m w n nd le ch si M N O L) (hn : n ≤ 6) (hq : zfits K a t w m → zwl K t w = n) (h0 : 0 ≤ n) (hnf : ¬ zfits K a t w m → n = 0) : zTi K a t m (w + 1) 0 nd le ch si M N O L := by
  obtain ⟨h1, h2, h3, h4, h5, h6, h7, h8, h9⟩ := h
  have hl : ∀ m' n', zlim (K (284 + t)) m w n m' n' ≤ zlim (K (284 + t)) m (w + 1) 0 m' n' ∨ n' < 0 := by
    intro m' n'
    unfold zlim
    repeat' split
    all_goals omega
  refine ⟨fun z g1 g2 => ?_, h2, h3, h4, h5, fun z g1 g2 s u u1 u2 hf => ?_, fun z g1 g2 => ?_, h8, by omega⟩
  · obtain ⟨a1, a2, a3⟩ := h1 z g1 g2
    refine ⟨a1, a2, fun q => ?_⟩
    obtain ⟨b1, b2, b3⟩ := a3 q
    have := hl (M z) (N z - 1)
    exact ⟨b1, by omega, b3⟩
  · by_cases q : u < zlim (K (284 + t)) m w n (M z) (N z)
    · exact h6 z g1 g2 s u u1 q hf
    · have a1 := (h1 z g1 g2).1.2
      have e : M z = m ∧ n ≤ N z ∧ u = w := by
        unfold zlim at u2 q
        repeat' split at u2
        all_goals (repeat' split at q)
        all_goals omega
      obtain ⟨e1, e2, e3⟩ := e
      obtain ⟨f1, f2, -⟩ := hf
      rw [e3, e1] at f1
      have := hq f1
      rw [e3] at f2
      omega
  · have := h7 z g1 g2
    have := hl (M z) (N z)
    have := (h1 z g1 g2).1.2
    omega
theorem zTi_next (h : zTi K a t m (K (284 + t)) 0 nd le ch si M N O L) : zTi K a t (m + 1) 0 0 nd le ch si M N O L := by
  obtain ⟨h1, h2, h3, h4, h5, h6, h7, h8, h9⟩ := h
  have hl : ∀ m' n', 0 ≤ n' → zlim (K (284 + t)) m (K (284 + t)) 0 m' n' = zlim (K (284 + t)) (m + 1) 0 0 m' n' := by
    intro m' n' hn
    unfold zlim
    repeat' split
    all_goals omega
  refine ⟨fun z g1 g2 => ?_, h2, h3, h4, h5, fun z g1 g2 s u u1 u2 hf => ?_, fun z g1 g2 => ?_, h8, ?_⟩
  · obtain ⟨a1, a2, a3⟩ := h1 z g1 g2
    refine ⟨a1, a2, fun q => ?_⟩
    rw [← hl _ _ (by omega)]
    exact a3 q
  · rw [← hl _ _ (h1 z g1 g2).1.2.1] at u2
    exact h6 z g1 g2 s u u1 u2 hf
  · rw [← hl _ _ (h1 z g1 g2).1.2.1]
    exact h7 z g1 g2
  · rw [Int.mul_add]
    omega
/-- roots alone -/
theorem zTi_start (hW : 0 ≤ K (284 + t)) (hs : ∀ x, 0 ≤ x → x < zms K a t → ch x = -1) : zTi K a t 0 0 0 (zms K a t) le ch si (fun x => x) (fun _ => 0) (fun _ => 0) (fun _ => []) := by
  refine ⟨fun z g1 g2 => ⟨⟨⟨g1, g2⟩, Int.le_refl 0, by show (0 : Int) ≤ 6; decide⟩, fun _ => ⟨rfl, rfl⟩, fun q => absurd q (Int.lt_irrefl 0)⟩, fun i g1 g2 => ⟨g2, rfl, rfl⟩, fun x y _ _ _ _ e _ _ _ => e, fun x g1 g2 => hs x g1 g2, fun x _ _ y hy => absurd hy List.not_mem_nil, fun x g1 g2 s u u1 u2 _ => ?_, fun x g1 g2 => ?_, fun x _ _ => List.Pairwise.nil, by omega⟩
  · have u2' : u < zlim (K (284 + t)) 0 0 0 x 0 := u2
    unfold zlim at u2'
    repeat' split at u2'
    all_goals omega
  · show ((0 : Nat) : Int) ≤ zlim (K (284 + t)) 0 0 0 x 0
    unfold zlim
    repeat' split
    all_goals omega
end TRIE
/-- where a word ends -/
def zTe (K : Int → Int) (a t m w nd : Int) (M N O bg me : Int → Int) : Prop := ∀ x, 0 ≤ x → x < nd →
  ((∃ u, (0 ≤ u ∧ u < (if M x < m then K (284 + t) else if M x = m then w else 0)) ∧ 0 < N x ∧ zfits K a t u (M x) ∧ zwl K t u = N x ∧ zalk K t u (O x) (N x)) → bg x = (if a = 1 then 0 else if M x < zms K a t - 1 then M x + 1 else -1) ∧ me x = (if M x = zms K a t - 1 then 1 else 0)) ∧
  (¬ (∃ u, (0 ≤ u ∧ u < (if M x < m then K (284 + t) else if M x = m then w else 0)) ∧ 0 < N x ∧ zfits K a t u (M x) ∧ zwl K t u = N x ∧ zalk K t u (O x) (N x)) → bg x = -1 ∧ me x = 0)
section TEND
variable {K : Int → Int} {a t m w n nd : Int} {le ch si M N O bg me bg' me' : Int → Int} {L : Int → List Int}
theorem zTe_new (h : zTe K a t m w nd M N O bg me) (hbel : ∀ u, 0 ≤ u → u < w → zfits K a t u m → ¬ zalk K t u w (n + 1)) (eb : ∀ z, 0 ≤ z → z < nd → bg' z = bg z) (eb' : bg' nd = -1) (em : ∀ z, 0 ≤ z → z < nd → me' z = me z) (em' : me' nd = 0) : zTe K a t m w (nd + 1) (zku M nd m) (zku N nd (n + 1)) (zku O nd w) bg' me' := by
  intro z g1 g2
  unfold zku
  by_cases q : z = nd
  · subst q
    simp only [if_true, eb', em']
    refine ⟨fun ⟨u, u1, u2, u3, u4, u5⟩ => ?_, fun _ => by simp⟩
    rw [if_neg (by omega)] at u1
    exact absurd u5 (hbel u u1.1 u1.2 u3)
  · rw [if_neg q, if_neg q, if_neg q, eb z g1 (by omega), em z g1 (by omega)]
    exact h z g1 (by omega)
/-- the word ends at node x -/
theorem zTe_word (h : zTe K a t m w nd M N O bg me) (ht : zTi K a t m w n nd le ch si M N O L) {x : Int} (hx : 0 ≤ x ∧ x < nd) (hm : M x = m ∧ N x = n) (hw : 0 ≤ w) (hn : 0 < n) (hal : zalk K t w (O x) n) (hlen : zwl K t w = n) (hft : zfits K a t w m) (eb : ∀ z, 0 ≤ z → z < nd → bg' z = if z = x then (if a = 1 then 0 else if m < zms K a t - 1 then m + 1 else -1) else bg z) (em : ∀ z, 0 ≤ z → z < nd → me' z = if z = x then (if m = zms K a t - 1 then 1 else 0) else me z) : zTe K a t m (w + 1) nd M N O bg' me' := by
  intro z g1 g2
  rw [eb z g1 g2, em z g1 g2]
  by_cases q : z = x
  · subst q
    rw [if_pos rfl, if_pos rfl, hm.1]
    refine ⟨fun _ => ⟨rfl, rfl⟩, fun c => absurd ⟨w, ⟨hw, ?_⟩, ?_, hft, ?_, ?_⟩ c⟩
    · rw [if_neg (by omega), if_pos rfl]; omega
    · omega
    · omega
    · rw [hm.2]; exact hal
  · rw [if_neg q, if_neg q]
    have e : (∃ u, (0 ≤ u ∧ u < (if M z < m then K (284 + t) else if M z = m then w + 1 else 0)) ∧ 0 < N z ∧ zfits K a t u (M z) ∧ zwl K t u = N z ∧ zalk K t u (O z) (N z)) ↔ (∃ u, (0 ≤ u ∧ u < (if M z < m then K (284 + t) else if M z = m then w else 0)) ∧ 0 < N z ∧ zfits K a t u (M z) ∧ zwl K t u = N z ∧ zalk K t u (O z) (N z)) := by
      constructor
      · rintro ⟨u, u1, u2, u3, u4, u5⟩
        refine ⟨u, ⟨u1.1, ?_⟩, u2, u3, u4, u5⟩
        by_cases c1 : M z < m
        · rw [if_pos c1] at u1 ⊢; exact u1.2
        · by_cases c2 : M z = m
          · rw [if_neg c1, if_pos c2] at u1 ⊢
            by_cases c3 : u = w
            · exfalso
              subst c3
              refine q (ht.2.2.1 z x g1 g2 hx.1 hx.2 (by omega) (by omega) u2 ?_)
              have e2 : N z = n := by omega
              rw [e2] at u5 ⊢
              exact zalk_t (zalk_s u5) hal
            · omega
          · rw [if_neg c1, if_neg c2] at u1 ⊢; exact u1.2
      · rintro ⟨u, u1, u2⟩
        refine ⟨u, ⟨u1.1, ?_⟩, u2⟩
        by_cases c1 : M z < m
        · rw [if_pos c1] at u1 ⊢; exact u1.2
        · by_cases c2 : M z = m
          · rw [if_neg c1, if_pos c2] at u1 ⊢; omega
          · rw [if_neg c1, if_neg c2] at u1 ⊢; exact u1.2
    rw [e]
    exact h z g1 g2
/-- a word that does not fit -/
theorem zTe_skip (h : zTe K a t m w nd M N O bg me) (hft : ¬ zfits K a t w m) : zTe K a t m (w + 1) nd M N O bg me := by
  intro z g1 g2
  have e : (∃ u, (0 ≤ u ∧ u < (if M z < m then K (284 + t) else if M z = m then w + 1 else 0)) ∧ 0 < N z ∧ zfits K a t u (M z) ∧ zwl K t u = N z ∧ zalk K t u (O z) (N z)) ↔ (∃ u, (0 ≤ u ∧ u < (if M z < m then K (284 + t) else if M z = m then w else 0)) ∧ 0 < N z ∧ zfits K a t u (M z) ∧ zwl K t u = N z ∧ zalk K t u (O z) (N z)) := by
    constructor
    · rintro ⟨u, u1, u2, u3, u4, u5⟩
      refine ⟨u, ⟨u1.1, ?_⟩, u2, u3, u4, u5⟩
      by_cases c1 : M z < m
      · rw [if_pos c1] at u1 ⊢; exact u1.2
      · by_cases c2 : M z = m
        · rw [if_neg c1, if_pos c2] at u1 ⊢
          by_cases c3 : u = w
          · subst c3; rw [c2] at u3; exact absurd u3 hft
          · omega
        · rw [if_neg c1, if_neg c2] at u1 ⊢; exact u1.2
    · rintro ⟨u, u1, u2⟩
      refine ⟨u, ⟨u1.1, ?_⟩, u2⟩
      by_cases c1 : M z < m
      · rw [if_pos c1] at u1 ⊢; exact u1.2
      · by_cases c2 : M z = m
        · rw [if_neg c1, if_pos c2] at u1 ⊢; omega
        · rw [if_neg c1, if_neg c2] at u1 ⊢; exact u1.2
  rw [e]
  exact h z g1 g2
theorem zTe_next (h : zTe K a t m (K (284 + t)) nd M N O bg me) : zTe K a t (m + 1) 0 nd M N O bg me := by
  intro z g1 g2
  have e : (if M z < m + 1 then K (284 + t) else if M z = m + 1 then 0 else 0) = (if M z < m then K (284 + t) else if M z = m then K (284 + t) else 0) := by
    repeat' split
    all_goals omega
  rw [e]
  exact h z g1 g2
theorem zTe_start (hs : ∀ x, 0 ≤ x → x < nd → bg x = -1 ∧ me x = 0) : zTe K a t 0 0 nd (fun x => x) (fun _ => 0) (fun _ => 0) bg me := by
  intro z g1 g2
  exact ⟨fun ⟨u, u1, u2, _⟩ => absurd u2 (Int.lt_irrefl 0), fun _ => hs z g1 g2⟩
end TEND
