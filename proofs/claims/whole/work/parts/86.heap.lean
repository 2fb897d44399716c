/-! a heap that has grown; references changed -/
def zHx (T T' : zT) (C : Int → Int → Prop) : Prop := zsz T ≤ zsz T' ∧ (∀ x, 0 ≤ x → x < zsz T → zc T' x = zc T x ∧ zl T' x = zl T x) ∧ ∀ x k, x < zsz T → ¬ C x k → zp T' x k = zp T x k
theorem zsz_0 (T : zT) : 0 ≤ zsz T := by unfold zsz; omega
theorem zHx_r (T : zT) (C : Int → Int → Prop) : zHx T T C := ⟨Int.le_refl _, fun _ _ _ => ⟨rfl, rfl⟩, fun _ _ _ _ => rfl⟩
theorem zHx_t {T T' T'' : zT} {C D : Int → Int → Prop} (h : zHx T T' C) (g : zHx T' T'' D) : zHx T T'' (fun x k => C x k ∨ D x k) := by
  have h1 := h.1
  refine ⟨Int.le_trans h.1 g.1, fun x x1 x2 => ?_, fun x k x1 x2 => ?_⟩
  · have a := h.2.1 x x1 x2
    have b := g.2.1 x x1 (by omega)
    rw [b.1, b.2, a.1, a.2]
    exact ⟨rfl, rfl⟩
  · rw [g.2.2 x k (by omega) (fun q => x2 (Or.inr q)), h.2.2 x k x1 (fun q => x2 (Or.inl q))]
theorem zHx_m {T T' : zT} {C D : Int → Int → Prop} (h : zHx T T' C) (q : ∀ x k, x < zsz T → C x k → D x k) : zHx T T' D := ⟨h.1, h.2.1, fun x k x1 x2 => h.2.2 x k x1 (fun z => x2 (q x k x1 z))⟩
theorem zsz_n (T : zT) (c n : Int) : zsz (zn T c n) = zsz T + 1 := by unfold zsz zn; simp
theorem zsl_n (T : zT) (c n : Int) : (zn T c n).2.1 = T.2.1 + n.toNat := rfl
theorem zHx_n (T : zT) (c n : Int) (C : Int → Int → Prop) : zHx T (zn T c n) C := by
  refine ⟨by rw [zsz_n]; omega, fun x x1 x2 => ?_, fun x k x1 _ => ?_⟩
  · unfold zsz at x2
    unfold zc zl zn zu
    simp only
    rw [if_neg (by omega), if_neg (by omega)]
    exact ⟨rfl, rfl⟩
  · unfold zsz at x1
    unfold zp zn zs
    simp only
    rw [if_neg (by omega)]
theorem zAr_n (T : zT) (c n : Int) : zAr (zn T c n) (zsz T) c n := by
  have := zsz_0 T
  refine ⟨⟨this, by rw [zsz_n]; omega, ?_⟩, ?_⟩
  · unfold zc zn zu zsz; simp
  · unfold zl zn zu zsz; simp
theorem zO_n (T : zT) (c n : Int) : zO (zn T (c + 10) n) (zsz T) c := by
  have := zsz_0 T
  refine ⟨this, by rw [zsz_n]; omega, ?_⟩
  unfold zc zn zu zsz; simp
theorem zsz_q (T : zT) (x i v : Int) : zsz (zqw T x i v) = zsz T := rfl
theorem zsl_q (T : zT) (x i v : Int) : (zqw T x i v).2.1 = T.2.1 := rfl
theorem zp_q {T : zT} {x i v a k : Int} : zp (zqw T x i v) a k = if a = x ∧ k = i then v else zp T a k := by
  unfold zqw zq
  unfold zp
  simp only
  unfold zs zu
  by_cases h : a = x
  · subst h; by_cases h2 : k = i <;> simp [h2]
  · simp [h]
theorem zHx_q (T : zT) (x i v : Int) : zHx T (zqw T x i v) (fun a k => a = x ∧ k = i) := ⟨Int.le_refl _, fun _ _ _ => ⟨rfl, rfl⟩, fun a k _ q => by rw [zp_q, if_neg q]⟩
theorem zO_x {T T' : zT} {C : Int → Int → Prop} {x c : Int} (h : zHx T T' C) (g : zO T x c) : zO T' x c := by
  obtain ⟨g1, g2, g3⟩ := g
  have := h.1
  exact ⟨g1, by omega, by rw [(h.2.1 x g1 g2).1, g3]⟩
theorem zAr_x {T T' : zT} {C : Int → Int → Prop} {x c n : Int} (h : zHx T T' C) (g : zAr T x c n) : zAr T' x c n := by
  obtain ⟨⟨g1, g2, g3⟩, g4⟩ := g
  have := h.1
  have q := h.2.1 x g1 g2
  exact ⟨⟨g1, by omega, by rw [q.1, g3]⟩, by rw [q.2, g4]⟩
theorem z_pt0_ok : ∀ q, q ∈ z_pt0 → (0 ≤ q.1 ∧ q.1 < 153) ∧ q.1 ≠ 95 ∧ q.1 ≠ 103 ∧ q.1 ≠ 55 ∧ (q.1 = 78 → q.2.1 < 2) := by decide +kernel
theorem zStr_x {T T' : zT} {C : Int → Int → Prop} (h : zStr T) (g : zHx T T' C) (hc : ∀ x k, C x k → (x = 78 ∧ 2 ≤ k) ∨ x = 95 ∨ x = 103 ∨ x = 55 ∨ 153 ≤ x) : zStr T' := by
  obtain ⟨h1, h2, h3⟩ := h
  have g1 := g.1
  refine ⟨by omega, fun i hi => ?_, fun i q hq => ?_⟩
  · have := g.2.1 (i : Int) (by omega) (by omega)
    rw [this.1, this.2]
    exact h2 i hi
  · have ok := z_pt0_ok q (List.mem_of_getElem? hq)
    rw [g.2.2 q.1 q.2.1 (by omega) (fun z => by have := hc _ _ z; omega)]
    exact h3 i q hq
theorem zTongue_x {T T' : zT} {C : Int → Int → Prop} {b : Int} (h : zTongue T b) (g : zHx T T' C) (hc : ∀ k, ¬ C b k) : zTongue T' b := by
  have hb := h.1.2.1
  obtain ⟨h1, h2, h3, h4, h5, h6, h7, h8, r1, r2, r3, r4, r5, r6, r7⟩ := h
  refine ⟨zO_x g h1, ?_, ?_, ?_, ?_, ?_, ?_, ?_, zAr_x g r1, zAr_x g r2, zAr_x g r3, zAr_x g r4, zAr_x g r5, zAr_x g r6, zAr_x g r7⟩ <;> rw [g.2.2 b _ hb (hc _)] <;> assumption
theorem zYards_x {T T' : zT} {C : Int → Int → Prop} {b : Int} (h : zYards T b) (g : zHx T T' C) (hc : ∀ k, ¬ C b k) : zYards T' b := by
  have hb := h.1.2.1
  obtain ⟨h1, h2, h3, h4, h5, h6, r1, r2, r3, r4, r5⟩ := h
  refine ⟨zO_x g h1, ?_, ?_, ?_, ?_, ?_, zAr_x g r1, zAr_x g r2, zAr_x g r3, zAr_x g r4, zAr_x g r5⟩ <;> rw [g.2.2 b _ hb (hc _)] <;> assumption
theorem zState_x {T T' : zT} {C : Int → Int → Prop} {b : Int} (h : zState T b) (g : zHx T T' C) (hc : ∀ x k, b ≤ x → x ≤ b + 26 → ¬ C x k) : zState T' b := by
  have hb := h.1.2.1
  obtain ⟨h1, h2, h3, h4, h5, h6, h7, h8, r1, r2, r3, r4, t1, t2, y⟩ := h
  refine ⟨zO_x g h1, ?_, ?_, ?_, ?_, ?_, ?_, ?_, zAr_x g r1, zAr_x g r2, zAr_x g r3, zAr_x g r4, zTongue_x t1 g (fun k => hc _ k (by omega) (by omega)), zTongue_x t2 g (fun k => hc _ k (by omega) (by omega)), zYards_x y g (fun k => hc _ k (by omega) (by omega))⟩ <;> rw [g.2.2 b _ hb (hc _ _ (by omega) (by omega))] <;> assumption
theorem zLayer_x {T T' : zT} {C : Int → Int → Prop} {q n : Int} (h : zLayer T q n) (g : zHx T T' C) (hc : ∀ k, ¬ C q k) : zLayer T' q n := by
  have hb := h.1.2.1
  obtain ⟨h1, r1, r2, r3, r4, r5, r6, r7⟩ := h
  unfold zLayer
  rw [g.2.2 q 1 hb (hc _), g.2.2 q 2 hb (hc _), g.2.2 q 3 hb (hc _), g.2.2 q 4 hb (hc _), g.2.2 q 5 hb (hc _), g.2.2 q 6 hb (hc _), g.2.2 q 7 hb (hc _)]
  exact ⟨zO_x g h1, zAr_x g r1, zAr_x g r2, zAr_x g r3, zAr_x g r4, zAr_x g r5, zAr_x g r6, zAr_x g r7⟩
section COPYOF
variable {T : zT} {V : zM}
theorem c109 {x n m : Int} (h : zAr T x 0 n) (hm : n < m ∧ m ≤ 1000000) (hn : 0 ≤ n) : zcall 109 [(2, x), (0, m)] T V = some ((2, zsz T), zn T 0 m, zcp (zs V (zsz T) (fun _ => 0)) (zsz T) x 0 0 n) := by
  have e : min n m = n := by omega
  have hx := h.1.2.1
  rw [e109, b109_0 h, if_neg (by omega), b109_14 (by omega), b109_17 (zAr_x (zHx_n T 0 m (fun _ _ => False)) h) (zAr_n T 0 m) (by omega) (by omega), e]
theorem c110 {x n m : Int} (h : zAr T x 1 n) (hm : n < m ∧ m ≤ 1000000) (hn : 0 ≤ n) : zcall 110 [(2, x), (0, m)] T V = some ((2, zsz T), zn T 1 m, zcp (zs V (zsz T) (fun _ => 0)) (zsz T) x 0 0 n) := by
  have e : min n m = n := by omega
  have hx := h.1.2.1
  rw [e110, b110_0 h, if_neg (by omega), b110_14 (by omega), b110_17 (zAr_x (zHx_n T 1 m (fun _ _ => False)) h) (zAr_n T 1 m) (by omega) (by omega), e]
end COPYOF
