/-! what is looked at in the layers -/
theorem zObs_cnt (K : Int → Int) (a : Int) (A : Int → Int → Prop) (r : Nat) (n : Int) : zObs zoc 0 n (fun c _ _ _ _ e w => min 1000000000000 (c * zW K a A r e w)) := by
  refine ⟨fun e w => by show min 1000000000000 (0 * zW K a A r e w) = 0; rw [Int.zero_mul]; decide, ?_⟩
  intro c k h l m c2 k2 h2 l2 m2 k' h' l' e w h1 h2 _
  refine zcnt_take ?_ (by have := h2.1; omega) (zW_pos K a A r e w)
  rcases h1 with h1 | h1
  · have := h1.1; omega
  · have := h1.1; omega
theorem zObs_key (K : Int → Int) (r : Nat) (n : Int) (hn : 0 ≤ n) (hr : n + r ≤ 16) : zObs min zinf n (fun _ k h l _ e w => zO2 K n r k h l e w) := by
  refine ⟨fun e w => zO2_blank, ?_⟩
  intro c k h l m c2 k2 h2 l2 m2 k' h' l' e w v v2 out
  have tk := zO2_take (K := K) (n := n) (r := r) (k := k) (h := h) (l := l) (k2 := k2) (h2 := h2) (l2 := l2) (e := e) (w := w) hn hr (by have := v2.2.1; omega) (by
    rcases v with v | v
    · exact Or.inr ⟨v.2.1.1, by have := v.2.1; omega, v.2.2.1⟩
    · exact Or.inl v.2.1) v2.2.2.1
  rcases out with ⟨o1, rfl, rfl, rfl⟩ | ⟨o1, rfl, rfl, rfl⟩
  · exact tk.1 o1
  · exact tk.2 o1
/-- one cell on -/
theorem zFo_stp {V : zM} {op : Int → Int → Int} {z : Int} {O O' : Int → Int → Int → Int → Int → Int → Int → Int} {q g n1 E W n : Int} {Qe Qw : Int → Int} (hF : zFm V q g n1 E W n) (h : ∀ c k h l m e w, zEv n c k h l m → O c k h l m e w = O' c k h l m e w) : zFo V op z O q g Qe Qw = zFo V op z O' q g Qe Qw := by
  unfold zFo
  refine zfo_congr fun i i1 i2 => ?_
  unfold zOe
  exact h _ _ _ _ _ _ _ (hF.2 i i1 (by omega)).2.2
theorem zSt2_cnt {V0 : zM} {K : Int → Int} {a pb n : Int} {A : Int → Int → Prop} {r : Nat} {c k h l m e w : Int} (hw : ∀ p, 0 ≤ p → p < 729 → V0 (pb + 1) p = zct K (A (r : Int)) p) (v : zEv n c k h l m) : zSt2 V0 K a pb n zoc 0 (fun c _ _ _ _ e w => min 1000000000000 (c * zW K a A r e w)) c k h l m e w = min 1000000000000 (c * zW K a A (r + 1) e w) := zStp_cnt hw (by have := v.1; omega)
theorem zSt2_key {V0 : zM} {K : Int → Int} {pb n : Int} {r : Nat} {c k h l m e w : Int} (hK : zcok K) (hP : zPm K (V0 (pb + 1)) (V0 (pb + 3)) (V0 (pb + 2))) (hn : 0 ≤ n ∧ n ≤ 16) (hr : r ≤ 15) (v : zEv n c k h l m) : zSt2 V0 K 0 pb n min zinf (fun _ k h l _ e w => zO2 K (n + 1) r k h l e w) c k h l m e w = zO2 K n (r + 1) k h l e w := by
  have := v.2.1
  have hl := v.2.2.1
  exact zStp_key hK hP hn.1 hr (by omega) ⟨hl.1, hl.2.1⟩ (fun h8 => (hl.2.2.1 h8).2)
/-- at the end of the walls -/
theorem zfin0 (t : Int) : zfin (fun _ => 0) 0 t 0 := Or.inl ⟨rfl, rfl⟩
theorem zEnd_cnt {V : zM} {K : Int → Int} {a : Int} {A : Int → Int → Prop} {Qe Qw : Int → Int} {q g n1 E W n : Int} (hF : zFm V q g n1 E W n) : zfo zoc 0 (zEnd V K a Qe Qw g 0 (fun c _ _ _ _ e w => min 1000000000000 (c * zW (fun _ => 0) 0 A 0 e w)) 0 0) (V q 0).toNat = zFo V zoc 0 (fun c _ _ _ _ e w => min 1000000000000 (c * zW K a A 0 e w)) q g Qe Qw := by
  unfold zFo
  refine zfo_congr fun i i1 i2 => ?_
  have v := (hF.2 i i1 (by omega)).2.2.1
  unfold zEnd zOo zOe
  simp only
  have e0 : zW (fun _ => 0) 0 A 0 0 0 = 1 := by rw [zW]; exact zif_t ⟨zfin0 0, zfin0 1⟩
  rw [e0, zW]
  by_cases c : zfin K a 0 (Qe (V (g + 1) i)) ∧ zfin K a 1 (Qw (V (g + 2) i))
  · rw [zif_t c, zif_t c]
  · rw [zif_f c, zif_f c, Int.mul_zero]; decide
theorem zEnd_key {V : zM} {K : Int → Int} {Qe Qw : Int → Int} {q g n1 E W n : Int} (hn : 0 ≤ n ∧ n ≤ 16) (hF : zFm V q g n1 E W n) : zfo min zinf (zEnd V K 0 Qe Qw g zinf (fun _ k h l _ e w => zO2 (fun _ => 0) n 0 k h l e w) 0 0) (V q 0).toNat = zFo V min zinf (fun _ k h l _ e w => zO2 K n 0 k h l e w) q g Qe Qw := by
  unfold zFo
  refine zfo_congr fun i i1 i2 => ?_
  have v := (hF.2 i i1 (by omega)).2.2
  have hw := (zwall_r hn.1 v.2.2.1).1
  have hk := v.2.1
  unfold zEnd zOo zOe
  simp only
  unfold zO2
  have e0 : zB (fun _ => 0) 0 0 0 = 0 := by rw [zB]; exact zif_t ⟨zfin0 0, zfin0 1⟩
  have hk2 : V (g + 4) i < 1000000 := by omega
  rw [e0, zif_t hk2, zif_t hk2, zB]
  by_cases c : zfin K 0 0 (Qe (V (g + 1) i)) ∧ zfin K 0 1 (Qw (V (g + 2) i))
  · rw [zif_t c, zif_t c]
  · rw [zif_f c, zif_f c]
    have h1 : 0 ≤ V (g + 4) i * 128 ^ 16 := Int.mul_nonneg hk.1 (by decide)
    have h2 : 0 ≤ zwall n (V (g + 5) i) (V (g + 6) i) * 128 ^ 0 := Int.mul_nonneg hw (by decide)
    omega
