/-! a run that ends as wished -/
def zwp (e : Option (zV × zH)) (Q : zV → zT → zM → Prop) : Prop := ∃ r T V, e = some (r, T, V) ∧ Q r T V
theorem zwp_ret {Q : zV → zT → zM → Prop} {r : zV} {T : zT} {V : zM} (h : Q r T V) : zwp (some (r, T, V)) Q := ⟨r, T, V, rfl, h⟩
theorem zwp_ite {c : Prop} [Decidable c] {a b : Option (zV × zH)} {Q : zV → zT → zM → Prop} (h1 : c → zwp a Q) (h2 : ¬ c → zwp b Q) : zwp (if c then a else b) Q := by
  by_cases h : c
  · rw [if_pos h]; exact h1 h
  · rw [if_neg h]; exact h2 h
theorem zwp_bind {e : Option (zV × zH)} {f : zV × zH → Option (zV × zH)} {Q : zV → zT → zM → Prop} (h : zwp e fun r T V => zwp (f (r, T, V)) Q) : zwp (e.bind f) Q := by
  obtain ⟨r, T, V, he, r2, T2, V2, h2, h3⟩ := h
  exact ⟨r2, T2, V2, by rw [he]; exact h2, h3⟩
theorem zwp_mono {e : Option (zV × zH)} {Q Q' : zV → zT → zM → Prop} (h : zwp e Q) (hq : ∀ r T V, Q r T V → Q' r T V) : zwp e Q' := by
  obtain ⟨r, T, V, he, h2⟩ := h
  exact ⟨r, T, V, he, hq _ _ _ h2⟩
theorem zwp_seq {e : Option (zV × zH)} {f : zV × zH → Option (zV × zH)} {Q P : zV → zT → zM → Prop} (h : zwp e P) (h2 : ∀ r T V, P r T V → zwp (f (r, T, V)) Q) : zwp (e.bind f) Q := zwp_bind (zwp_mono h h2)
theorem zwp_to {e : Option (zV × zH)} {Q : zV → zT → zM → Prop} (h : zwp e Q) : ∃ r T V, e = some (r, T, V) ∧ Q r T V := h
/-- counting up, with what goes along -/
theorem zup {α : Type} (I P : Int → α → Prop) {lo hi : Int} (hle : lo ≤ hi) (hend : ∀ a, I hi a → P hi a) (hstep : ∀ i a, lo ≤ i → i < hi → I i a → (∀ a', I (i + 1) a' → P (i + 1) a') → P i a) : ∀ a, I lo a → P lo a := by
  obtain ⟨n, hn⟩ : ∃ n : Nat, hi = lo + n := ⟨(hi - lo).toNat, by omega⟩
  subst hn
  clear hle
  induction n generalizing lo with
  | zero => intro a h; have e : lo + (0 : Nat) = lo := by omega
            rw [e] at hend; exact hend a h
  | succ n ih =>
    intro a h
    refine hstep lo a (by omega) (by omega) h fun a' h' => ?_
    have e : lo + ((n + 1 : Nat) : Int) = lo + 1 + (n : Int) := by omega
    rw [e] at hend hstep
    exact ih hend (fun i b h1 h2 => hstep i b (by omega) h2) a' h'
/-- counting down -/
theorem zdn {α : Type} (I P : Int → α → Prop) {lo hi : Int} (hle : lo ≤ hi) (hend : ∀ a, I lo a → P lo a) (hstep : ∀ i a, lo < i → i ≤ hi → I i a → (∀ a', I (i - 1) a' → P (i - 1) a') → P i a) : ∀ a, I hi a → P hi a := by
  have := zup (fun i => I (lo + hi - i)) (fun i => P (lo + hi - i)) hle (fun a h => by
    have e : lo + hi - hi = lo := by omega
    simp only [e] at h ⊢
    exact hend a h) (fun i a h1 h2 h k => hstep (lo + hi - i) a (by omega) (by omega) h (fun a' h' => by
      have e : lo + hi - i - 1 = lo + hi - (i + 1) := by omega
      rw [e] at h' ⊢
      exact k a' h'))
  intro a h
  have e : lo + hi - lo = hi := by omega
  have := this a
  simp only [e] at this
  exact this h
/-- what goes on is smaller -/
theorem zrec {σ : Type} (m : σ → Nat) (I P : σ → Prop) (step : ∀ s, I s → (∀ s', m s' < m s → I s' → P s') → P s) : ∀ s, I s → P s := by
  have key : ∀ n s, m s < n → I s → P s := by
    intro n
    induction n with
    | zero => intro s h; omega
    | succ n ih => intro s h hi; exact step s hi fun s' h' hi' => ih s' (by omega) hi'
  exact fun s hi => key (m s + 1) s (by omega) hi
theorem zwr_ne {V : zM} {x i v r : Int} (h : ¬ r = x) : zwr V x i v r = V r := by
  unfold zwr zs; simp [h]
theorem zwr_same {V : zM} {x i v j : Int} : zwr V x i v x j = if j = i then v else V x j := by
  rw [zwr_eq]; simp
theorem zsr_ne {V : zM} {x r : Int} {f : Int → Int} (h : ¬ r = x) : zs V x f r = V r := by
  unfold zs; simp [h]
theorem zsr_same {V : zM} {x : Int} {f : Int → Int} : zs V x f x = f := by
  unfold zs; simp
theorem zcp_ne {V : zM} {d s sp dp n r : Int} (h : ¬ r = d) : zcp V d s sp dp n r = V r := zsr_ne h
theorem zcp_same {V : zM} {d s sp dp n j : Int} : zcp V d s sp dp n d j = if dp ≤ j ∧ j < dp + n then V s (sp + (j - dp)) else V d j := by
  rw [zcp_eq]; simp
