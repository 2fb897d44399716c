/-! the runs of AM: with fuel, and without -/
def am : Nat → Nat → Nat → List zV → List zV → zT → zM → Option (zV × zH)
  | 0, _, _, _, _, _, _ => none
  | n + 1, k, pc, l, st, T, V =>
    match zcode k pc with
    | none => none
    | some I =>
      match z_step I l st T V with
      | none => none
      | some (.inl (pc', l', st', T', V')) => am n k pc' l' st' T' V'
      | some (.inr (.inl (k', args, nx, l', st', T', V'))) =>
        if zlv k' < zlv k ∧ (z_sp args).length ≤ zmL k' then
          match am n k' 0 (z_ent (zmL k') args) [] T' V' with
          | none => none
          | some (r, T2, V2) => am n k nx l' (z_push r st') T2 V2
        else none
      | some (.inr (.inr x)) => some x
theorem am_mono : ∀ (n k pc : Nat) (l st : List zV) (T : zT) (V : zM) (x : zV × zH), am n k pc l st T V = some x → am (n + 1) k pc l st T V = some x := by
  intro n
  induction n with
  | zero => intro k pc l st T V x h; simp [am] at h
  | succ n ih =>
    intro k pc l st T V x h
    unfold am at h ⊢
    cases hc : zcode k pc with
    | none => rw [hc] at h; simp at h
    | some I =>
      rw [hc] at h
      simp only at h ⊢
      cases hs : z_step I l st T V with
      | none => rw [hs] at h; simp at h
      | some r =>
        rw [hs] at h
        rcases r with ⟨pc', l', st', T', V'⟩ | ⟨k', args, nx, l', st', T', V'⟩ | y
        · simp only at h ⊢
          exact ih _ _ _ _ _ _ _ h
        · simp only at h ⊢
          by_cases hl : zlv k' < zlv k ∧ (z_sp args).length ≤ zmL k'
          · rw [if_pos hl] at h ⊢
            cases ha : am n k' 0 (z_ent (zmL k') args) [] T' V' with
            | none => rw [ha] at h; simp at h
            | some z =>
              obtain ⟨r, T2, V2⟩ := z
              rw [ha] at h
              rw [ih _ _ _ _ _ _ _ ha]
              simp only at h ⊢
              exact ih _ _ _ _ _ _ _ h
          · rw [if_neg hl] at h; simp at h
        · simp only at h ⊢
          exact h
theorem am_le {n m k pc : Nat} {l st : List zV} {T : zT} {V : zM} {x : zV × zH} (hnm : n ≤ m) (h : am n k pc l st T V = some x) : am m k pc l st T V = some x := by
  induction hnm with
  | refl => exact h
  | step _ ih => exact am_mono _ _ _ _ _ _ _ _ ih
theorem am_det {n m k pc : Nat} {l st : List zV} {T : zT} {V : zM} {x y : zV × zH} (h : am n k pc l st T V = some x) (h' : am m k pc l st T V = some y) : x = y := by
  have h1 := am_le (Nat.le_max_left n m) h
  have h2 := am_le (Nat.le_max_right n m) h'
  exact Option.some.inj (h1.symm.trans h2)
/-- the end of a run, if there is one -/
noncomputable def ev (k pc : Nat) (l st : List zV) (T : zT) (V : zM) : Option (zV × zH) :=
  @dite _ (∃ x, ∃ n, am n k pc l st T V = some x) (Classical.propDecidable _) (fun h => some (Classical.choose h)) (fun _ => none)
theorem ev_of {n k pc : Nat} {l st : List zV} {T : zT} {V : zM} {x : zV × zH} (h : am n k pc l st T V = some x) : ev k pc l st T V = some x := by
  have hx : ∃ x, ∃ n, am n k pc l st T V = some x := ⟨x, n, h⟩
  unfold ev
  rw [dif_pos hx]
  obtain ⟨m, hm⟩ := Classical.choose_spec hx
  rw [am_det h hm]
theorem ev_to {k pc : Nat} {l st : List zV} {T : zT} {V : zM} {x : zV × zH} (h : ev k pc l st T V = some x) : ∃ n, am n k pc l st T V = some x := by
  unfold ev at h
  split at h
  · rename_i hx
    obtain ⟨m, hm⟩ := Classical.choose_spec hx
    rw [Option.some.inj h] at hm
    exact ⟨m, hm⟩
  · simp at h
theorem ev_none {k pc : Nat} {l st : List zV} {T : zT} {V : zM} (h : ∀ n, am n k pc l st T V = none) : ev k pc l st T V = none := by
  cases he : ev k pc l st T V with
  | none => rfl
  | some x =>
    obtain ⟨n, hn⟩ := ev_to he
    rw [h n] at hn
    simp at hn
noncomputable def zcall (k : Nat) (args : List zV) (T : zT) (V : zM) : Option (zV × zH) := ev k 0 (z_ent (zmL k) args) [] T V
/-- a step that goes on -/
theorem ev_go {k pc : Nat} {I : zI} {l st : List zV} {T : zT} {V : zM} {pc' : Nat} {l' st' : List zV} {T' : zT} {V' : zM} (hc : zcode k pc = some I) (hs : z_step I l st T V = some (.inl (pc', l', st', T', V'))) : ev k pc l st T V = ev k pc' l' st' T' V' := by
  have e : ∀ n, am (n + 1) k pc l st T V = am n k pc' l' st' T' V' := fun n => by
    rw [am, hc]; simp only [hs]
  cases he : ev k pc' l' st' T' V' with
  | none =>
    refine ev_none fun n => ?_
    cases n with
    | zero => rfl
    | succ n =>
      rw [e]
      cases hq : am n k pc' l' st' T' V' with
      | none => rfl
      | some x => rw [ev_of hq] at he; simp at he
  | some x =>
    obtain ⟨n, hn⟩ := ev_to he
    exact ev_of (n := n + 1) (by rw [e]; exact hn)
theorem ev_end {k pc : Nat} {I : zI} {l st : List zV} {T : zT} {V : zM} {x : zV × zH} (hc : zcode k pc = some I) (hs : z_step I l st T V = some (.inr (.inr x))) : ev k pc l st T V = some x := by
  refine ev_of (n := 1) ?_
  rw [am, hc]; simp only [hs]
theorem ev_call {k pc : Nat} {I : zI} {l st : List zV} {T : zT} {V : zM} {k' nx : Nat} {args l' st' : List zV} {T' : zT} {V' : zM} (hc : zcode k pc = some I) (hs : z_step I l st T V = some (.inr (.inl (k', args, nx, l', st', T', V')))) (hl : zlv k' < zlv k ∧ (z_sp args).length ≤ zmL k') :
    ev k pc l st T V = (zcall k' args T' V').bind fun x => ev k nx l' (z_push x.1 st') x.2.1 x.2.2 := by
  have e : ∀ n, am (n + 1) k pc l st T V = (am n k' 0 (z_ent (zmL k') args) [] T' V').bind fun x => am n k nx l' (z_push x.1 st') x.2.1 x.2.2 := fun n => by
    rw [am, hc]; simp only [hs, if_pos hl]
    cases am n k' 0 (z_ent (zmL k') args) [] T' V' with
    | none => rfl
    | some z => rfl
  cases he : zcall k' args T' V' with
  | none =>
    refine ev_none fun n => ?_
    cases n with
    | zero => rfl
    | succ n =>
      rw [e]
      cases hq : am n k' 0 (z_ent (zmL k') args) [] T' V' with
      | none => rfl
      | some x => rw [zcall, ev_of hq] at he; simp at he
  | some z =>
    obtain ⟨n1, hn1⟩ := ev_to he
    show _ = ev k nx l' (z_push z.1 st') z.2.1 z.2.2
    cases he2 : ev k nx l' (z_push z.1 st') z.2.1 z.2.2 with
    | none =>
      refine ev_none fun n => ?_
      cases n with
      | zero => rfl
      | succ n =>
        rw [e]
        cases hq : am n k' 0 (z_ent (zmL k') args) [] T' V' with
        | none => rfl
        | some x =>
          have hx : x = z := am_det hq hn1
          subst hx
          show am n k nx l' (z_push x.1 st') x.2.1 x.2.2 = none
          cases hr : am n k nx l' (z_push x.1 st') x.2.1 x.2.2 with
          | none => rfl
          | some y => rw [ev_of hr] at he2; simp at he2
    | some x =>
      obtain ⟨n2, hn2⟩ := ev_to he2
      refine ev_of (n := max n1 n2 + 1) ?_
      rw [e, am_le (Nat.le_max_left n1 n2) hn1]
      exact am_le (Nat.le_max_right n1 n2) hn2
/-- a call whose end is known -/
theorem ev_ret {k pc : Nat} {I : zI} {l st : List zV} {T : zT} {V : zM} {k' nx : Nat} {args l' st' : List zV} {T' : zT} {V' : zM} {r : zV} {T2 : zT} {V2 : zM} (hc : zcode k pc = some I) (hs : z_step I l st T V = some (.inr (.inl (k', args, nx, l', st', T', V')))) (hl : zlv k' < zlv k ∧ (z_sp args).length ≤ zmL k') (h : zcall k' args T' V' = some (r, T2, V2)) :
    ev k pc l st T V = ev k nx l' (z_push r st') T2 V2 := by
  rw [ev_call hc hs hl, h]
  rfl
