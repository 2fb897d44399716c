/-! a heap as three lists: its cells, its references, its numbers (the newest first) -/
abbrev zLs : Type := List (Int × Int) × List (Int × Int × Int) × List (Int × Int × Int)
def zlk : List (Int × Int × Int) → Int → Int → Int → Int
  | [], _, _, d => d
  | e :: r, a, k, d => if a = e.1 ∧ k = e.2.1 then e.2.2 else zlk r a k d
def zsls : List (Int × Int) → Nat
  | [] => 0
  | e :: r => e.2.toNat + zsls r
def zHp (D : zM) (s : zLs) (T : zT) (V : zM) : Prop :=
  T.1 = s.1.length ∧ T.2.1 = zsls s.1 ∧ (∀ i : Nat, i < s.1.length → zc T (i : Int) = (s.1.getD i (0, 0)).1 ∧ zl T (i : Int) = (s.1.getD i (0, 0)).2) ∧
  (∀ a k : Int, 0 ≤ a → a < s.1.length → zp T a k = zlk s.2.1 a k (-1)) ∧ (∀ a k : Int, 0 ≤ a → a < s.1.length → V a k = zlk s.2.2 a k (D a k)) ∧
  ((∀ e ∈ s.2.1, e.1 < s.1.length) ∧ (∀ e ∈ s.2.2, e.1 < s.1.length)) ∧ ∀ a k : Int, s.1.length ≤ a → D a k = 0
/-- a new cell, put into place i of q -/
def zA1 (c n q i : Int) (s : zLs) : zLs := (s.1 ++ [(c, n)], (q, i, (s.1.length : Int)) :: s.2.1, s.2.2)
/-- a new object, made by f, put into place i of q -/
def zC1 (c n q i : Int) (f : Int → zLs → zLs) (s : zLs) : zLs :=
  ((f (s.1.length : Int) (s.1 ++ [(c, n)], s.2)).1, (q, i, (s.1.length : Int)) :: (f (s.1.length : Int) (s.1 ++ [(c, n)], s.2)).2.1, (f (s.1.length : Int) (s.1 ++ [(c, n)], s.2)).2.2)
section HEAPS
variable {D V : zM} {s : zLs} {T : zT}
theorem zlk_out : ∀ {r : List (Int × Int × Int)} {a k d N : Int}, (∀ e ∈ r, e.1 < N) → N ≤ a → zlk r a k d = d
  | [], _, _, _, _, _, _ => rfl
  | e :: r, a, k, d, N, h, ha => by
    have h1 := h e List.mem_cons_self
    rw [zlk, if_neg (by omega)]
    exact zlk_out (fun x hx => h x (List.mem_cons_of_mem _ hx)) ha
theorem zsls_app : ∀ (l : List (Int × Int)) (c n : Int), zsls (l ++ [(c, n)]) = zsls l + n.toNat
  | [], c, n => by simp [zsls]
  | e :: r, c, n => by
    show e.2.toNat + zsls (r ++ [(c, n)]) = e.2.toNat + zsls r + n.toNat
    rw [zsls_app r c n]
    omega
theorem zHp_n {c n : Int} (h : zHp D s T V) : zHp D (s.1 ++ [(c, n)], s.2) (zn T c n) (zs V (zsz T) (fun _ => 0)) := by
  obtain ⟨h1, h2, h3, h4, h5, ⟨h6, h7⟩, h8⟩ := h
  have hl : (s.1 ++ [(c, n)]).length = s.1.length + 1 := by simp
  have hz : zsz T = (s.1.length : Int) := by unfold zsz; rw [h1]
  have e1 : ∀ a : Int, zc (zn T c n) a = if a = zsz T then c else zc T a := fun a => rfl
  have e2 : ∀ a : Int, zl (zn T c n) a = if a = zsz T then n else zl T a := fun a => rfl
  have e3 : ∀ a : Int, zp (zn T c n) a = if a = zsz T then (fun _ => -1) else zp T a := fun a => rfl
  refine ⟨?_, ?_, fun i hi => ?_, fun a k a1 a2 => ?_, fun a k a1 a2 => ?_, ⟨fun e he => ?_, fun e he => ?_⟩, fun a k ha => ?_⟩
  · show T.1 + 1 = (s.1 ++ [(c, n)]).length
    rw [hl, h1]
  · show T.2.1 + n.toNat = zsls (s.1 ++ [(c, n)])
    rw [zsls_app, h2]
  · show zc (zn T c n) (i : Int) = ((s.1 ++ [(c, n)]).getD i (0, 0)).1 ∧ zl (zn T c n) (i : Int) = ((s.1 ++ [(c, n)]).getD i (0, 0)).2
    have hi : i < (s.1 ++ [(c, n)]).length := hi
    rw [hl] at hi
    rw [e1, e2, hz]
    by_cases q : i = s.1.length
    · subst q
      rw [if_pos rfl, if_pos rfl]
      simp [List.getD]
    · rw [if_neg (by omega), if_neg (by omega)]
      have hi2 : i < s.1.length := by omega
      have := h3 i hi2
      rw [this.1, this.2]
      simp [List.getD, List.getElem?_append_left hi2]
  · have a2 : a < ((s.1 ++ [(c, n)]).length : Int) := a2
    rw [hl] at a2
    show zp (zn T c n) a k = zlk s.2.1 a k (-1)
    rw [e3, hz]
    by_cases q : a = s.1.length
    · rw [if_pos q, zlk_out h6 (by omega)]
    · rw [if_neg q]
      exact h4 a k a1 (by omega)
  · have a2 : a < ((s.1 ++ [(c, n)]).length : Int) := a2
    rw [hl] at a2
    show zs V (zsz T) (fun _ => 0) a k = zlk s.2.2 a k (D a k)
    by_cases q : a = s.1.length
    · rw [hz, q, zsr_same, zlk_out h7 (Int.le_refl _), h8 _ _ (Int.le_refl _)]
    · rw [zsr_ne (by omega)]
      exact h5 a k a1 (by omega)
  · have := h6 e he
    show e.1 < ((s.1 ++ [(c, n)]).length : Int)
    rw [hl]; omega
  · have := h7 e he
    show e.1 < ((s.1 ++ [(c, n)]).length : Int)
    rw [hl]; omega
  · have ha : ((s.1 ++ [(c, n)]).length : Int) ≤ a := ha
    rw [hl] at ha
    exact h8 a k (by omega)
theorem zHp_q {q i x : Int} (h : zHp D s T V) (hq : 0 ≤ q ∧ q < zsz T) : zHp D (s.1, (q, i, x) :: s.2.1, s.2.2) (zqw T q i x) V := by
  obtain ⟨h1, h2, h3, h4, h5, ⟨h6, h7⟩, h8⟩ := h
  have hz : zsz T = (s.1.length : Int) := by unfold zsz; rw [h1]
  refine ⟨h1, h2, h3, fun a k a1 a2 => ?_, h5, ⟨fun e he => ?_, h7⟩, h8⟩
  · show zp (zqw T q i x) a k = if a = q ∧ k = i then x else zlk s.2.1 a k (-1)
    have e1 : zp (zqw T q i x) a = if a = q then zu (zp T q) i x else zp T a := rfl
    rw [e1]
    by_cases c1 : a = q
    · rw [if_pos c1]
      unfold zu
      by_cases c2 : k = i
      · rw [if_pos c2, if_pos ⟨c1, c2⟩]
      · rw [if_neg c2, if_neg (fun z => c2 z.2), ← c1]
        exact h4 a k a1 a2
    · rw [if_neg c1, if_neg (fun z => c1 z.1)]
      exact h4 a k a1 a2
  · rcases List.mem_cons.mp he with rfl | he
    · show q < (s.1.length : Int)
      omega
    · exact h6 e he
theorem zHp_w {q i x : Int} (h : zHp D s T V) (hq : 0 ≤ q ∧ q < zsz T) : zHp D (s.1, s.2.1, (q, i, x) :: s.2.2) T (zwr V q i x) := by
  obtain ⟨h1, h2, h3, h4, h5, ⟨h6, h7⟩, h8⟩ := h
  have hz : zsz T = (s.1.length : Int) := by unfold zsz; rw [h1]
  refine ⟨h1, h2, h3, h4, fun a k a1 a2 => ?_, ⟨h6, fun e he => ?_⟩, h8⟩
  · show zwr V q i x a k = if a = q ∧ k = i then x else zlk s.2.2 a k (D a k)
    by_cases c1 : a = q
    · rw [c1, zwr_same]
      by_cases c2 : k = i
      · rw [if_pos c2, if_pos ⟨rfl, c2⟩]
      · rw [if_neg c2, if_neg (fun z => c2 z.2), ← c1]
        exact h5 a k a1 a2
    · rw [zwr_ne c1, if_neg (fun z => c1 z.1)]
      exact h5 a k a1 a2
  · rcases List.mem_cons.mp he with rfl | he
    · show q < (s.1.length : Int)
      omega
    · exact h7 e he
theorem zHp.sz (h : zHp D s T V) : zsz T = (s.1.length : Int) := by unfold zsz; rw [h.1]
theorem zHp.o (h : zHp D s T V) (i : Nat) {c : Int} (hi : i < s.1.length) (hc : (s.1.getD i (0, 0)).1 = c + 10) : zO T (i : Int) c := ⟨by omega, by rw [h.sz]; omega, by rw [(h.2.2.1 i hi).1, hc]⟩
theorem zHp.ar (h : zHp D s T V) (i : Nat) {c n : Int} (hi : i < s.1.length) (hc : s.1.getD i (0, 0) = (c, n)) : zAr T (i : Int) c n := ⟨⟨by omega, by rw [h.sz]; omega, by rw [(h.2.2.1 i hi).1, hc]⟩, by rw [(h.2.2.1 i hi).2, hc]⟩
theorem zHp.pt (h : zHp D s T V) {a k x : Int} (ha : 0 ≤ a ∧ a < s.1.length) (hx : zlk s.2.1 a k (-1) = x) : zp T a k = x := by rw [h.2.2.2.1 a k ha.1 ha.2, hx]
theorem zHp.num (h : zHp D s T V) {a : Int} (k : Int) (ha : 0 ≤ a ∧ a < s.1.length) : V a k = zlk s.2.2 a k (D a k) := h.2.2.2.2.1 a k ha.1 ha.2
theorem zO_q {q c a i x : Int} (h : zO T q c) : zO (zqw T a i x) q c := h
theorem zO_nn {q c k n : Int} (h : zO T q c) : zO (zn T k n) q c := zO_fr (V := fun _ _ => 0) h zFrx_n
theorem zO_new {c n k : Int} (hc : c = k + 10) : zO (zn T c n) (zsz T) k := by
  have h0 : (0 : Int) ≤ (T.1 : Int) := Int.natCast_nonneg _
  refine ⟨h0, ?_, ?_⟩
  · show (T.1 : Int) < ((T.1 + 1 : Nat) : Int)
    omega
  · show (if zsz T = (T.1 : Int) then c else zc T (zsz T)) = k + 10
    rw [if_pos (show zsz T = (T.1 : Int) from rfl), hc]
variable {E : Option (zV × zH)} {k p1 p2 p3 : Nat} {l : List zV} {q cl c n i : Int} {Q : zV → zT → zM → Prop}
theorem zg1 (h : zHp D s T V) (o : zO T q cl) (e1 : E = ev k p1 l [(2, zsz T), (2, q)] (zn T c n) (zs V (zsz T) (fun _ => 0)))
    (e2 : ∀ (T1 : zT) (V1 : zM) (x : Int), zO T1 q cl → ev k p1 l [(2, x), (2, q)] T1 V1 = ev k p2 l [] (zqw T1 q i x) V1)
    (next : ∀ (T2 : zT) (V2 : zM), zHp D (zA1 c n q i s) T2 V2 → zO T2 q cl → zwp (ev k p2 l [] T2 V2) Q) : zwp E Q := by
  have o1 : zO (zn T c n) q cl := zO_nn o
  rw [e1, e2 _ _ _ o1]
  refine next _ _ ?_ (zO_q o1)
  rw [h.sz]
  have a := zHp_q (q := q) (i := i) (x := (s.1.length : Int)) (zHp_n (c := c) (n := n) h) ⟨o1.1, o1.2.1⟩
  rw [h.sz] at a
  exact a
theorem zg2 {kc : Nat} {kl : Int} {args : List zV} {f : Int → zLs → zLs} (h : zHp D s T V) (o : zO T q cl) (hk : c = kl + 10) (e1 : E = ev k p1 l [(2, zsz T), (2, q)] (zn T c n) (zs V (zsz T) (fun _ => 0)))
    (e2 : ∀ (T1 : zT) (V1 : zM) (x : Int), 0 ≤ x → zO T1 q cl → zHp D (s.1 ++ [(c, n)], s.2) T1 V1 → ev k p1 l [(2, x), (2, q)] T1 V1 = (zcall kc ((2, x) :: args) T1 V1).bind fun r => ev k p2 l (z_push r.1 [(2, x), (2, q)]) r.2.1 r.2.2)
    (hc : ∀ (T1 : zT) (V1 : zM), zHp D (s.1 ++ [(c, n)], s.2) T1 V1 → zO T1 (s.1.length : Int) kl → zwp (zcall kc ((2, (s.1.length : Int)) :: args) T1 V1) fun r T2 V2 => r = (9, 0) ∧ zHp D (f (s.1.length : Int) (s.1 ++ [(c, n)], s.2)) T2 V2)
    (e3 : ∀ (T1 : zT) (V1 : zM) (x : Int), zO T1 q cl → ev k p2 l [(2, x), (2, q)] T1 V1 = ev k p3 l [] (zqw T1 q i x) V1)
    (next : ∀ (T2 : zT) (V2 : zM), zHp D (zC1 c n q i f s) T2 V2 → zO T2 q cl → zwp (ev k p3 l [] T2 V2) Q) : zwp E Q := by
  have o1 : zO (zn T c n) q cl := zO_nn o
  have o2 : zO (zn T c n) (zsz T) kl := zO_new hk
  have a := zHp_n (c := c) (n := n) h
  rw [e1, e2 _ _ _ o2.1 o1 a]
  rw [h.sz] at o2 a ⊢
  obtain ⟨r, T2, V2, b1, rfl, b2⟩ := hc _ _ a o2
  have o3 := zO_fr o1 (fr_zcall b1)
  rw [b1]
  simp only [Option.bind_some, zpush9]
  rw [e3 _ _ _ o3]
  exact next _ _ (zHp_q b2 ⟨o3.1, o3.2.1⟩) (zO_q o3)
end HEAPS
