/-! what stands between the calls -/
/-- the ranges of what the reference keeps -/
def zKok (K : Int → Int) : Prop :=
  (1 ≤ K 427 ∧ K 427 ≤ 16) ∧
  (∀ c, 0 ≤ c → c < 16 → (0 ≤ K (300 + c) ∧ K (300 + c) < 128) ∧ (0 ≤ K (316 + c) ∧ K (316 + c) < 128)) ∧
  (∀ i, 0 ≤ i → i < 7 → (0 ≤ K (286 + i) ∧ K (286 + i) ≤ 6) ∧ (0 ≤ K (293 + i) ∧ K (293 + i) ≤ 99)) ∧
  (∀ t l, 0 ≤ t → t ≤ 1 → 0 ≤ l → l < 26 → (K (3 * (26 * t + l)) = 0 ∨ K (3 * (26 * t + l)) = 1) ∧ (K (3 * (26 * t + l)) = 1 → (1 ≤ K (3 * (26 * t + l) + 1) ∧ K (3 * (26 * t + l) + 1) ≤ 127) ∧ (0 ≤ K (3 * (26 * t + l) + 2) ∧ K (3 * (26 * t + l) + 2) ≤ 127) ∧ zand (K (3 * (26 * t + l) + 2)) (K (3 * (26 * t + l) + 1)) = 0)) ∧
  (∀ t, 0 ≤ t → t ≤ 1 → (0 ≤ K (284 + t) ∧ K (284 + t) ≤ 8) ∧ (0 ≤ K (364 + t) ∧ K (364 + t) ≤ 16) ∧ (0 ≤ K (374 + t) ∧ K (374 + t) ≤ 4)) ∧
  (∀ t w, 0 ≤ t → t ≤ 1 → 0 ≤ w → w < K (284 + t) → (0 ≤ K (156 + 8 * (8 * t + w)) ∧ K (156 + 8 * (8 * t + w)) ≤ 7) ∧ (1 ≤ K (156 + 8 * (8 * t + w) + 1) ∧ K (156 + 8 * (8 * t + w) + 1) ≤ 6)) ∧
  (∀ t w i, 0 ≤ t → t ≤ 1 → 0 ≤ w → w < 8 → 0 ≤ i → i < 6 → 0 ≤ K (156 + 8 * (8 * t + w) + (2 + i)) ∧ K (156 + 8 * (8 * t + w) + (2 + i)) ≤ 25) ∧
  (∀ t i, 0 ≤ t → t ≤ 1 → 0 ≤ i → i < 16 → 0 ≤ K (332 + 16 * t + i) ∧ K (332 + 16 * t + i) ≤ 26) ∧
  (∀ t i, 0 ≤ t → t ≤ 1 → 0 ≤ i → i < 4 → 0 ≤ K (366 + 4 * t + i) ∧ K (366 + 4 * t + i) ≤ 7) ∧
  (0 ≤ K 426 ∧ K 426 ≤ 10) ∧
  (∀ y f, 0 ≤ y → y < 10 → 0 ≤ f → f < 5 → 0 ≤ K (376 + 5 * y + f) ∧ K (376 + 5 * y + f) ≤ 999)
theorem zKok.n {K : Int → Int} (h : zKok K) : 1 ≤ K 427 ∧ K 427 ≤ 16 := h.1
theorem zKok.wall {K : Int → Int} (h : zKok K) {c : Int} (h1 : 0 ≤ c) (h2 : c < 16) : (0 ≤ K (300 + c) ∧ K (300 + c) < 128) ∧ (0 ≤ K (316 + c) ∧ K (316 + c) < 128) := h.2.1 c h1 h2
theorem zKok.mir {K : Int → Int} (h : zKok K) {i : Int} (h1 : 0 ≤ i) (h2 : i < 7) : (0 ≤ K (286 + i) ∧ K (286 + i) ≤ 6) ∧ (0 ≤ K (293 + i) ∧ K (293 + i) ≤ 99) := h.2.2.1 i h1 h2
theorem zKok.let {K : Int → Int} (h : zKok K) {t l : Int} (h1 : 0 ≤ t) (h2 : t ≤ 1) (h3 : 0 ≤ l) (h4 : l < 26) : (K (3 * (26 * t + l)) = 0 ∨ K (3 * (26 * t + l)) = 1) ∧ (K (3 * (26 * t + l)) = 1 → (1 ≤ K (3 * (26 * t + l) + 1) ∧ K (3 * (26 * t + l) + 1) ≤ 127) ∧ (0 ≤ K (3 * (26 * t + l) + 2) ∧ K (3 * (26 * t + l) + 2) ≤ 127) ∧ zand (K (3 * (26 * t + l) + 2)) (K (3 * (26 * t + l) + 1)) = 0) := h.2.2.2.1 t l h1 h2 h3 h4
theorem zKok.many {K : Int → Int} (h : zKok K) {t : Int} (h1 : 0 ≤ t) (h2 : t ≤ 1) : (0 ≤ K (284 + t) ∧ K (284 + t) ≤ 8) ∧ (0 ≤ K (364 + t) ∧ K (364 + t) ≤ 16) ∧ (0 ≤ K (374 + t) ∧ K (374 + t) ≤ 4) := h.2.2.2.2.1 t h1 h2
theorem zKok.wrd {K : Int → Int} (h : zKok K) {t w : Int} (h1 : 0 ≤ t) (h2 : t ≤ 1) (h3 : 0 ≤ w) (h4 : w < K (284 + t)) : (0 ≤ K (156 + 8 * (8 * t + w)) ∧ K (156 + 8 * (8 * t + w)) ≤ 7) ∧ (1 ≤ K (156 + 8 * (8 * t + w) + 1) ∧ K (156 + 8 * (8 * t + w) + 1) ≤ 6) := h.2.2.2.2.2.1 t w h1 h2 h3 h4
theorem zKok.ltr {K : Int → Int} (h : zKok K) {t w i : Int} (h1 : 0 ≤ t) (h2 : t ≤ 1) (h3 : 0 ≤ w) (h4 : w < 8) (h5 : 0 ≤ i) (h6 : i < 6) : 0 ≤ K (156 + 8 * (8 * t + w) + (2 + i)) ∧ K (156 + 8 * (8 * t + w) + (2 + i)) ≤ 25 := h.2.2.2.2.2.2.1 t w i h1 h2 h3 h4 h5 h6
theorem zKok.txt {K : Int → Int} (h : zKok K) {t i : Int} (h1 : 0 ≤ t) (h2 : t ≤ 1) (h3 : 0 ≤ i) (h4 : i < 16) : 0 ≤ K (332 + 16 * t + i) ∧ K (332 + 16 * t + i) ≤ 26 := h.2.2.2.2.2.2.2.1 t i h1 h2 h3 h4
theorem zKok.sto {K : Int → Int} (h : zKok K) {t i : Int} (h1 : 0 ≤ t) (h2 : t ≤ 1) (h3 : 0 ≤ i) (h4 : i < 4) : 0 ≤ K (366 + 4 * t + i) ∧ K (366 + 4 * t + i) ≤ 7 := h.2.2.2.2.2.2.2.2.1 t i h1 h2 h3 h4
theorem zKok.held {K : Int → Int} (h : zKok K) : 0 ≤ K 426 ∧ K 426 ≤ 10 := h.2.2.2.2.2.2.2.2.2.1
theorem zKok.yard {K : Int → Int} (h : zKok K) {y f : Int} (h1 : 0 ≤ y) (h2 : y < 10) (h3 : 0 ≤ f) (h4 : f < 5) : 0 ≤ K (376 + 5 * y + f) ∧ K (376 + 5 * y + f) ≤ 999 := h.2.2.2.2.2.2.2.2.2.2 y f h1 h2 h3 h4
/-- a tongue of the class at b is the reference's tongue t -/
def zTg (V : zM) (b : Int) (K : Int → Int) (t : Int) : Prop :=
  (∀ l, 0 ≤ l → l < 26 → V (b + 1) l = if K (3 * (26 * t + l)) = 1 then K (3 * (26 * t + l) + 1) else 0) ∧
  (∀ l, 0 ≤ l → l < 26 → K (3 * (26 * t + l)) = 1 → V (b + 2) l = K (3 * (26 * t + l) + 2)) ∧
  (∀ w, 0 ≤ w → w < 8 → V (b + 3) w = K (156 + 8 * (8 * t + w)) ∧ V (b + 4) w = K (156 + 8 * (8 * t + w) + 1)) ∧
  (∀ w i, 0 ≤ w → w < 8 → 0 ≤ i → i < 6 → V (b + 5) (w * 6 + i) = K (156 + 8 * (8 * t + w) + (2 + i))) ∧
  (∀ i, 0 ≤ i → i < 16 → V (b + 6) i = K (332 + 16 * t + i)) ∧
  (∀ i, 0 ≤ i → i < 4 → V (b + 7) i = K (366 + 4 * t + i)) ∧
  V b 5 = K (284 + t) ∧ V b 7 = K (364 + t) ∧ V b 9 = K (374 + t)
theorem zTg.must {V : zM} {b : Int} {K : Int → Int} {t : Int} (h : zTg V b K t) {l : Int} (h1 : 0 ≤ l) (h2 : l < 26) : V (b + 1) l = if K (3 * (26 * t + l)) = 1 then K (3 * (26 * t + l) + 1) else 0 := h.1 l h1 h2
theorem zTg.mnot {V : zM} {b : Int} {K : Int → Int} {t : Int} (h : zTg V b K t) {l : Int} (h1 : 0 ≤ l) (h2 : l < 26) (h3 : K (3 * (26 * t + l)) = 1) : V (b + 2) l = K (3 * (26 * t + l) + 2) := h.2.1 l h1 h2 h3
theorem zTg.mean {V : zM} {b : Int} {K : Int → Int} {t : Int} (h : zTg V b K t) {w : Int} (h1 : 0 ≤ w) (h2 : w < 8) : V (b + 3) w = K (156 + 8 * (8 * t + w)) := (h.2.2.1 w h1 h2).1
theorem zTg.len {V : zM} {b : Int} {K : Int → Int} {t : Int} (h : zTg V b K t) {w : Int} (h1 : 0 ≤ w) (h2 : w < 8) : V (b + 4) w = K (156 + 8 * (8 * t + w) + 1) := (h.2.2.1 w h1 h2).2
theorem zTg.ltr {V : zM} {b : Int} {K : Int → Int} {t : Int} (h : zTg V b K t) {w i : Int} (h1 : 0 ≤ w) (h2 : w < 8) (h3 : 0 ≤ i) (h4 : i < 6) : V (b + 5) (w * 6 + i) = K (156 + 8 * (8 * t + w) + (2 + i)) := h.2.2.2.1 w i h1 h2 h3 h4
theorem zTg.txt {V : zM} {b : Int} {K : Int → Int} {t : Int} (h : zTg V b K t) {i : Int} (h1 : 0 ≤ i) (h2 : i < 16) : V (b + 6) i = K (332 + 16 * t + i) := h.2.2.2.2.1 i h1 h2
theorem zTg.sto {V : zM} {b : Int} {K : Int → Int} {t : Int} (h : zTg V b K t) {i : Int} (h1 : 0 ≤ i) (h2 : i < 4) : V (b + 7) i = K (366 + 4 * t + i) := h.2.2.2.2.2.1 i h1 h2
theorem zTg.words {V : zM} {b : Int} {K : Int → Int} {t : Int} (h : zTg V b K t) : V b 5 = K (284 + t) := h.2.2.2.2.2.2.1
theorem zTg.tlen {V : zM} {b : Int} {K : Int → Int} {t : Int} (h : zTg V b K t) : V b 7 = K (364 + t) := h.2.2.2.2.2.2.2.1
theorem zTg.slen {V : zM} {b : Int} {K : Int → Int} {t : Int} (h : zTg V b K t) : V b 9 = K (374 + t) := h.2.2.2.2.2.2.2.2
def zYr (V : zM) (b : Int) (K : Int → Int) : Prop :=
  V b 5 = K 426 ∧ ∀ y, 0 ≤ y → y < 10 → V (b + 1) y = K (376 + 5 * y) ∧ V (b + 2) y = K (376 + 5 * y + 1) ∧ V (b + 3) y = K (376 + 5 * y + 2) ∧ V (b + 4) y = K (376 + 5 * y + 3) ∧ V (b + 5) y = K (376 + 5 * y + 4)
/-- a state of the class is what the reference keeps -/
def zSR (V : zM) (b : Int) (K : Int → Int) : Prop :=
  V b 0 = K 427 ∧ (∀ c, 0 ≤ c → c < 16 → V (b + 1) c = K (300 + c) ∧ V (b + 2) c = K (316 + c)) ∧
  (∀ i, 0 ≤ i → i < 7 → V (b + 3) i = K (286 + i) + 1 ∧ V (b + 4) i = K (293 + i)) ∧
  zTg V (b + 5) K 0 ∧ zTg V (b + 13) K 1 ∧ zYr V (b + 21) K
theorem zSR.n {V : zM} {b : Int} {K : Int → Int} (h : zSR V b K) : V b 0 = K 427 := h.1
theorem zSR.wall {V : zM} {b : Int} {K : Int → Int} (h : zSR V b K) {c : Int} (h1 : 0 ≤ c) (h2 : c < 16) : V (b + 1) c = K (300 + c) ∧ V (b + 2) c = K (316 + c) := h.2.1 c h1 h2
theorem zSR.mir {V : zM} {b : Int} {K : Int → Int} (h : zSR V b K) {i : Int} (h1 : 0 ≤ i) (h2 : i < 7) : V (b + 3) i = K (286 + i) + 1 ∧ V (b + 4) i = K (293 + i) := h.2.2.1 i h1 h2
theorem zSR.east {V : zM} {b : Int} {K : Int → Int} (h : zSR V b K) : zTg V (b + 5) K 0 := h.2.2.2.1
theorem zSR.west {V : zM} {b : Int} {K : Int → Int} (h : zSR V b K) : zTg V (b + 13) K 1 := h.2.2.2.2.1
theorem zSR.yards {V : zM} {b : Int} {K : Int → Int} (h : zSR V b K) : zYr V (b + 21) K := h.2.2.2.2.2
/-- a pair table: the sets A, with their marks -/
def zbit (x j : Int) : Prop := x / 2 ^ j.toNat % 2 = 1
def zPL (V : zM) (b : Int) : Prop := (0 ≤ V b 5 ∧ V b 5 ≤ 128) ∧ (∀ i, 0 ≤ i → i < V b 5 → 0 ≤ V (b + 5) i ∧ V (b + 5) i < 729) ∧ ∀ p, 0 ≤ p → p < 729 → V (b + 1) p ≠ 0 → ∃ i, (0 ≤ i ∧ i < V b 5) ∧ V (b + 5) i = p
def zPT (V : zM) (b : Int) (K : Int → Int) (A : Int → Prop) (mk : Int → Int) : Prop :=
  zPL V b ∧ V b 5 ≤ zcnt A 128 ∧ (∀ i j, 0 ≤ i → i < j → j < V b 5 → V (b + 5) i ≠ V (b + 5) j) ∧
  (∀ i, 0 ≤ i → i < V b 5 → 0 < V (b + 1) (V (b + 5) i)) ∧
  (∀ p, 0 ≤ p → p < 729 → V (b + 1) p = zcnt (fun s => A s ∧ zpr K s = p) 128) ∧
  (∀ p, 0 ≤ p → p < 729 → 0 < V (b + 1) p → (0 ≤ V (b + 2) p ∧ V (b + 2) p < 128) ∧ A (V (b + 2) p) ∧ zpr K (V (b + 2) p) = p ∧ V (b + 3) p = zcst K (V (b + 2) p) ∧ ∀ s, 0 ≤ s → s < 128 → A s → zpr K s = p → zcst K (V (b + 2) p) < zcst K s ∨ (zcst K (V (b + 2) p) = zcst K s ∧ V (b + 2) p ≤ s)) ∧
  (∀ p, 0 ≤ p → p < 729 → 0 < V (b + 1) p → (0 ≤ V (b + 4) p ∧ V (b + 4) p < 16384) ∧ ∀ j, 0 ≤ j → j < 14 → (zbit (V (b + 4) p) j ↔ ∃ s, (0 ≤ s ∧ s < 128) ∧ A s ∧ zpr K s = p ∧ zbit (mk s) j))
/-- the tellings of 1 to 16 cells -/
def zwall (n h t : Int) : Int := if n ≤ 8 then h else h * 128 ^ (n - 8).toNat + t
def zTell (V : zM) (K : Int → Int) : Prop := ∀ n : Nat, 1 ≤ n → n ≤ 16 → V 115 n = min 1000000000000 (zW K 0 (fun _ _ => True) n 0 0) ∧ (0 < V 115 n → V 116 n * 128 ^ 16 + zwall n (V 117 n) (V 118 n) = zB K n 0 0 ∧ 0 ≤ V 117 n ∧ 0 ≤ V 118 n ∧ V 117 n < 128 ^ 8 ∧ (8 < n → V 118 n < 128 ^ (n - 8)))
def zuse (K : Int → Int) (a t : Int) : Int := 56 * (if zms K a t = 0 then 1 else zms K a t)
def zLeft (V : zM) (K : Int → Int) (N : Int) : Prop := ∀ (c e w : Int), 0 ≤ c → c ≤ N → 0 ≤ e → e < zuse K 0 0 → 0 ≤ w → w < zuse K 0 1 → V 151 ((224 * c + e) * 224 + w) = zL K (N - c).toNat e w
def zTape (V : zM) : Prop := V 56 1 = V 130 12 ∧ (0 ≤ V 130 12 ∧ V 130 12 ≤ 400) ∧ ∀ j, 0 ≤ j → j < V 130 12 → V 57 j = V 137 j % 256 ∧ -128 ≤ V 137 j ∧ V 137 j ≤ 127
def zSc (n : Int) (V : zM) : Prop := (V 0 15 = V 130 13 ∧ V 0 16 = V 130 8 ∧ V 0 17 = V 130 0) ∧ (V 129 0 = V 131 1 ∧ V 129 1 = V 131 2 ∧ V 129 2 = V 131 5 ∧ V 129 3 = V 131 6) ∧ ((0 ≤ V 131 1 ∧ V 131 1 ≤ n) ∧ (0 ≤ V 131 2 ∧ V 131 2 ≤ n) ∧ (0 ≤ V 131 5 ∧ V 131 5 ≤ n) ∧ (0 ≤ V 131 6 ∧ V 131 6 ≤ n)) ∧ (V 0 14 = 0 ∨ V 0 14 = 1) ∧ (0 ≤ V 130 1 ∧ V 130 1 ≤ n) ∧ (-1 ≤ V 130 2 ∧ V 130 2 ≤ V 130 1) ∧ (0 ≤ n ∧ n ≤ 1000)
def zRd (V : zM) (K : Int → Int) : Prop := (∀ s, 0 ≤ s → s < 128 → V 60 s = zsgn K 0 s ∧ V 61 s = zsgn K 1 s ∧ V 62 s = zcst K s) ∧ V 63 0 = 0 ∧ V 64 0 = 0
def zwords : List Int := [101, 97, 115, 116, 32, 119, 101, 115, 116, 32, 119, 111, 114, 100, 32, 109, 105, 114, 114, 111, 114, 32, 99, 111, 115, 116, 32, 100, 114, 111, 112, 32, 110, 111, 116, 32]
def zWd (V : zM) : Prop := ∀ j : Nat, j < 36 → V 136 (j : Int) = zwords.getD j 0
def zTl (V : zM) (K : Int → Int) : Prop := V 0 14 = 1 → zTell V K
def zPri (V : zM) (K : Int → Int) : Prop := V 130 2 = V 130 1 → zLeft V K (V 132 427)
def zIm1 (T : zT) (V : zM) (k : Int) : Prop := (V 134 k = 0 ∧ zp T 55 k = -1) ∨ (V 134 k = 1 ∧ 153 ≤ zp T 55 k ∧ zState T (zp T 55 k) ∧ zSR V (zp T 55 k) (fun i => V 133 (428 * k + i)) ∧ zKok (fun i => V 133 (428 * k + i)))
def zIm (T : zT) (V : zM) : Prop := zIm1 T V 0 ∧ zIm1 T V 1
/-- a layer: seven rows behind g, n places each -/
def zLy (T : zT) (q g n : Int) : Prop := zLayer T q n ∧ (zp T q 1 = g + 1 ∧ zp T q 2 = g + 2 ∧ zp T q 3 = g + 3 ∧ zp T q 4 = g + 4 ∧ zp T q 5 = g + 5 ∧ zp T q 6 = g + 6 ∧ zp T q 7 = g + 7) ∧ (g = q ∨ 152 ≤ g) ∧ g + 7 < zsz T ∧ (16 ≤ n ∧ n ≤ 80000)
/-- apart -/
def zap (a n b m : Int) : Prop := a + n ≤ b ∨ b + m ≤ a
def zGeo1 (T : zT) (V : zM) (q1 q2 g1 g2 n1 n2 p m : Int) : Prop :=
  (zp T 78 2 = q1 ∧ zp T 78 3 = q2 ∧ zp T 78 4 = p) ∧ ((q1 = 95 ∧ q2 = 103) ∨ (q1 = 103 ∧ q2 = 95)) ∧ zLy T q1 g1 n1 ∧ zLy T q2 g2 n2 ∧ zAr T p 0 m ∧ (p = 111 ∨ 153 ≤ p) ∧ (0 ≤ m ∧ m ≤ 38416) ∧ (∀ j, 0 ≤ j → j < m → V p j = -1) ∧
  (zap (g1 + 1) 7 (g2 + 1) 7 ∧ zap (g1 + 1) 7 p 1 ∧ zap (g2 + 1) 7 p 1) ∧
  (∀ k, k = 0 ∨ k = 1 → 0 ≤ zp T 55 k → zap (g1 + 1) 7 (zp T 55 k) 27 ∧ zap (g2 + 1) 7 (zp T 55 k) 27 ∧ zap p 1 (zp T 55 k) 27 ∧ zp T 55 k + 26 < zsz T) ∧
  (0 ≤ zp T 55 0 → 0 ≤ zp T 55 1 → zap (zp T 55 0) 27 (zp T 55 1) 27) ∧
  ((T.2.1 : Int) ≤ 983018 + 14 * (n1 - 16) + 14 * (n2 - 16) + (2 * m + if m = 38416 then 38416 else 0) + (if 0 ≤ zp T 55 0 then 402 else 0) + (if 0 ≤ zp T 55 1 then 402 else 0)) ∧
  (zsz T ≤ 153 + (n1 - 16) + (n2 - 16) + m + (if 0 ≤ zp T 55 0 then 27 else 0) + (if 0 ≤ zp T 55 1 then 27 else 0))
def zGeo (T : zT) (V : zM) : Prop := ∃ q1 q2 g1 g2 n1 n2 p m, zGeo1 T V q1 q2 g1 g2 n1 n2 p m
def zJ (n : Int) (T : zT) (V : zM) : Prop :=
  zStr T ∧ zGeo T V ∧ zSR V 1 (V 132) ∧ zKok (V 132) ∧ zTape V ∧ zSc n V ∧ zRd V (zkc (V 132)) ∧ zPT V 65 (zkc (V 132)) (fun _ => True) (fun _ => 0) ∧ zPL V 71 ∧ zTl V (zkc (V 132)) ∧ zPri V (zkc (V 132)) ∧ zIm T V ∧ zWd V
theorem zJ.str {n : Int} {T : zT} {V : zM} (h : zJ n T V) : zStr T := h.1
theorem zJ.geo {n : Int} {T : zT} {V : zM} (h : zJ n T V) : zGeo T V := h.2.1
theorem zJ.sr {n : Int} {T : zT} {V : zM} (h : zJ n T V) : zSR V 1 (V 132) := h.2.2.1
theorem zJ.ok {n : Int} {T : zT} {V : zM} (h : zJ n T V) : zKok (V 132) := h.2.2.2.1
theorem zJ.tape {n : Int} {T : zT} {V : zM} (h : zJ n T V) : zTape V := h.2.2.2.2.1
theorem zJ.sc {n : Int} {T : zT} {V : zM} (h : zJ n T V) : zSc n V := h.2.2.2.2.2.1
theorem zJ.rd {n : Int} {T : zT} {V : zM} (h : zJ n T V) : zRd V (zkc (V 132)) := h.2.2.2.2.2.2.1
theorem zJ.pt {n : Int} {T : zT} {V : zM} (h : zJ n T V) : zPT V 65 (zkc (V 132)) (fun _ => True) (fun _ => 0) := h.2.2.2.2.2.2.2.1
theorem zJ.pl {n : Int} {T : zT} {V : zM} (h : zJ n T V) : zPL V 71 := h.2.2.2.2.2.2.2.2.1
theorem zJ.tl {n : Int} {T : zT} {V : zM} (h : zJ n T V) : zTl V (zkc (V 132)) := h.2.2.2.2.2.2.2.2.2.1
theorem zJ.pr {n : Int} {T : zT} {V : zM} (h : zJ n T V) : zPri V (zkc (V 132)) := h.2.2.2.2.2.2.2.2.2.2.1
theorem zJ.im {n : Int} {T : zT} {V : zM} (h : zJ n T V) : zIm T V := h.2.2.2.2.2.2.2.2.2.2.2.1
theorem zJ.wd {n : Int} {T : zT} {V : zM} (h : zJ n T V) : zWd V := h.2.2.2.2.2.2.2.2.2.2.2.2
