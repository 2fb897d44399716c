/-! new objects: Tongue, Yards, State -/
theorem zal {T : zT} {q f c n : Int} (k : Nat) (hk : n.toNat = k) (hq : 0 ≤ q ∧ q < zsz T) : ∃ T', zqw (zn T c n) q f (zsz T) = T' ∧ zHx T T' (fun x k => x = q ∧ k = f) ∧ zsz T' = zsz T + 1 ∧ T'.2.1 = T.2.1 + k ∧ zAr T' (zsz T) c n ∧ zp T' q f = zsz T := by
  refine ⟨_, rfl, zHx_m (zHx_t (zHx_n T c n (fun _ _ => False)) (zHx_q (zn T c n) q f (zsz T))) (fun x k _ z => z.elim (fun z => z.elim) id), ?_, ?_, zAr_x (zHx_q (zn T c n) q f (zsz T)) (zAr_n T c n), ?_⟩
  · rw [zsz_q, zsz_n]
  · rw [zsl_q, zsl_n, hk]
  · rw [zp_q, if_pos ⟨rfl, rfl⟩]
theorem zvz {V : zM} {a : Int} : ∃ V', zs V a (fun _ => 0) = V' ∧ (∀ r, r ≠ a → V' r = V r) ∧ V' a = fun _ => 0 := ⟨_, rfl, fun r hr => zsr_ne hr, zsr_same⟩
theorem zna {q k : Int} {T : zT} (h : zsz T = q + k) (hk : 0 < k) : q < zsz T := by omega
theorem znb {r q : Int} (k : Int) (h : r ≤ q) (hk : 0 < k) : r ≠ q + k := by omega
theorem znc {q : Int} {T T' : zT} (k : Int) (h : zsz T' = zsz T + 1) (g : zsz T = q + k) : zsz T' = q + (k + 1) := by omega
theorem znd {q k : Int} (hk : 0 < k) : ¬ (q + k = q) := by omega
theorem zne {r q : Int} (k : Int) (h : r ≤ q) (hk : 0 ≤ k) : r ≤ q + k := by omega
theorem zl7 {r q : Int} (h1 : q < r) (h2 : r ≤ q + 7) (d7 : ¬ r = q + 7) (d6 : ¬ r = q + 6) (d5 : ¬ r = q + 5) (d4 : ¬ r = q + 4) (d3 : ¬ r = q + 3) (d2 : ¬ r = q + 2) : r = q + 1 := by omega
theorem zl5 {r q : Int} (h1 : q < r) (h2 : r ≤ q + 5) (d5 : ¬ r = q + 5) (d4 : ¬ r = q + 4) (d3 : ¬ r = q + 3) (d2 : ¬ r = q + 2) : r = q + 1 := by omega
theorem znx {a b f : Int} (h : f < a) {q x k : Int} (z : (x = q ∧ k = a) ∨ (x = q ∧ a < k)) : x = q ∧ f < k := by omega
section NEWS
variable {T : zT} {V : zM} {q : Int}
theorem zc4 (hO : zO T q 9) (hz : zsz T = q + 1) : ∃ T' V', zcall 4 [(2, q)] T V = some ((9, 0), T', V') ∧ zTongue T' q ∧ zsz T' = q + 8 ∧ T'.2.1 = T.2.1 + 136 ∧ zHx T T' (fun x _ => x = q) ∧ (∀ r, r ≤ q → V' r = V r) ∧ ∀ r, q < r → r ≤ q + 7 → V' r = fun _ => 0 := by
  have zqh := hO.1
  rw [e4]
  obtain ⟨zqT1, zqe1, zqx1, zqu1, zql1, zqa1, zqp1⟩ := zal (T := T) (q := q) (f := 0) (c := 0) (n := 26) 26 rfl ⟨zqh, zna hz (by decide)⟩
  obtain ⟨zqV1, zqw1, zqv1, zqz1⟩ := zvz (V := V) (a := zsz T)
  have zqo1 : zO zqT1 q 9 := zO_x zqx1 hO
  have zqs1 : zsz zqT1 = q + 2 := znc 1 zqu1 hz
  rw [b4_0 zqh, o4_9 (zO_x (zHx_n T 0 26 (fun _ _ => False)) hO), zqw1, zqe1]
  rw [hz] at zqa1 zqp1 zqv1 zqz1
  obtain ⟨zqT2, zqe2, zqx2, zqu2, zql2, zqa2, zqp2⟩ := zal (T := zqT1) (q := q) (f := 1) (c := 0) (n := 26) 26 rfl ⟨zqh, zna zqs1 (by decide)⟩
  obtain ⟨zqV2, zqw2, zqv2, zqz2⟩ := zvz (V := zqV1) (a := zsz zqT1)
  have zqo2 : zO zqT2 q 9 := zO_x zqx2 zqo1
  have zqs2 : zsz zqT2 = q + 3 := znc 2 zqu2 zqs1
  rw [b4_12, o4_17 (zO_x (zHx_n zqT1 0 26 (fun _ _ => False)) zqo1), zqw2, zqe2]
  rw [zqs1] at zqa2 zqp2 zqv2 zqz2
  obtain ⟨zqT3, zqe3, zqx3, zqu3, zql3, zqa3, zqp3⟩ := zal (T := zqT2) (q := q) (f := 2) (c := 0) (n := 8) 8 rfl ⟨zqh, zna zqs2 (by decide)⟩
  obtain ⟨zqV3, zqw3, zqv3, zqz3⟩ := zvz (V := zqV2) (a := zsz zqT2)
  have zqo3 : zO zqT3 q 9 := zO_x zqx3 zqo2
  have zqs3 : zsz zqT3 = q + 4 := znc 3 zqu3 zqs2
  rw [b4_20, o4_25 (zO_x (zHx_n zqT2 0 8 (fun _ _ => False)) zqo2), zqw3, zqe3]
  rw [zqs2] at zqa3 zqp3 zqv3 zqz3
  obtain ⟨zqT4, zqe4, zqx4, zqu4, zql4, zqa4, zqp4⟩ := zal (T := zqT3) (q := q) (f := 3) (c := 0) (n := 8) 8 rfl ⟨zqh, zna zqs3 (by decide)⟩
  obtain ⟨zqV4, zqw4, zqv4, zqz4⟩ := zvz (V := zqV3) (a := zsz zqT3)
  have zqo4 : zO zqT4 q 9 := zO_x zqx4 zqo3
  have zqs4 : zsz zqT4 = q + 5 := znc 4 zqu4 zqs3
  rw [b4_28, o4_33 (zO_x (zHx_n zqT3 0 8 (fun _ _ => False)) zqo3), zqw4, zqe4]
  rw [zqs3] at zqa4 zqp4 zqv4 zqz4
  obtain ⟨zqT5, zqe5, zqx5, zqu5, zql5, zqa5, zqp5⟩ := zal (T := zqT4) (q := q) (f := 4) (c := 0) (n := 48) 48 rfl ⟨zqh, zna zqs4 (by decide)⟩
  obtain ⟨zqV5, zqw5, zqv5, zqz5⟩ := zvz (V := zqV4) (a := zsz zqT4)
  have zqo5 : zO zqT5 q 9 := zO_x zqx5 zqo4
  have zqs5 : zsz zqT5 = q + 6 := znc 5 zqu5 zqs4
  rw [b4_36, o4_41 (zO_x (zHx_n zqT4 0 48 (fun _ _ => False)) zqo4), zqw5, zqe5]
  rw [zqs4] at zqa5 zqp5 zqv5 zqz5
  obtain ⟨zqT6, zqe6, zqx6, zqu6, zql6, zqa6, zqp6⟩ := zal (T := zqT5) (q := q) (f := 6) (c := 0) (n := 16) 16 rfl ⟨zqh, zna zqs5 (by decide)⟩
  obtain ⟨zqV6, zqw6, zqv6, zqz6⟩ := zvz (V := zqV5) (a := zsz zqT5)
  have zqo6 : zO zqT6 q 9 := zO_x zqx6 zqo5
  have zqs6 : zsz zqT6 = q + 7 := znc 6 zqu6 zqs5
  rw [b4_44, o4_49 (zO_x (zHx_n zqT5 0 16 (fun _ _ => False)) zqo5), zqw6, zqe6]
  rw [zqs5] at zqa6 zqp6 zqv6 zqz6
  obtain ⟨zqT7, zqe7, zqx7, zqu7, zql7, zqa7, zqp7⟩ := zal (T := zqT6) (q := q) (f := 8) (c := 0) (n := 4) 4 rfl ⟨zqh, zna zqs6 (by decide)⟩
  obtain ⟨zqV7, zqw7, zqv7, zqz7⟩ := zvz (V := zqV6) (a := zsz zqT6)
  have zqo7 : zO zqT7 q 9 := zO_x zqx7 zqo6
  have zqs7 : zsz zqT7 = q + 8 := znc 7 zqu7 zqs6
  rw [b4_52, o4_56 (zO_x (zHx_n zqT6 0 4 (fun _ _ => False)) zqo6), zqw7, zqe7]
  rw [zqs6] at zqa7 zqp7 zqv7 zqz7
  rw [b4_59]
  have zqX7 : zHx zqT7 zqT7 (fun x k => x = q ∧ 8 < k) := zHx_r _ _
  have zqX6 : zHx zqT6 zqT7 (fun x k => x = q ∧ 6 < k) := zHx_m (zHx_t zqx7 zqX7) (fun x k _ z => znx (b := 0) (by decide) z)
  have zqX5 : zHx zqT5 zqT7 (fun x k => x = q ∧ 4 < k) := zHx_m (zHx_t zqx6 zqX6) (fun x k _ z => znx (b := 0) (by decide) z)
  have zqX4 : zHx zqT4 zqT7 (fun x k => x = q ∧ 3 < k) := zHx_m (zHx_t zqx5 zqX5) (fun x k _ z => znx (b := 0) (by decide) z)
  have zqX3 : zHx zqT3 zqT7 (fun x k => x = q ∧ 2 < k) := zHx_m (zHx_t zqx4 zqX4) (fun x k _ z => znx (b := 0) (by decide) z)
  have zqX2 : zHx zqT2 zqT7 (fun x k => x = q ∧ 1 < k) := zHx_m (zHx_t zqx3 zqX3) (fun x k _ z => znx (b := 0) (by decide) z)
  have zqX1 : zHx zqT1 zqT7 (fun x k => x = q ∧ 0 < k) := zHx_m (zHx_t zqx2 zqX2) (fun x k _ z => znx (b := 0) (by decide) z)
  have zqX0 : zHx T zqT7 (fun x _ => x = q) := zHx_m (zHx_t zqx1 zqX1) (fun x k _ z => z.elim (fun z => z.1) (fun z => z.1))
  have zqP1 : zp zqT7 q 0 = q + 1 := by rw [zqX1.2.2 q 0 (zna zqs1 (by decide)) (fun z => absurd z.2 (by decide)), zqp1]
  have zqA1 : zAr zqT7 (q + 1) 0 26 := zAr_x zqX1 zqa1
  have zqP2 : zp zqT7 q 1 = q + 2 := by rw [zqX2.2.2 q 1 (zna zqs2 (by decide)) (fun z => absurd z.2 (by decide)), zqp2]
  have zqA2 : zAr zqT7 (q + 2) 0 26 := zAr_x zqX2 zqa2
  have zqP3 : zp zqT7 q 2 = q + 3 := by rw [zqX3.2.2 q 2 (zna zqs3 (by decide)) (fun z => absurd z.2 (by decide)), zqp3]
  have zqA3 : zAr zqT7 (q + 3) 0 8 := zAr_x zqX3 zqa3
  have zqP4 : zp zqT7 q 3 = q + 4 := by rw [zqX4.2.2 q 3 (zna zqs4 (by decide)) (fun z => absurd z.2 (by decide)), zqp4]
  have zqA4 : zAr zqT7 (q + 4) 0 8 := zAr_x zqX4 zqa4
  have zqP5 : zp zqT7 q 4 = q + 5 := by rw [zqX5.2.2 q 4 (zna zqs5 (by decide)) (fun z => absurd z.2 (by decide)), zqp5]
  have zqA5 : zAr zqT7 (q + 5) 0 48 := zAr_x zqX5 zqa5
  have zqP6 : zp zqT7 q 6 = q + 6 := by rw [zqX6.2.2 q 6 (zna zqs6 (by decide)) (fun z => absurd z.2 (by decide)), zqp6]
  have zqA6 : zAr zqT7 (q + 6) 0 16 := zAr_x zqX6 zqa6
  have zqP7 : zp zqT7 q 8 = q + 7 := by rw [zqX7.2.2 q 8 (zna zqs7 (by decide)) (fun z => absurd z.2 (by decide)), zqp7]
  have zqA7 : zAr zqT7 (q + 7) 0 4 := zAr_x zqX7 zqa7
  refine ⟨zqT7, zqV7, rfl, ⟨zO_x zqX0 hO, zqP1, zqP2, zqP3, zqP4, zqP5, zqP6, zqP7, zqA1, zqA2, zqA3, zqA4, zqA5, zqA6, zqA7⟩, zqs7, by rw [zql7, zql6, zql5, zql4, zql3, zql2, zql1], zqX0, fun r hr => ?_, fun r zqh1 zqh2 => ?_⟩
  · rw [zqv7 r (znb 7 hr (by decide)), zqv6 r (znb 6 hr (by decide)), zqv5 r (znb 5 hr (by decide)), zqv4 r (znb 4 hr (by decide)), zqv3 r (znb 3 hr (by decide)), zqv2 r (znb 2 hr (by decide)), zqv1 r (znb 1 hr (by decide))]
  · by_cases zqd7 : r = q + 7
    · rw [zqd7, zqz7]
    rw [zqv7 r zqd7]
    by_cases zqd6 : r = q + 6
    · rw [zqd6, zqz6]
    rw [zqv6 r zqd6]
    by_cases zqd5 : r = q + 5
    · rw [zqd5, zqz5]
    rw [zqv5 r zqd5]
    by_cases zqd4 : r = q + 4
    · rw [zqd4, zqz4]
    rw [zqv4 r zqd4]
    by_cases zqd3 : r = q + 3
    · rw [zqd3, zqz3]
    rw [zqv3 r zqd3]
    by_cases zqd2 : r = q + 2
    · rw [zqd2, zqz2]
    rw [zqv2 r zqd2, zl7 zqh1 zqh2 zqd7 zqd6 zqd5 zqd4 zqd3 zqd2, zqz1]
theorem zc5 (hO : zO T q 10) (hz : zsz T = q + 1) : ∃ T' V', zcall 5 [(2, q)] T V = some ((9, 0), T', V') ∧ zYards T' q ∧ zsz T' = q + 6 ∧ T'.2.1 = T.2.1 + 50 ∧ zHx T T' (fun x _ => x = q) ∧ (∀ r, r ≤ q → V' r = V r) ∧ ∀ r, q < r → r ≤ q + 5 → V' r = fun _ => 0 := by
  have zqh := hO.1
  rw [e5]
  obtain ⟨zqT1, zqe1, zqx1, zqu1, zql1, zqa1, zqp1⟩ := zal (T := T) (q := q) (f := 0) (c := 0) (n := 10) 10 rfl ⟨zqh, zna hz (by decide)⟩
  obtain ⟨zqV1, zqw1, zqv1, zqz1⟩ := zvz (V := V) (a := zsz T)
  have zqo1 : zO zqT1 q 10 := zO_x zqx1 hO
  have zqs1 : zsz zqT1 = q + 2 := znc 1 zqu1 hz
  rw [b5_0 zqh, o5_9 (zO_x (zHx_n T 0 10 (fun _ _ => False)) hO), zqw1, zqe1]
  rw [hz] at zqa1 zqp1 zqv1 zqz1
  obtain ⟨zqT2, zqe2, zqx2, zqu2, zql2, zqa2, zqp2⟩ := zal (T := zqT1) (q := q) (f := 1) (c := 0) (n := 10) 10 rfl ⟨zqh, zna zqs1 (by decide)⟩
  obtain ⟨zqV2, zqw2, zqv2, zqz2⟩ := zvz (V := zqV1) (a := zsz zqT1)
  have zqo2 : zO zqT2 q 10 := zO_x zqx2 zqo1
  have zqs2 : zsz zqT2 = q + 3 := znc 2 zqu2 zqs1
  rw [b5_12, o5_17 (zO_x (zHx_n zqT1 0 10 (fun _ _ => False)) zqo1), zqw2, zqe2]
  rw [zqs1] at zqa2 zqp2 zqv2 zqz2
  obtain ⟨zqT3, zqe3, zqx3, zqu3, zql3, zqa3, zqp3⟩ := zal (T := zqT2) (q := q) (f := 2) (c := 0) (n := 10) 10 rfl ⟨zqh, zna zqs2 (by decide)⟩
  obtain ⟨zqV3, zqw3, zqv3, zqz3⟩ := zvz (V := zqV2) (a := zsz zqT2)
  have zqo3 : zO zqT3 q 10 := zO_x zqx3 zqo2
  have zqs3 : zsz zqT3 = q + 4 := znc 3 zqu3 zqs2
  rw [b5_20, o5_25 (zO_x (zHx_n zqT2 0 10 (fun _ _ => False)) zqo2), zqw3, zqe3]
  rw [zqs2] at zqa3 zqp3 zqv3 zqz3
  obtain ⟨zqT4, zqe4, zqx4, zqu4, zql4, zqa4, zqp4⟩ := zal (T := zqT3) (q := q) (f := 3) (c := 0) (n := 10) 10 rfl ⟨zqh, zna zqs3 (by decide)⟩
  obtain ⟨zqV4, zqw4, zqv4, zqz4⟩ := zvz (V := zqV3) (a := zsz zqT3)
  have zqo4 : zO zqT4 q 10 := zO_x zqx4 zqo3
  have zqs4 : zsz zqT4 = q + 5 := znc 4 zqu4 zqs3
  rw [b5_28, o5_33 (zO_x (zHx_n zqT3 0 10 (fun _ _ => False)) zqo3), zqw4, zqe4]
  rw [zqs3] at zqa4 zqp4 zqv4 zqz4
  obtain ⟨zqT5, zqe5, zqx5, zqu5, zql5, zqa5, zqp5⟩ := zal (T := zqT4) (q := q) (f := 4) (c := 0) (n := 10) 10 rfl ⟨zqh, zna zqs4 (by decide)⟩
  obtain ⟨zqV5, zqw5, zqv5, zqz5⟩ := zvz (V := zqV4) (a := zsz zqT4)
  have zqo5 : zO zqT5 q 10 := zO_x zqx5 zqo4
  have zqs5 : zsz zqT5 = q + 6 := znc 5 zqu5 zqs4
  rw [b5_36, o5_41 (zO_x (zHx_n zqT4 0 10 (fun _ _ => False)) zqo4), zqw5, zqe5]
  rw [zqs4] at zqa5 zqp5 zqv5 zqz5
  rw [b5_44]
  have zqX5 : zHx zqT5 zqT5 (fun x k => x = q ∧ 4 < k) := zHx_r _ _
  have zqX4 : zHx zqT4 zqT5 (fun x k => x = q ∧ 3 < k) := zHx_m (zHx_t zqx5 zqX5) (fun x k _ z => znx (b := 0) (by decide) z)
  have zqX3 : zHx zqT3 zqT5 (fun x k => x = q ∧ 2 < k) := zHx_m (zHx_t zqx4 zqX4) (fun x k _ z => znx (b := 0) (by decide) z)
  have zqX2 : zHx zqT2 zqT5 (fun x k => x = q ∧ 1 < k) := zHx_m (zHx_t zqx3 zqX3) (fun x k _ z => znx (b := 0) (by decide) z)
  have zqX1 : zHx zqT1 zqT5 (fun x k => x = q ∧ 0 < k) := zHx_m (zHx_t zqx2 zqX2) (fun x k _ z => znx (b := 0) (by decide) z)
  have zqX0 : zHx T zqT5 (fun x _ => x = q) := zHx_m (zHx_t zqx1 zqX1) (fun x k _ z => z.elim (fun z => z.1) (fun z => z.1))
  have zqP1 : zp zqT5 q 0 = q + 1 := by rw [zqX1.2.2 q 0 (zna zqs1 (by decide)) (fun z => absurd z.2 (by decide)), zqp1]
  have zqA1 : zAr zqT5 (q + 1) 0 10 := zAr_x zqX1 zqa1
  have zqP2 : zp zqT5 q 1 = q + 2 := by rw [zqX2.2.2 q 1 (zna zqs2 (by decide)) (fun z => absurd z.2 (by decide)), zqp2]
  have zqA2 : zAr zqT5 (q + 2) 0 10 := zAr_x zqX2 zqa2
  have zqP3 : zp zqT5 q 2 = q + 3 := by rw [zqX3.2.2 q 2 (zna zqs3 (by decide)) (fun z => absurd z.2 (by decide)), zqp3]
  have zqA3 : zAr zqT5 (q + 3) 0 10 := zAr_x zqX3 zqa3
  have zqP4 : zp zqT5 q 3 = q + 4 := by rw [zqX4.2.2 q 3 (zna zqs4 (by decide)) (fun z => absurd z.2 (by decide)), zqp4]
  have zqA4 : zAr zqT5 (q + 4) 0 10 := zAr_x zqX4 zqa4
  have zqP5 : zp zqT5 q 4 = q + 5 := by rw [zqX5.2.2 q 4 (zna zqs5 (by decide)) (fun z => absurd z.2 (by decide)), zqp5]
  have zqA5 : zAr zqT5 (q + 5) 0 10 := zAr_x zqX5 zqa5
  refine ⟨zqT5, zqV5, rfl, ⟨zO_x zqX0 hO, zqP1, zqP2, zqP3, zqP4, zqP5, zqA1, zqA2, zqA3, zqA4, zqA5⟩, zqs5, by rw [zql5, zql4, zql3, zql2, zql1], zqX0, fun r hr => ?_, fun r zqh1 zqh2 => ?_⟩
  · rw [zqv5 r (znb 5 hr (by decide)), zqv4 r (znb 4 hr (by decide)), zqv3 r (znb 3 hr (by decide)), zqv2 r (znb 2 hr (by decide)), zqv1 r (znb 1 hr (by decide))]
  · by_cases zqd5 : r = q + 5
    · rw [zqd5, zqz5]
    rw [zqv5 r zqd5]
    by_cases zqd4 : r = q + 4
    · rw [zqd4, zqz4]
    rw [zqv4 r zqd4]
    by_cases zqd3 : r = q + 3
    · rw [zqd3, zqz3]
    rw [zqv3 r zqd3]
    by_cases zqd2 : r = q + 2
    · rw [zqd2, zqz2]
    rw [zqv2 r zqd2, zl5 zqh1 zqh2 zqd5 zqd4 zqd3 zqd2, zqz1]
theorem zc3 (hO : zO T q 6) (hz : zsz T = q + 1) : ∃ T' V', zcall 3 [(2, q)] T V = some ((9, 0), T', V') ∧ zState T' q ∧ zsz T' = q + 27 ∧ T'.2.1 = T.2.1 + 394 ∧ zHx T T' (fun x _ => x = q) ∧ (zAr T' (q + 5) 19 10 ∧ zAr T' (q + 13) 19 10 ∧ zAr T' (q + 21) 20 6) ∧ (∀ r, r < q → V' r = V r) ∧ (V' q 0 = 8 ∧ ∀ j, j ≠ 0 → V' q j = V q j) ∧ (∀ i, 0 ≤ i → i < 7 → V' (q + 3) i = i + 1 ∧ V' (q + 4) i = 1) ∧ ∀ r, q < r → r ≤ q + 26 → r ≠ q + 3 → r ≠ q + 4 → V' r = fun _ => 0 := by
  have zqh := hO.1
  rw [e3]
  obtain ⟨zqV0, zqy0⟩ : ∃ V0, zwr V q 0 8 = V0 := ⟨_, rfl⟩
  obtain ⟨zqT1, zqe1, zqx1, zqu1, zql1, zqa1, zqp1⟩ := zal (T := T) (q := q) (f := 1) (c := 0) (n := 16) 16 rfl ⟨zqh, zna hz (by decide)⟩
  obtain ⟨zqV1, zqw1, zqv1, zqz1⟩ := zvz (V := zqV0) (a := zsz T)
  have zqo1 : zO zqT1 q 6 := zO_x zqx1 hO
  have zqs1 : zsz zqT1 = q + 2 := znc 1 zqu1 hz
  rw [o3_0 zqh hO, o3_15 (zO_x (zHx_n T 0 16 (fun _ _ => False)) hO), zqy0, zqw1, zqe1]
  rw [hz] at zqa1 zqp1 zqv1 zqz1
  obtain ⟨zqT2, zqe2, zqx2, zqu2, zql2, zqa2, zqp2⟩ := zal (T := zqT1) (q := q) (f := 2) (c := 0) (n := 16) 16 rfl ⟨zqh, zna zqs1 (by decide)⟩
  obtain ⟨zqV2, zqw2, zqv2, zqz2⟩ := zvz (V := zqV1) (a := zsz zqT1)
  have zqo2 : zO zqT2 q 6 := zO_x zqx2 zqo1
  have zqs2 : zsz zqT2 = q + 3 := znc 2 zqu2 zqs1
  rw [b3_18, o3_23 (zO_x (zHx_n zqT1 0 16 (fun _ _ => False)) zqo1), zqw2, zqe2]
  rw [zqs1] at zqa2 zqp2 zqv2 zqz2
  obtain ⟨zqT3, zqe3, zqx3, zqu3, zql3, zqa3, zqp3⟩ := zal (T := zqT2) (q := q) (f := 3) (c := 0) (n := 7) 7 rfl ⟨zqh, zna zqs2 (by decide)⟩
  obtain ⟨zqV3, zqw3, zqv3, zqz3⟩ := zvz (V := zqV2) (a := zsz zqT2)
  have zqo3 : zO zqT3 q 6 := zO_x zqx3 zqo2
  have zqs3 : zsz zqT3 = q + 4 := znc 3 zqu3 zqs2
  rw [b3_26, o3_31 (zO_x (zHx_n zqT2 0 7 (fun _ _ => False)) zqo2), zqw3, zqe3]
  rw [zqs2] at zqa3 zqp3 zqv3 zqz3
  obtain ⟨zqT4, zqe4, zqx4, zqu4, zql4, zqa4, zqp4⟩ := zal (T := zqT3) (q := q) (f := 4) (c := 0) (n := 7) 7 rfl ⟨zqh, zna zqs3 (by decide)⟩
  obtain ⟨zqV4, zqw4, zqv4, zqz4⟩ := zvz (V := zqV3) (a := zsz zqT3)
  have zqo4 : zO zqT4 q 6 := zO_x zqx4 zqo3
  have zqs4 : zsz zqT4 = q + 5 := znc 4 zqu4 zqs3
  rw [b3_34, o3_39 (zO_x (zHx_n zqT3 0 7 (fun _ _ => False)) zqo3), zqw4, zqe4]
  rw [zqs3] at zqa4 zqp4 zqv4 zqz4
  -- object at q + 5
  obtain ⟨zqW5, zqw5, zqv5, zqz5⟩ := zvz (V := zqV4) (a := zsz zqT4)
  obtain ⟨zqU5, zqeU5⟩ : ∃ U, zn zqT4 19 10 = U := ⟨_, rfl⟩
  have zqy5 : zHx zqT4 zqU5 (fun _ _ => False) := by rw [← zqeU5]; exact zHx_n zqT4 19 10 _
  have zqoU5 : zO zqU5 (zsz zqT4) 9 := by rw [← zqeU5]; exact zO_n zqT4 9 10
  have zqsU5 : zsz zqU5 = q + 5 + 1 := by rw [← zqeU5, zsz_n, zqs4]
  have zqlU5 : zqU5.2.1 = zqT4.2.1 + 10 := by rw [← zqeU5, zsl_n]; rfl
  have zqrU5 : zAr zqU5 (zsz zqT4) 19 10 := by rw [← zqeU5]; exact zAr_n zqT4 19 10
  rw [b3_42, zqw5, zqeU5, b3_46 (by rw [zqs4]; exact Int.add_nonneg zqh (by decide))]
  rw [zqs4] at zqoU5 zqrU5 zqv5 zqz5
  obtain ⟨zqB5, zqV5, zqf5, zqg5, zqsB5, zqlB5, zqyB5, zqvB5, zqzB5⟩ := zc4 (T := zqU5) (V := zqW5) (q := q + 5) zqoU5 zqsU5
  rw [zqs4, zqf5]
  simp only [Option.bind_some, zpush9]
  have zqhB5 : zO zqB5 q 6 := zO_x zqyB5 (zO_x zqy5 zqo4)
  obtain ⟨zqT5, zqeT5⟩ : ∃ T', zqw zqB5 q 5 (q + 5) = T' := ⟨_, rfl⟩
  have zqxq5 : zHx zqB5 zqT5 (fun x k => x = q ∧ k = 5) := by rw [← zqeT5]; exact zHx_q _ _ _ _
  have zqsT5 : zsz zqT5 = zsz zqB5 := by rw [← zqeT5]; rfl
  have zqlT5 : zqT5.2.1 = zqB5.2.1 := by rw [← zqeT5]; rfl
  have zqp5 : zp zqT5 q 5 = q + 5 := by rw [← zqeT5, zp_q, if_pos ⟨rfl, rfl⟩]
  have zqx5 : zHx zqT4 zqT5 (fun x k => x = q ∧ k = 5) := zHx_m (zHx_t zqy5 (zHx_t zqyB5 zqxq5)) (fun x k x1 z => by
    rcases z with z | z | z
    · exact z.elim
    · rw [z, zqs4] at x1; exact absurd x1 (Int.lt_irrefl _)
    · exact z)
  have zqG5 : zTongue zqT5 (q + 5) := zTongue_x zqg5 zqxq5 (fun k z => znd (by decide) z.1)
  have zqa5 : zAr zqT5 (q + 5) 19 10 := zAr_x zqxq5 (zAr_x zqyB5 zqrU5)
  have zqo5 : zO zqT5 q 6 := zO_x zqx5 zqo4
  have zqs5 : zsz zqT5 = q + 13 := by rw [zqsT5, zqsB5, Int.add_assoc]; rfl
  rw [o3_50 zqhB5, zqeT5]
  -- object at q + 13
  obtain ⟨zqW6, zqw6, zqv6, zqz6⟩ := zvz (V := zqV5) (a := zsz zqT5)
  obtain ⟨zqU6, zqeU6⟩ : ∃ U, zn zqT5 19 10 = U := ⟨_, rfl⟩
  have zqy6 : zHx zqT5 zqU6 (fun _ _ => False) := by rw [← zqeU6]; exact zHx_n zqT5 19 10 _
  have zqoU6 : zO zqU6 (zsz zqT5) 9 := by rw [← zqeU6]; exact zO_n zqT5 9 10
  have zqsU6 : zsz zqU6 = q + 13 + 1 := by rw [← zqeU6, zsz_n, zqs5]
  have zqlU6 : zqU6.2.1 = zqT5.2.1 + 10 := by rw [← zqeU6, zsl_n]; rfl
  have zqrU6 : zAr zqU6 (zsz zqT5) 19 10 := by rw [← zqeU6]; exact zAr_n zqT5 19 10
  rw [b3_53, zqw6, zqeU6, b3_57 (by rw [zqs5]; exact Int.add_nonneg zqh (by decide))]
  rw [zqs5] at zqoU6 zqrU6 zqv6 zqz6
  obtain ⟨zqB6, zqV6, zqf6, zqg6, zqsB6, zqlB6, zqyB6, zqvB6, zqzB6⟩ := zc4 (T := zqU6) (V := zqW6) (q := q + 13) zqoU6 zqsU6
  rw [zqs5, zqf6]
  simp only [Option.bind_some, zpush9]
  have zqhB6 : zO zqB6 q 6 := zO_x zqyB6 (zO_x zqy6 zqo5)
  obtain ⟨zqT6, zqeT6⟩ : ∃ T', zqw zqB6 q 6 (q + 13) = T' := ⟨_, rfl⟩
  have zqxq6 : zHx zqB6 zqT6 (fun x k => x = q ∧ k = 6) := by rw [← zqeT6]; exact zHx_q _ _ _ _
  have zqsT6 : zsz zqT6 = zsz zqB6 := by rw [← zqeT6]; rfl
  have zqlT6 : zqT6.2.1 = zqB6.2.1 := by rw [← zqeT6]; rfl
  have zqp6 : zp zqT6 q 6 = q + 13 := by rw [← zqeT6, zp_q, if_pos ⟨rfl, rfl⟩]
  have zqx6 : zHx zqT5 zqT6 (fun x k => x = q ∧ k = 6) := zHx_m (zHx_t zqy6 (zHx_t zqyB6 zqxq6)) (fun x k x1 z => by
    rcases z with z | z | z
    · exact z.elim
    · rw [z, zqs5] at x1; exact absurd x1 (Int.lt_irrefl _)
    · exact z)
  have zqG6 : zTongue zqT6 (q + 13) := zTongue_x zqg6 zqxq6 (fun k z => znd (by decide) z.1)
  have zqa6 : zAr zqT6 (q + 13) 19 10 := zAr_x zqxq6 (zAr_x zqyB6 zqrU6)
  have zqo6 : zO zqT6 q 6 := zO_x zqx6 zqo5
  have zqs6 : zsz zqT6 = q + 21 := by rw [zqsT6, zqsB6, Int.add_assoc]; rfl
  rw [o3_61 zqhB6, zqeT6]
  -- object at q + 21
  obtain ⟨zqW7, zqw7, zqv7, zqz7⟩ := zvz (V := zqV6) (a := zsz zqT6)
  obtain ⟨zqU7, zqeU7⟩ : ∃ U, zn zqT6 20 6 = U := ⟨_, rfl⟩
  have zqy7 : zHx zqT6 zqU7 (fun _ _ => False) := by rw [← zqeU7]; exact zHx_n zqT6 20 6 _
  have zqoU7 : zO zqU7 (zsz zqT6) 10 := by rw [← zqeU7]; exact zO_n zqT6 10 6
  have zqsU7 : zsz zqU7 = q + 21 + 1 := by rw [← zqeU7, zsz_n, zqs6]
  have zqlU7 : zqU7.2.1 = zqT6.2.1 + 6 := by rw [← zqeU7, zsl_n]; rfl
  have zqrU7 : zAr zqU7 (zsz zqT6) 20 6 := by rw [← zqeU7]; exact zAr_n zqT6 20 6
  rw [b3_64, zqw7, zqeU7, b3_68 (by rw [zqs6]; exact Int.add_nonneg zqh (by decide))]
  rw [zqs6] at zqoU7 zqrU7 zqv7 zqz7
  obtain ⟨zqB7, zqV7, zqf7, zqg7, zqsB7, zqlB7, zqyB7, zqvB7, zqzB7⟩ := zc5 (T := zqU7) (V := zqW7) (q := q + 21) zqoU7 zqsU7
  rw [zqs6, zqf7]
  simp only [Option.bind_some, zpush9]
  have zqhB7 : zO zqB7 q 6 := zO_x zqyB7 (zO_x zqy7 zqo6)
  obtain ⟨zqT7, zqeT7⟩ : ∃ T', zqw zqB7 q 7 (q + 21) = T' := ⟨_, rfl⟩
  have zqxq7 : zHx zqB7 zqT7 (fun x k => x = q ∧ k = 7) := by rw [← zqeT7]; exact zHx_q _ _ _ _
  have zqsT7 : zsz zqT7 = zsz zqB7 := by rw [← zqeT7]; rfl
  have zqlT7 : zqT7.2.1 = zqB7.2.1 := by rw [← zqeT7]; rfl
  have zqp7 : zp zqT7 q 7 = q + 21 := by rw [← zqeT7, zp_q, if_pos ⟨rfl, rfl⟩]
  have zqx7 : zHx zqT6 zqT7 (fun x k => x = q ∧ k = 7) := zHx_m (zHx_t zqy7 (zHx_t zqyB7 zqxq7)) (fun x k x1 z => by
    rcases z with z | z | z
    · exact z.elim
    · rw [z, zqs6] at x1; exact absurd x1 (Int.lt_irrefl _)
    · exact z)
  have zqG7 : zYards zqT7 (q + 21) := zYards_x zqg7 zqxq7 (fun k z => znd (by decide) z.1)
  have zqa7 : zAr zqT7 (q + 21) 20 6 := zAr_x zqxq7 (zAr_x zqyB7 zqrU7)
  have zqo7 : zO zqT7 q 6 := zO_x zqx7 zqo6
  have zqs7 : zsz zqT7 = q + 27 := by rw [zqsT7, zqsB7, Int.add_assoc]; rfl
  rw [o3_72 zqhB7, zqeT7]
  have zqX7 : zHx zqT7 zqT7 (fun x k => x = q ∧ 7 < k) := zHx_r _ _
  have zqX6 : zHx zqT6 zqT7 (fun x k => x = q ∧ 6 < k) := zHx_m (zHx_t zqx7 zqX7) (fun x k _ z => znx (b := 0) (by decide) z)
  have zqX5 : zHx zqT5 zqT7 (fun x k => x = q ∧ 5 < k) := zHx_m (zHx_t zqx6 zqX6) (fun x k _ z => znx (b := 0) (by decide) z)
  have zqX4 : zHx zqT4 zqT7 (fun x k => x = q ∧ 4 < k) := zHx_m (zHx_t zqx5 zqX5) (fun x k _ z => znx (b := 0) (by decide) z)
  have zqX3 : zHx zqT3 zqT7 (fun x k => x = q ∧ 3 < k) := zHx_m (zHx_t zqx4 zqX4) (fun x k _ z => znx (b := 0) (by decide) z)
  have zqX2 : zHx zqT2 zqT7 (fun x k => x = q ∧ 2 < k) := zHx_m (zHx_t zqx3 zqX3) (fun x k _ z => znx (b := 0) (by decide) z)
  have zqX1 : zHx zqT1 zqT7 (fun x k => x = q ∧ 1 < k) := zHx_m (zHx_t zqx2 zqX2) (fun x k _ z => znx (b := 0) (by decide) z)
  have zqX0 : zHx T zqT7 (fun x _ => x = q) := zHx_m (zHx_t zqx1 zqX1) (fun x k _ z => z.elim (fun z => z.1) (fun z => z.1))
  have zqP1 : zp zqT7 q 1 = q + 1 := by rw [zqX1.2.2 q 1 (zna zqs1 (by decide)) (fun z => absurd z.2 (by decide)), zqp1]
  have zqP2 : zp zqT7 q 2 = q + 2 := by rw [zqX2.2.2 q 2 (zna zqs2 (by decide)) (fun z => absurd z.2 (by decide)), zqp2]
  have zqP3 : zp zqT7 q 3 = q + 3 := by rw [zqX3.2.2 q 3 (zna zqs3 (by decide)) (fun z => absurd z.2 (by decide)), zqp3]
  have zqP4 : zp zqT7 q 4 = q + 4 := by rw [zqX4.2.2 q 4 (zna zqs4 (by decide)) (fun z => absurd z.2 (by decide)), zqp4]
  have zqP5 : zp zqT7 q 5 = q + 5 := by rw [zqX5.2.2 q 5 (zna zqs5 (by decide)) (fun z => absurd z.2 (by decide)), zqp5]
  have zqP6 : zp zqT7 q 6 = q + 13 := by rw [zqX6.2.2 q 6 (zna zqs6 (by decide)) (fun z => absurd z.2 (by decide)), zqp6]
  have zqP7 : zp zqT7 q 7 = q + 21 := by rw [zqX7.2.2 q 7 (zna zqs7 (by decide)) (fun z => absurd z.2 (by decide)), zqp7]
  have zqA1 : zAr zqT7 (q + 1) 0 16 := zAr_x zqX1 zqa1
  have zqA2 : zAr zqT7 (q + 2) 0 16 := zAr_x zqX2 zqa2
  have zqA3 : zAr zqT7 (q + 3) 0 7 := zAr_x zqX3 zqa3
  have zqA4 : zAr zqT7 (q + 4) 0 7 := zAr_x zqX4 zqa4
  have zqst : zState zqT7 q := ⟨zO_x zqX0 hO, zqP1, zqP2, zqP3, zqP4, zqP5, zqP6, zqP7, zqA1, zqA2, zqA3, zqA4, zTongue_x zqG5 zqX5 (fun k z => znd (by decide) z.1), zTongue_x zqG6 zqX6 (fun k z => znd (by decide) z.1), zqG7⟩
  have zqsl : zqT7.2.1 = T.2.1 + 394 := by rw [zqlT7, zqlB7, zqlU7, zqlT6, zqlB6, zqlU6, zqlT5, zqlB5, zqlU5, zql4, zql3, zql2, zql1]
  have zqaa : zAr zqT7 (q + 5) 19 10 ∧ zAr zqT7 (q + 13) 19 10 ∧ zAr zqT7 (q + 21) 20 6 := ⟨zAr_x zqX5 zqa5, zAr_x zqX6 zqa6, zqa7⟩
  rw [b3_75]
  clear zqX1 zqP1 zqX2 zqP2 zqX3 zqP3 zqX4 zqP4 zqX5 zqP5 zqX6 zqP6 zqX7 zqP7 zqA1 zqA2 zqA3 zqA4 zqG5 zqa5 zqx5 zqp5 zqhB5 zqf5 zqg5 zqyB5 zqrU5 zqlU5 zqlB5 zqlT5 zqoU5 zqy5 zqxq5 zqw5 zqG6 zqa6 zqx6 zqp6 zqhB6 zqf6 zqg6 zqyB6 zqrU6 zqlU6 zqlB6 zqlT6 zqoU6 zqy6 zqxq6 zqw6 zqG7 zqa7 zqx7 zqp7 zqhB7 zqf7 zqg7 zqyB7 zqrU7 zqlU7 zqlB7 zqlT7 zqoU7 zqy7 zqxq7 zqw7 zqa1 zqp1 zqx1 zql1 zqw1 zqe1 zqa2 zqp2 zqx2 zql2 zqw2 zqe2 zqa3 zqp3 zqx3 zql3 zqw3 zqe3 zqa4 zqp4 zqx4 zql4 zqw4 zqe4
  clear zqsB5 zqsT5 zqsU5 zqsB6 zqsT6 zqsU6 zqsB7 zqsT7 zqsU7 zqu1 zqu2 zqu3 zqu4 zqo1 zqo2 zqo3 zqo4 zqo5 zqo6 zqo7
  clear zqeT7 zqeU7 zqeT6 zqeU6 zqeT5 zqeU5 zqs1 zqs2 zqs3 zqs4 zqs5 zqs6
  have low : ∀ r, r < q → zqV7 r = V r := fun r hr => by rw [zqvB7 r (by omega), zqv7 r (by omega), zqvB6 r (by omega), zqv6 r (by omega), zqvB5 r (by omega), zqv5 r (by omega), zqv4 r (by omega), zqv3 r (by omega), zqv2 r (by omega), zqv1 r (by omega), ← zqy0, zwr_ne (by omega)]
  have mid : zqV7 q = zqV0 q := by rw [zqvB7 q (by omega), zqv7 q (by omega), zqvB6 q (by omega), zqv6 q (by omega), zqvB5 q (by omega), zqv5 q (by omega), zqv4 q (by omega), zqv3 q (by omega), zqv2 q (by omega), zqv1 q (by omega)]
  have zz : ∀ r, q < r → r ≤ q + 26 → zqV7 r = fun _ => 0 := fun r h1 h2 => by
    by_cases c7 : q + 21 < r
    · exact zqzB7 r c7 (by omega)
    rw [zqvB7 r (by omega)]
    by_cases d7 : r = q + 21
    · rw [d7, zqz7]
    rw [zqv7 r d7]
    by_cases c6 : q + 13 < r
    · exact zqzB6 r c6 (by omega)
    rw [zqvB6 r (by omega)]
    by_cases d6 : r = q + 13
    · rw [d6, zqz6]
    rw [zqv6 r d6]
    by_cases c5 : q + 5 < r
    · exact zqzB5 r c5 (by omega)
    rw [zqvB5 r (by omega)]
    by_cases d5 : r = q + 5
    · rw [d5, zqz5]
    rw [zqv5 r d5]
    by_cases d4 : r = q + 4
    · rw [d4, zqz4]
    rw [zqv4 r d4]
    by_cases d3 : r = q + 3
    · rw [d3, zqz3]
    rw [zqv3 r d3]
    by_cases d2 : r = q + 2
    · rw [d2, zqz2]
    rw [zqv2 r d2, show r = q + 1 by omega, zqz1]
  have loop := zup (α := zM) (fun i V' => (∀ r, r ≠ q + 3 → r ≠ q + 4 → V' r = zqV7 r) ∧ ∀ j, 0 ≤ j → j < i → V' (q + 3) j = j + 1 ∧ V' (q + 4) j = 1) (fun i V' => zwp (ev 3 77 [(2, q), (0, i)] [] zqT7 V') fun r T' V' => r = (9, 0) ∧ T' = zqT7 ∧ (∀ r, r ≠ q + 3 → r ≠ q + 4 → V' r = zqV7 r) ∧ ∀ j, 0 ≤ j → j < 7 → V' (q + 3) j = j + 1 ∧ V' (q + 4) j = 1) (lo := 0) (hi := 7) (by decide) ?_ ?_ zqV7 ⟨fun _ _ _ => rfl, fun j h1 h2 => by omega⟩
  · obtain ⟨zqr, zqTf, zqVf, zqq1, zqq2, zqq3, zqq4, zqq5⟩ := loop
    subst zqq2
    rw [zqq3] at zqq1
    refine ⟨zqT7, zqVf, zqq1, zqst, zqs7, zqsl, zqX0, zqaa, fun r hr => by rw [zqq4 r (by omega) (by omega), low r hr], ⟨by rw [zqq4 q (by omega) (by omega), mid, ← zqy0, zwr_same, if_pos rfl], fun j hj => by rw [zqq4 q (by omega) (by omega), mid, ← zqy0, zwr_same, if_neg hj]⟩, zqq5, fun r h1 h2 h3 h4 => by rw [zqq4 r h3 h4, zz r h1 h2]⟩
  · rintro V' ⟨u1, u2⟩
    rw [b3_77, if_pos (by decide), b3_105]
    exact zwp_ret ⟨rfl, rfl, u1, u2⟩
  · rintro i V' i1 i2 ⟨u1, u2⟩ next
    rw [b3_77, if_neg (by omega), b3_83 zqst (by omega) (by omega)]
    refine next _ ⟨fun r h1 h2 => by rw [zwr_ne h2, zwr_ne h1, u1 r h1 h2], fun j j1 j2 => ?_⟩
    rw [zwr_ne (r := q + 3) (by omega), zwr_same, zwr_same, zwr_ne (by omega)]
    by_cases c : j = i
    · rw [if_pos c, if_pos c, c]; exact ⟨rfl, rfl⟩
    · rw [if_neg c, if_neg c]; exact u2 j j1 (by omega)
end NEWS
